/-! The class: a link, move by move. -/
section CLNK3
variable {tk pl vl wi wd : Nat → Nat} {nt nw N N0 N1 lc : Nat} {ex : Nat → Int32} {lit : Nat → Int64} {c c' c0 : ms} {A : ds} {m t sz C I K : Nat} {σ σ' : gs} {μ : Option (Nat × Nat)}
def OnL (tk pl wd : Nat → Nat) (nt nw : Nat) (lit : Nat → Int64) (lc : Nat) (A : ds) (m t sz : Nat) (c : ms) : Prop :=
  (∃ T, Xc c T sz (A.1 47 0)) ∧ DC pl wd nw lit lc A (A.1 41 0 + 1) (A.1 42 0) sz c ∧ c.1 248 0 = nI 1 ∧ c.1 253 0 = nI (A.1 44 0) ∧ (∀ d, A.1 5 d ≤ 20000) ∧ sz ≤ t ∧ c.1 260 0 = nI 0 ∧ WF tk nt A t ∧ LV A m ∧ PF A
def MdL (tk pl wd : Nat → Nat) (nt nw : Nat) (lit : Nat → Int64) (lc : Nat) (A : ds) (m t sz : Nat) (c : ms) (μ : Option (Nat × Nat)) : Prop := (∀ fp, μ = some fp → OffN nw c fp.1 fp.2) ∧ (μ = none → OnL tk pl wd nt nw lit lc A m t sz c)
def MrL (tk pl wd : Nat → Nat) (nt nw : Nat) (lit : Nat → Int64) (lc : Nat) (μ : Option (Nat × Nat)) (r : dr) (m u sz : Nat) (c : ms) : Prop := (∀ fp, μ = some fp → OffN nw c fp.1 fp.2) ∧ (μ = none → ∃ q, r = some q ∧ (∀ f p, q = .inl (f, p) → OffN nw c f p) ∧ (∀ t' A', q = .inr (t', A') → t' = u ∧ OnL tk pl wd nt nw lit lc A' m t' sz c))
theorem MrL.off {r : dr} {u : Nat} {fp : Nat × Nat} (o : OffN nw c fp.1 fp.2) (h1 : ∀ q, μ = some q → q = fp) (h2 : μ = none → r = some (.inl fp)) : MrL tk pl wd nt nw lit lc μ r m u sz c :=
  ⟨fun q z => (by rw [h1 q z]; exact o), fun z => ⟨.inl fp, h2 z, fun f p y => (by cases y; exact o), fun _ _ y => (by cases y)⟩⟩
theorem OnL.keep {ks : List Nat} {t' : Nat} (h : OnL tk pl wd nt nw lit lc A m t sz c) (e : Eb ks [] c c') (hk : dcL.all (fun k => !ks.contains k) = true) (hk2 : (242 ∉ ks ∧ 239 ∉ ks ∧ 337 ∉ ks ∧ 241 ∉ ks) ∧ 248 ∉ ks ∧ 253 ∉ ks ∧ 260 ∉ ks) (h2 : c'.1 217 0 = nI 0) (ht : t ≤ t') : OnL tk pl wd nt nw lit lc A m t' sz c' := by
  obtain ⟨⟨T, X⟩, h2', h3, h4, h5, h6, h7, h8, h9, h10⟩ := h
  exact ⟨⟨T, X.mono e hk2.1 h2⟩, h2'.keep e hk (by decide) (fun k _ => by rw [e.2 336 (by decide)]) (Nat.le_refl _), by rw [e.1 248 hk2.2.1]; exact h3, by rw [e.1 253 hk2.2.2.1]; exact h4, h5, by omega, by rw [e.1 260 hk2.2.2.2]; exact h7, h8.later ht, h9, h10⟩
theorem extraAt_C {i : Nat} (h : CT tk pl nt ex c) (hi : i < nt) (hn : nt ≤ 12001) : fn_Tokens_extraAt_Tk N (nI i) c = some (ex i, c) := by
  unfold fn_Tokens_extraAt_Tk
  have := (h.2 i hi).2.2
  unfold tkX at this
  rw [if_neg (nI_pos (by omega)), h.1, if_neg (nI_ge hi (by omega)), if_neg (nI_in (show i < 65537 by omega) (by decide)), nI_clamp (by omega)]
  exact congrArg (fun x => some (x, c)) this
theorem instEndG_dead (T' : Tv tk pl nt) (hG : CG tk pl nt ex c σ) (z : σ.2.2.1 ≠ 0) : ∃ c', fn_Grammar_instanceEnd_Gr N c = some ((), c') ∧ CG tk pl nt ex c' σ := by
  obtain ⟨c1, a1, a2, a3⟩ := kshut (N := N) T' 41 (by decide) hG (gShut_dead z 41)
  obtain ⟨c2, b1, b2, b3⟩ := kneed (N := N) T' 59 (by decide) a2
  rw [gTake_dead z] at b2
  unfold fn_Grammar_instanceEnd_Gr
  rw [show fn_Tokens_shut_Tk N 41 c = some ((), c1) from a1, obind]
  dsimp only
  rw [show fn_Tokens_need_Tk N 59 c1 = some ((), c2) from b1, obind]
  dsimp only
  rw [off_instEnd (Or.inr (b2.dead z)), obind]
  exact ⟨_, rfl, b2.upI (by decide)⟩
theorem dLink_eq {p w t1 C2 : Nat} {L : List aop} (h1 : t + 3 < nt) (h2 : tk (t + 1) = 400) (h3 : dPrt wd A m (t + 1) = some p) (h4 : ¬ (2 < A.1 2 p ∨ dLkd A p ≠ none)) (h5 : dX tk pl vl wi wd nt N0 A (t + 3) = some (.inr (w, t1, L, C2))) : dLink tk pl vl wi wd nt N0 m t A = match dLk pl wd A p w t (t + 3) (decide (tk (t + 3) = 400 ∧ t1 = t + 4)) L C2 with | .inl f => some (.inl f) | .inr A' => dok (t1 + 1) A' := by
  unfold dLink dLk
  rw [if_neg (by rintro (y | y); omega; exact y h2), h3]
  dsimp only
  rw [if_neg h4, h5]
  dsimp only
  by_cases z : A.1 2 p = 0
  · rw [if_pos z, if_pos z]
    by_cases zw : w = A.1 1 p
    · rw [if_pos zw, if_pos zw]
    · rw [if_neg zw, if_neg zw]
      rfl
  · rw [if_neg z, if_neg z]
    by_cases y : tk (t + 3) = 400 ∧ t1 = t + 4
    · rw [if_neg (by rintro (q | q); exact q y.1; exact q y.2), if_neg (by rw [decide_eq_true y]; decide)]
      cases dHere wd A (t + 3) with
      | none => rfl
      | some s =>
        dsimp only
        by_cases y1 : dDrv A s = false
        · rw [if_pos y1, if_pos y1]; rfl
        · rw [if_neg y1, if_neg y1]
          by_cases y2 : w ≠ A.1 1 p
          · rw [if_pos y2, if_pos y2]; rfl
          · rw [if_neg y2, if_neg y2]
            by_cases y3 : A.1 4 s ≠ 0
            · rw [if_pos y3, if_pos y3]; rfl
            · rw [if_neg y3, if_neg y3]
    · rw [if_pos (by by_cases q : tk (t + 3) = 400; exact Or.inr (fun q2 => y ⟨q, q2⟩); exact Or.inl q), if_pos (decide_eq_false y)]
      rfl
/-- what follows a link in the move that ends it -/
def lkN (N : Nat) (c : ms) : Option (Unit × ms) := if (c.1 214 0) = 44 then ((fn_Tokens_take_Tk N c).bind (fun q_3 => some ((), upI q_3.2 264 (fun _ => 3)))) else ((fn_Grammar_instanceEnd_Gr N c).bind (fun q_3 => some ((), q_3.2)))
def LkPost (tk pl wd : Nat → Nat) (nt nw : Nat) (ex : Nat → Int32) (N : Nat) (lit : Nat → Int64) (lc : Nat) (c : ms) (σ σ' : gs) (μ : Option (Nat × Nat)) (m : Nat) (r : dr) : Prop :=
  ∃ k c7 c9 sz', Rc N k c c7 ∧ k + 5 ≤ 3 * (σ'.1 - σ.1) ∧ c7.1 264 0 = 8 ∧ c7.1 217 0 = nI 0 ∧ mv N c7 = (lkN N c9) ∧ KP c c9 ∧ CG tk pl nt ex c9 σ' ∧ σ'.2.2.1 = 0 ∧ σ'.2.1 = σ.2.1 ∧ σ.1 + 3 < σ'.1 ∧ tk σ.1 = 46 ∧ c9.1 271 0 = c.1 271 0 ∧ MrL tk pl wd nt nw lit lc μ r m σ'.1 sz' c9
theorem bindU {x : Option (Unit × ms)} : (x.bind (fun q => some ((), q.2))) = x := by
  cases x with
  | none => rfl
  | some q => rfl
theorem linkEnd_eq {σ5 : gs} {i : Nat} {c7 c8 : ms} (T' : Tv tk pl nt) (hnt : nt ≤ 12001) (hG : CG tk pl nt ex c7 σ5) (h0 : σ5.2.2.1 = 0) (h264 : c7.1 264 0 = 8) (h265 : c7.1 265 0 = 200) (h269 : c7.1 269 0 = nI i) (hi : i < nt) (h8 : fn_Tokens_shut_Tk N 41 c7 = some ((), c8)) (e : F7 c7 c8) : mv N c7 = (fn_Meaning_linked_Me N (c7.1 267 0) (c7.1 268 0) (if tk i = 400 ∧ σ5.1 = i + 1 then ex i else -1) c8).bind (fun q => lkN N q.2) := by
  have ii := (hG.2.2.2.1 h0).1
  have C8 : CT tk pl nt ex c8 := by
    unfold CT at *
    rw [e.1 212 (by decide), e.2 211 (by decide)]
    exact hG.1
  have a0 : bk_Grammar_linkEnd_Gr_35 N c7 = (fn_Meaning_linked_Me N (c7.1 267 0) (c7.1 268 0) (-1) c8).bind (fun q => lkN N q.2) := by
    unfold bk_Grammar_linkEnd_Gr_35 bk_Grammar_linkEnd_Gr_36
    rw [h8, obind, if_pos rfl]
    dsimp only
    rw [e.1 267 (by decide), e.1 268 (by decide)]
    rfl
  have a1 : bk_Grammar_linkEnd_Gr_36 N 1 c7 = (fn_Meaning_linked_Me N (c7.1 267 0) (c7.1 268 0) (ex i) c8).bind (fun q => lkN N q.2) := by
    unfold bk_Grammar_linkEnd_Gr_36
    rw [h8, obind, if_neg (by decide)]
    dsimp only
    rw [e.1 267 (by decide), e.1 268 (by decide), e.1 269 (by decide), h269, extraAt_C C8 hi hnt, obind]
    rfl
  have d : ∀ x : Option (Unit × ms), ((fn_Grammar_linkEnd_Gr N c7).bind (fun q_1 => some ((), q_1.2))) = x ↔ fn_Grammar_linkEnd_Gr N c7 = x := fun x => by rw [bindU]
  rw [mv8 h264]
  unfold fn_Grammar_behindExp_Gr
  rw [h265, if_neg (by decide), if_neg (by decide), if_neg (by decide), if_neg (by decide), if_neg (by decide), bindU]
  unfold fn_Grammar_linkEnd_Gr
  rw [ii, h269, nI_1]
  have s5 := hG.2.1
  by_cases z : σ5.1 = i + 1
  · rw [if_pos (by rw [z]), kindAt_C hG.1 hi hnt, obind]
    dsimp only
    by_cases y : tk i = 400
    · rw [if_pos (show nI (kap (tk i)) = 2 by rw [y]; rfl), if_pos ⟨y, z⟩]
      exact a1
    · rw [if_neg (fun q => y ?_), if_neg (fun q => y q.1)]
      · exact a0
      · exact kap_inj (T'.2.2.1 _ hi).1 (by decide) ((nI_eq (b := kap 400) (by have := kap_lt (tk i); omega) (by decide)).mp q)
  · rw [if_neg (fun q => z ((nI_eq (by omega) (by omega)).mp q)), if_neg (fun q => z q.2)]
    exact a0
theorem dLk_is {p w u e1 C2 : Nat} {al : Bool} {L : List aop} {A' : ds} (h : dLk pl wd A p w u e1 al L C2 = .inr A') : A' = dLi A p L C2 ∨ ∃ s, A' = dLo A p s L C2 := by
  unfold dLk at h
  split at h
  · split at h
    · cases h; exact Or.inl rfl
    · cases h
  · split at h
    · cases h
    · split at h
      · cases h
      · split at h
        · cases h
        · split at h
          · cases h
          · split at h
            · cases h
            · cases h; exact Or.inr ⟨_, rfl⟩
theorem dLk_tb {p s C2 : Nat} {L : List aop} {A' : ds} (h : A' = dLi A p L C2 ∨ A' = dLo A p s L C2) : A'.1 47 0 = A.1 47 0 + C2 ∧ A'.1 41 0 = A.1 41 0 ∧ A'.1 42 0 = A.1 42 0 + 1 ∧ A'.1 44 0 = A.1 44 0 ∧ (∀ d, A'.1 5 d = A.1 5 d) := by
  rcases h with rfl | rfl
  · unfold dLi
    simp only [tu1, tu2, uu1, uu2, uu3, vu1, vu2, vu3, su1, su2, Nat.reduceEqDiff, false_and, true_and, reduceIte, Bool.false_eq_true, if_true, if_false]
    exact fun _ => trivial
  · unfold dLo
    simp only [tu1, tu2, uu1, uu2, uu3, vu1, vu2, vu3, su1, su2, Nat.reduceEqDiff, false_and, true_and, reduceIte, Bool.false_eq_true, if_true, if_false]
    exact fun _ => trivial
theorem link_C (T' : Tv tk pl nt) (hV : Vb tk vl wi) (hN : 40000 < N) (hN1 : 12002 < N1) (hN0 : 12002 < N0) (hK : KS tk pl vl wi wd nt ex nw lit lc c) (h0 : σ.2.2.1 = 0) (h3 : c.1 264 0 = 3) (hG : CG tk pl nt ex c σ) (hs : MdL tk pl wd nt nw lit lc A m σ.1 sz c μ) :
    ∃ σ1, gLink tk pl N1 σ = some σ1 ∧ (DeadS 4 tk pl nt ex N c σ σ1 ∨ LkPost tk pl wd nt nw ex N lit lc c σ σ1 μ m (dLink tk pl vl wi wd nt N0 m σ.1 A)) := by
  have hnt := T'.2.1
  have GX : CG tk pl nt ex (upI c 267 (fun _ => c.1 215 0)) σ := hG.upI (by decide)
  obtain ⟨c1, a1, a2, a3⟩ := kneed (N := N) T' 46 (by decide) GX
  obtain ⟨c2, b1, b2, b3, b4⟩ := kdue (N := N) T' 400 (by decide) a2
  have ea1 : Eb [213, 214, 215, 216, 217, 218, 219, 267] [] c c1 := (((Eb.rfl (s := c)).upI (ks := [213, 214, 215, 216, 217, 218, 219, 267]) (by decide))).trans (a3.mono (by decide) (by decide))
  have e12 : Eb [213, 214, 215, 216, 217, 218, 219, 267] [] c c2 := ea1.trans (b3.mono (by decide) (by decide))
  have r267 : c2.1 267 0 = nI (pl σ.1) := by
    rw [b3.1 267 (by decide), a3.1 267 (by decide)]
    exact (hG.2.2.2.1 h0).2.2.1
  have hmv : mv N c = if b01 (gIs tk 400 (gTake tk pl 46 σ)) = 0 then (bk_Grammar_link_Gr_52 N c2) else ((fn_Meaning_linkTo_Me N ((c2.1 216 0)) ((c2.1 215 0)) c2).bind (fun q_6 => bk_Grammar_link_Gr_52 N q_6.2)) := by
    rw [mv3 h3]
    unfold fn_Grammar_link_Gr
    rw [show fn_Tokens_need_Tk N 46 (upI c 267 (fun _ => c.1 215 0)) = some ((), c1) from a1, obind]
    dsimp only
    rw [show fn_Tokens_due_Tk N 2 c1 = some (b01 (gIs tk 400 (gTake tk pl 46 σ)), c2) from b1, obind]
  unfold gLink
  have dead1 : ∀ c5 ρ, CG tk pl nt ex c5 ρ → ρ.2.2.1 ≠ 0 → σ.1 ≤ ρ.1 → mv N c = some ((), c5) → gOpen tk pl 40 (gTake tk pl 400 (gTake tk pl 46 σ)) = ρ → ∃ σ1, ((gE tk pl N1 (gOpen tk pl 40 (gTake tk pl 400 (gTake tk pl 46 σ)))).bind (fun σ => gShut tk pl 41 σ)) = some σ1 ∧ (DeadS 4 tk pl nt ex N c σ σ1 ∨ LkPost tk pl wd nt nw ex N lit lc c σ σ1 μ m (dLink tk pl vl wi wd nt N0 m σ.1 A)) := by
    intro c5 ρ g1 g2 g3 g4 g5
    rw [g5, show gE tk pl N1 ρ = some ρ from gE_dead2 g2 (by omega) (by omega), obind, gShut_dead g2]
    exact ⟨ρ, rfl, Or.inl ⟨g2, g3, 1, c5, Rc.one (hG.alive h0) (by rw [h3]; decide) g4, by omega, g1⟩⟩
  by_cases gi : gIs tk 400 (gTake tk pl 46 σ) = true
  · have g' := gi
    simp only [gIs, decide_eq_true_eq] at g'
    obtain ⟨-, k46, x46⟩ := gTake_al g'.1
    have c21 := b4 gi
    subst c21
    rw [gi, if_neg (show ¬ b01 true = 0 by decide)] at hmv
    rw [gi, if_pos rfl] at b2
    rw [x46] at a2 b2 gi g'
    have k4 : tk (σ.1 + 1) = 400 := g'.2
    have t1n : σ.1 + 1 < nt := b2.2.1
    have t2n := T'.more t1n k4 (by decide) (by decide)
    have st := b2.2.2.2.1 (show (gInc σ).2.2.1 = 0 from h0)
    have kx := hK.2.2.2.2.2.2.1 (σ.1 + 1) t1n k4
    have q216 : c2.1 216 0 = nI (wd (σ.1 + 1)) := by rw [st.2.2.2.1]; exact kx.1
    have q215 : c2.1 215 0 = nI (pl (σ.1 + 1)) := st.2.2.1
    rw [q216, q215] at hmv
    have al2 : c2.1 217 0 = nI 0 := b2.alive h0
    -- the port
    obtain ⟨c3, μ3, p, m1, m2, m3, m4, m5⟩ : ∃ c3 μ3 p, fn_Meaning_linkTo_Me N (nI (wd (σ.1 + 1))) (nI (pl (σ.1 + 1))) c2 = some ((), c3) ∧ Eb [242, 243, 252, 332, 333, 334, 335] [] c2 c3 ∧ (∀ fp, μ3 = some fp → OffN nw c3 fp.1 fp.2) ∧ (∀ fp, μ = some fp → μ3 = some fp) ∧ (μ = none → (∀ fp, μ3 = some fp → σ.1 + 3 < nt → dLink tk pl vl wi wd nt N0 m σ.1 A = some (.inl fp)) ∧ (μ3 = none → dPrt wd A m (σ.1 + 1) = some p ∧ ¬ (2 < A.1 2 p ∨ dLkd A p ≠ none) ∧ (∃ T, Xc c3 T sz (A.1 47 0)) ∧ c3.1 252 0 = nI p ∧ c3.1 333 (A.1 42 0) = nI (p - A.1 21 m) ∧ A.1 21 m ≤ p ∧ p < A.1 21 m + A.1 26 m ∧ p < A.1 40 0 ∧ DC pl wd nw lit lc A (A.1 41 0 + 1) (A.1 42 0 + 1) sz c3)) := by
      cases hμ : μ with
      | some fp =>
        have o := (hs.1 fp hμ).mono e12 (by decide)
        exact ⟨c2, some fp, 0, off_linkTo o.off, Eb.rfl, fun q z => (by cases z; exact o), fun q z => (by cases z; rfl), fun z => (by cases z)⟩
      | none =>
        obtain ⟨⟨T, X⟩, o2, o3, o4, o5, o6, o7, o8, o9, o10⟩ := (hs.2 hμ).keep (t' := σ.1) e12 (by decide) (by decide) al2 (Nat.le_refl _)
        obtain ⟨c3, n1, n2, n3, n4⟩ := linkTo_C (N := N) (x := σ.1 + 1) hnt hN hK.2.2.2.2.2.2.2 o8 (by omega) kx.2 (fun i hi hk => (hK.2.2.2.2.2.2.1 i hi hk).2) o10 o9 X o2
        cases eh : dPrt wd A m (σ.1 + 1) with
        | none =>
          refine ⟨c3, some (23, pl (σ.1 + 1)), 0, n1, n2, fun q z => (by cases z; exact n3 eh), fun q z => (by cases z), fun _ => ⟨fun q z tn => ?_, fun z => (by cases z)⟩⟩
          cases z
          unfold dLink
          rw [if_neg (by rintro (y | y); omega; exact y k4), eh]
          rfl
        | some p =>
          obtain ⟨p1, p2⟩ := n4 p eh
          by_cases bad : 2 < A.1 2 p ∨ dLkd A p ≠ none
          · refine ⟨c3, some (23, pl (σ.1 + 1)), 0, n1, n2, fun q z => (by cases z; exact p1 bad), fun q z => (by cases z), fun _ => ⟨fun q z tn => ?_, fun z => (by cases z)⟩⟩
            cases z
            unfold dLink
            rw [if_neg (by rintro (y | y); omega; exact y k4), eh]
            dsimp only
            rw [if_pos bad]
            rfl
          · obtain ⟨x1, x2, x3, x4, x5, x6, x7⟩ := p2 bad
            exact ⟨c3, none, p, n1, n2, fun q z => (by cases z), fun q z => (by cases z), fun _ => ⟨fun q z => (by cases z), fun _ => ⟨rfl, bad, ⟨T, x1⟩, x2, x3, x4, x5, x6, x7⟩⟩⟩
    have mno : μ3 = none → μ = none := fun z => by
      cases hμ : μ with
      | none => rfl
      | some fp => have := m4 fp hμ; rw [z] at this; cases this
    rw [m1, obind] at hmv
    dsimp only at hmv
    unfold bk_Grammar_link_Gr_52 at hmv
    have G3 : CG tk pl nt ex c3 (gInc σ) := b2.mono m2 (fun k _ _ => by simp; omega) (by decide)
    obtain ⟨c4, f1, f2, f3⟩ := ktake (N := N) T' G3 (fun _ => t2n)
    rw [if_pos (show (gInc σ).2.2.1 = 0 from h0)] at f2
    obtain ⟨c5, i1, i2, i3⟩ := kopen (N := N) T' 40 (by decide) f2
    rw [f1, obind] at hmv
    dsimp only at hmv
    rw [show fn_Tokens_open_Tk N 40 c4 = some ((), c5) from i1, obind] at hmv
    dsimp only at hmv
    have gt : gTake tk pl 400 (gTake tk pl 46 σ) = gInc (gInc σ) := by rw [x46]; exact gTake_t gi
    have e35 : F7 c3 c5 := f3.trans i3
    have le40 := gOpen_le (tk := tk) (pl := pl) (k := 40) (σ := gInc (gInc σ))
    have le40' : σ.1 + 1 + 1 ≤ (gOpen tk pl 40 (gInc (gInc σ))).1 := le40
    by_cases al : (gOpen tk pl 40 (gInc (gInc σ))).2.2.1 = 0
    · obtain ⟨-, k40, d60, x3⟩ := gOpen_al al
      have al5 : c5.1 217 0 = nI 0 := i2.alive al
      have x3' : gOpen tk pl 40 (gInc (gInc σ)) = (σ.1 + 3, σ.2.1 + 1, σ.2.2) := x3
      rw [gt, x3']
      rw [x3'] at i2
      have tn3 : σ.1 + 3 < nt := i2.2.1
      have e25 : Eb [213, 214, 215, 216, 217, 218, 219, 242, 243, 252, 332, 333, 334, 335] [] c2 c5 := (m2.mono (by decide) (by decide)).trans (e35.mono (by decide) (by decide))
      have eP5 : KP c c5 := (e12.mono (by decide) (by decide)).trans (e25.mono (by decide) (by decide))
      have K5 : KS tk pl vl wi wd nt ex nw lit lc c5 := hK.keep eP5 (by decide) (by decide)
      obtain ⟨c6, j1, j2, σ5, g1, g2⟩ := expI (N0 := N0) (N1 := N1) (x := 200) (σ := (σ.1 + 3, σ.2.1 + 1, σ.2.2)) (μ := μ3) (sz := sz) (C := A.1 47 0) (A := A) (I := A.1 41 0 + 1) (K := A.1 42 0 + 1) T' hV hN hN1 hN0 K5 h0 i2 ⟨fun fp z => (m3 fp z).mono e35 (by decide), fun z => by
        obtain ⟨y1, y2, ⟨T, y3⟩, y4, y5, y6, y7, y8, y9⟩ := (m5 (mno z)).2 z
        have ho := hs.2 (mno z)
        exact ⟨⟨T, y3.mono e35 (by decide) al5⟩, by have := ho.2.2.2.2.2.1; show sz ≤ σ.1 + 3; omega, y9.keep e35 (by decide) (by decide) (fun k _ => by rw [e35.2 336 (by decide)]) (Nat.le_refl _), ho.2.2.2.2.2.2.2.1.later (by show σ.1 ≤ σ.1 + 3; omega)⟩⟩
      rw [j1, obind] at hmv
      have r1 : Rc N 1 c c6 := Rc.one (hG.alive h0) (by rw [h3]; decide) hmv
      rw [g1, obind]
      rcases g2 with dd | ⟨k, c7, q1, q2, q3, q4, q5, q6, q7, q8, q9, q10, q11, qO⟩
      · rw [gShut_dead dd.1]
        exact ⟨σ5, rfl, Or.inl ((dd.toS (e := 3) (by omega)).after r1 (by show 1 + 3 ≤ 4 * (σ.1 + 3 - σ.1) + 4; omega) (by show σ.1 ≤ σ.1 + 3; omega))⟩
      · have q2' : k + 1 ≤ 3 * (σ5.1 - (σ.1 + 3)) := q2
        have q8' : σ.1 + 3 < σ5.1 := q8
        have q7' : σ5.2.1 = σ.2.1 + 1 := q7
        have r2 := r1.trans q1
        have e57 : Eb [213, 214, 215, 216, 217, 218, 219, 238, 239, 240, 241, 242, 243, 264, 265, 268, 269, 272, 273, 274, 275, 337] [336] c5 c7 := (j2.mono (by decide) (by decide)).trans (q4.mono (by decide) (by decide))
        have eP7 : KP c c7 := eP5.trans (e57.mono (by decide) (by decide))
        have q267 : c7.1 267 0 = nI (pl σ.1) := by rw [e57.1 267 (by decide), e25.1 267 (by decide)]; exact r267
        obtain ⟨σ6, s1⟩ := gShut_ex (tk := tk) (pl := pl) (k := 41) (σ := σ5) (fun _ => by omega)
        obtain ⟨c8, s2, s3, s4⟩ := kshut (N := N) T' 41 (by decide) q5 s1
        have le1 := gShut_le s1
        have hm := linkEnd_eq (N := N) (c8 := c8) T' hnt q5 q6 q3 q9 q11 tn3 s2 s4
        rw [q267, q10] at hm
        rw [s1]
        refine ⟨σ6, rfl, ?_⟩
        by_cases al6 : σ6.2.2.1 ≠ 0
        · left
          rw [off_linked (Or.inr (s3.dead al6)), obind] at hm
          unfold lkN at hm
          rw [if_neg (show ¬ c8.1 214 0 = 44 from kneg (k := 44) T' s3 (by decide) (fun z => absurd z al6))] at hm
          obtain ⟨c9, t1, t2⟩ := instEndG_dead (N := N) T' s3 al6
          rw [t1, obind] at hm
          exact ⟨al6, by omega, 1 + k + 1, c9, r2.trans (Rc.one (q5.alive q6) (by rw [q3]; decide) hm), by omega, t2⟩
        · right
          have al6 := Classical.not_not.mp al6
          obtain ⟨-, -, v3, v4⟩ := gShut_al s1 al6
          have u6 : σ6.1 = σ5.1 + 1 := by rw [v4]
          have d6 : σ6.2.1 = σ.2.1 := by rw [v4]; show σ5.2.1 - 1 = σ.2.1; omega
          have tn6 := s3.2.1
          have al8 : c8.1 217 0 = nI 0 := s3.alive al6
          have e271 : c8.1 271 0 = c.1 271 0 := by rw [s4.1 271 (by decide), e57.1 271 (by decide), e25.1 271 (by decide), e12.1 271 (by decide)]
          have fin : ∀ c9 sz', fn_Meaning_linked_Me N (nI (pl σ.1)) (nI (pl (σ.1 + 3))) (if tk (σ.1 + 3) = 400 ∧ σ5.1 = σ.1 + 3 + 1 then ex (σ.1 + 3) else -1) c8 = some ((), c9) → Eb [239, 242, 243, 326, 327, 334, 335, 337] [] c8 c9 → MrL tk pl wd nt nw lit lc μ (dLink tk pl vl wi wd nt N0 m σ.1 A) m σ6.1 sz' c9 → LkPost tk pl wd nt nw ex N lit lc c σ σ6 μ m (dLink tk pl vl wi wd nt N0 m σ.1 A) := by
            intro c9 sz' n1 n2 n3
            have hm' := hm
            rw [show fn_Meaning_linked_Me N (nI (pl σ.1)) (nI (pl (σ.1 + 3))) (if tk (σ.1 + 3) = 400 ∧ σ5.1 = σ.1 + 3 + 1 then ex (σ.1 + 3) else -1) c8 = some ((), c9) from n1, obind] at hm'
            exact ⟨1 + k, c7, c9, sz', r2, by omega, q3, q5.alive q6, hm', (eP7.trans (F7.toKP s4)).trans (n2.mono (by decide) (by decide)), s3.mono n2 (fun k _ _ => by simp; omega) (by decide), al6, d6, by omega, k46, by rw [n2.1 271 (by decide)]; exact e271, n3⟩
          cases e3 : μ3 with
          | some fp =>
            have o := (qO.1 fp e3).mono s4 (by decide)
            refine fin c8 0 (off_linked o.off) Eb.rfl (MrL.off (fp := fp) o (fun q z => ?_) (fun z => (m5 z).1 fp e3 tn3))
            have := m4 q z
            rw [e3] at this
            cases this
            rfl
          | none =>
            have hμ := mno e3
            obtain ⟨y1, y2, -, y4, y5, y6, y7, y8, -⟩ := (m5 hμ).2 e3
            obtain ⟨q, v1, v2, v3⟩ := qO.2 e3
            cases q with
            | inl fp =>
              have o := (v2 fp.1 fp.2 rfl).mono s4 (by decide)
              refine fin c8 0 (off_linked o.off) Eb.rfl (MrL.off (fp := fp) o (fun q z => (by rw [hμ] at z; cases z)) (fun _ => ?_))
              have dx : dX tk pl vl wi wd nt N0 A (σ.1 + 3) = some (.inl fp) := v1 (by omega)
              unfold dLink
              rw [if_neg (by rintro (y | y); omega; exact y k4), y1]
              dsimp only
              rw [if_neg y2, dx]
            | inr q =>
              obtain ⟨w, t', L, C2⟩ := q
              obtain ⟨x1, x2, x4, x5, x6, x7, x8, x9, x10, x11⟩ := v3 _ _ _ _ rfl
              subst x1
              have dx : dX tk pl vl wi wd nt N0 A (σ.1 + 3) = some (.inr (w, σ5.1, L, C2)) := v1 (by omega)
              have ho := hs.2 hμ
              obtain ⟨-, -, o3, o4, o5, o6, o7, o8, o9, o10⟩ := ho
              have X8 := x2.mono s4 (by decide) al8
              have D8 := x10.keep (c' := c8) (sz' := sz) s4 (by decide) (by decide) (fun k _ => by rw [s4.2 336 (by decide)]) (Nat.le_refl _)
              have z252 : c8.1 252 0 = nI p := by rw [s4.1 252 (by decide), e57.1 252 (by decide), e35.1 252 (by decide)]; exact y4
              have z333 : c8.1 333 (A.1 42 0) = nI (p - A.1 21 m) := by rw [s4.1 333 (by decide), e57.1 333 (by decide), e35.1 333 (by decide)]; exact y5
              have hx : (decide (tk (σ.1 + 3) = 400 ∧ σ5.1 = σ.1 + 4) = true ∧ (if tk (σ.1 + 3) = 400 ∧ σ5.1 = σ.1 + 3 + 1 then ex (σ.1 + 3) else -1) = nI (wd (σ.1 + 3)) ∧ wd (σ.1 + 3) < nw) ∨ (decide (tk (σ.1 + 3) = 400 ∧ σ5.1 = σ.1 + 4) = false ∧ (if tk (σ.1 + 3) = 400 ∧ σ5.1 = σ.1 + 3 + 1 then ex (σ.1 + 3) else -1) = -1) := by
                by_cases z : tk (σ.1 + 3) = 400 ∧ σ5.1 = σ.1 + 4
                · have kx3 := hK.2.2.2.2.2.2.1 (σ.1 + 3) tn3 z.1
                  exact Or.inl ⟨decide_eq_true z, by rw [if_pos z]; exact kx3.1, kx3.2⟩
                · exact Or.inr ⟨decide_eq_false z, if_neg z⟩
              obtain ⟨c9, n1, n2, n3, n4⟩ := linked_C (N := N) (m := m) (u := σ.1) (e1 := σ.1 + 3) (C := A.1 47 0) (C2 := C2) (L := L) (w := w) hnt hK.2.2.2.2.2.2.2 o8 (by omega) o9.2.1 y8 X8 (by rw [s4.1 238 (by decide)]; exact x4) x6 (by rw [s4.1 240 (by decide)]; exact x11) z252 z333 D8 (by rw [s4.2 336 (by decide)]; exact x9) hx
              have de := dLink_eq (N0 := N0) (m := m) (t := σ.1) tn3 k4 y1 y2 dx
              have x7' : σ.1 + 3 + L.length ≤ σ5.1 := x7
              cases ek : dLk pl wd A p w σ.1 (σ.1 + 3) (decide (tk (σ.1 + 3) = 400 ∧ σ5.1 = σ.1 + 4)) L C2 with
              | inl f =>
                rw [ek] at de
                exact fin c9 0 n1 n2 (MrL.off (fp := f) (n3 f ek) (fun q z => (by rw [hμ] at z; cases z)) (fun _ => de))
              | inr A' =>
                rw [ek] at de
                dsimp only at de
                obtain ⟨sz', p1, p2, p3, p4⟩ := n4 A' ek
                refine fin c9 sz' n1 n2 ⟨fun q z => (by rw [hμ] at z; cases z), fun _ => ⟨.inr (σ5.1 + 1, A'), de, fun _ _ y => (by cases y), fun t2 A2 y => ?_⟩⟩
                cases y
                have w12 := o8.2.2.2.2.2.1 (A.1 41 0) (Nat.le_refl _)
                have nl : dLkd A p = none := Classical.not_not.mp (fun z => y2 (Or.inr z))
                have wo := dLink_wo (N := N0) (pl := pl) (vl := vl) (wi := wi) (wd := wd) o8 o9.1 (σ5.1 + 1) A' de
                have ls : ∃ s, A' = dLi A p L C2 ∨ A' = dLo A p s L C2 := by
                  rcases dLk_is ek with z | ⟨s, z⟩
                  · exact ⟨0, Or.inl z⟩
                  · exact ⟨s, Or.inr z⟩
                obtain ⟨s, ls⟩ := ls
                obtain ⟨t47, t41, t42, t44, t5⟩ := dLk_tb ls
                have c9n : ∀ j, j ∈ [248, 253, 260] → c9.1 j = c.1 j := fun j hj => by
                  simp only [List.mem_cons, List.not_mem_nil, or_false] at hj
                  rcases hj with rfl | rfl | rfl <;> rw [n2.1 _ (by decide), s4.1 _ (by decide), e57.1 _ (by decide), e25.1 _ (by decide), e12.1 _ (by decide)]
                refine ⟨u6.symm, ⟨0, by rw [t47]; exact p1⟩, by rw [t41, t42]; exact p4, by rw [c9n 248 (by decide)]; exact o3, by rw [c9n 253 (by decide), t44]; exact o4, fun d => by rw [t5]; exact o5 d, by omega, by rw [c9n 260 (by decide)]; exact o7, wo.1, ?_, o10.same (fun k hk => dLink_it de k (by revert hk; simp only [List.mem_cons, List.not_mem_nil, or_false]; omega))⟩
                rcases ls with rfl | rfl
                · exact o9.li w12 y6 y7 nl
                · exact o9.lo w12 y6 y7 nl
    · obtain ⟨c6, j1, j2, j3⟩ := expFor_dead (N := N) (x := 200) i2 al
      rw [j1, obind] at hmv
      exact dead1 c6 _ j2 al (by omega) hmv (by rw [gt])
  · have gf := Bool.eq_false_iff.mpr gi
    rw [gf, if_pos (show b01 false = 0 from rfl)] at hmv
    rw [gf, if_neg (by decide)] at b2
    have gt : gTake tk pl 400 (gTake tk pl 46 σ) = gNo tk pl (gTake tk pl 46 σ) := gTake_f gi
    have dd : (gNo tk pl (gTake tk pl 46 σ)).2.2.1 ≠ 0 := by
      by_cases z : (gTake tk pl 46 σ).2.2.1 = 0
      · exact gNo_al z
      · rw [gNo_dead z]; exact z
    have le46 := gTake_le (tk := tk) (pl := pl) (k := 46) (σ := σ)
    unfold bk_Grammar_link_Gr_52 at hmv
    obtain ⟨c4, f1, f2, f3⟩ := ktake (N := N) T' b2 (fun z => absurd z dd)
    rw [if_neg dd] at f2
    rw [f1, obind] at hmv
    dsimp only at hmv
    obtain ⟨c5, i1, i2, i3⟩ := kopen (N := N) T' 40 (by decide) f2
    rw [gOpen_dead dd] at i2
    rw [show fn_Tokens_open_Tk N 40 c4 = some ((), c5) from i1, obind] at hmv
    dsimp only at hmv
    obtain ⟨c6, j1, j2, j3⟩ := expFor_dead (N := N) (x := 200) i2 dd
    rw [j1, obind] at hmv
    exact dead1 c6 _ j2 dd (by rw [gNo_1]; exact le46) hmv (by rw [gt, gOpen_dead dd])
end CLNK3
