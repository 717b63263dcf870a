/-! Order: components. -/
def Rk (dp : Nat → List Nat) : Nat → Nat → Nat → Prop
  | 0, x, y => x = y
  | k + 1, x, y => ∃ z, z ∈ dp x ∧ Rk dp k z y
def Rch (dp : Nat → List Nat) (x y : Nat) : Prop := ∃ k, Rk dp k x y
/-- it depends on itself -/
def Cy (dp : Nat → List Nat) (x : Nat) : Prop := ∃ z, z ∈ dp x ∧ Rch dp z x
def CL : Nat := 1073741824
/-- every one of a path is needed by the one below it -/
def Ed (dp : Nat → List Nat) : List Nat → Prop
  | a :: b :: l => a ∈ dp b ∧ Ed dp (b :: l)
  | _ => True
def TI (dp : Nat → List Nat) (ns : Nat) (num low : Nat → Nat) (P O : List Nat) (pd : Nat → Nat → Prop) (seen : Nat) : Prop :=
  ((∀ v, v < ns → (v ∈ O ↔ 0 < num v ∧ num v ≠ CL)) ∧ (∀ v, v ∈ O → v < ns ∧ 0 < num v ∧ num v ≤ seen) ∧ seen < CL) ∧
  (O.Pairwise (fun a b => num b < num a) ∧ P.Pairwise (fun a b => num b < num a) ∧ ∀ p, p ∈ P → p ∈ O) ∧ Ed dp P ∧
  (∀ v, v < ns → num v = CL → ∀ y, y ∈ dp v → num y = CL) ∧
  (∀ p, p ∈ P → ∀ v, v ∈ O → num p ≤ num v → Rch dp p v) ∧
  (∀ v, v ∈ O → low v ≤ num v ∧ ∃ w, w ∈ O ∧ num w = low v ∧ Rch dp v w) ∧
  (∀ v, v ∈ O → v ∉ P → low v < num v ∧ ∀ y, y ∈ dp v → pd v y) ∧
  (∀ v, v ∈ O → ∀ y, pd v y → y ∈ dp v ∧ (num y = CL ∨ (y ∈ O ∧ low v ≤ num y))) ∧
  (∀ v, v ∈ O → ∀ p, p ∈ P → num p ≤ num v → (∀ p', p' ∈ P → num p' ≤ num v → num p' ≤ num p) → low p ≤ low v) ∧
  (∀ v, v ∈ O → ∃ p, p ∈ P ∧ num p ≤ num v)
/-- the least one that depends on itself, by now -/
def LI (dp : Nat → List Nat) (ns : Nat) (num : Nat → Nat) (O : List Nat) (pd : Nat → Nat → Prop) (lp : Nat) : Prop := (lp ≠ CL → lp < ns ∧ Cy dp lp) ∧ (∀ v, v < ns → num v = CL → Cy dp v → lp ≤ v) ∧ ∀ v, v ∈ O → pd v v → lp ≤ v
/-- an order: each one behind those that it depends on -/
def TO (dp : Nat → List Nat) (told : Nat → Bool) (l : List Nat) : Prop := ∀ a v b, l = a ++ v :: b → ∀ y, y ∈ dp v → told y = true → y ∈ a
section TAR
variable {dp : Nat → List Nat} {ns : Nat} {num low : Nat → Nat} {P O : List Nat} {pd pd' : Nat → Nat → Prop} {seen lp : Nat}
theorem Rch.refl {x : Nat} : Rch dp x x := ⟨0, rfl⟩
theorem Rk.trans {x y z : Nat} : ∀ {k j : Nat}, Rk dp k x y → Rk dp j y z → Rk dp (k + j) x z := by
  intro k
  induction k generalizing x with
  | zero => intro j h g; have h : x = y := h; rw [h, Nat.zero_add]; exact g
  | succ k ih =>
    intro j h g
    obtain ⟨u, h1, h2⟩ := h
    rw [show k + 1 + j = (k + j) + 1 by omega]
    exact ⟨u, h1, ih h2 g⟩
theorem Rch.trans {x y z : Nat} (h : Rch dp x y) (g : Rch dp y z) : Rch dp x z := by
  obtain ⟨k, h⟩ := h
  obtain ⟨j, g⟩ := g
  exact ⟨_, h.trans g⟩
theorem Rch.one {x y : Nat} (h : y ∈ dp x) : Rch dp x y := ⟨1, y, h, rfl⟩
/-- two that reach each other depend on themselves -/
theorem Cy.of {x y : Nat} (h : Rch dp x y) (g : Rch dp y x) (ne : x ≠ y) : Cy dp x := by
  obtain ⟨k, h⟩ := h
  cases k with
  | zero => exact absurd h ne
  | succ k =>
    obtain ⟨z, h1, h2⟩ := h
    exact ⟨z, h1, Rch.trans ⟨k, h2⟩ g⟩
theorem closed_Rk (h : ∀ v, v < ns → num v = CL → ∀ y, y ∈ dp v → num y = CL) (hd : ∀ v y, v < ns → y ∈ dp v → y < ns) {y : Nat} : ∀ {k x : Nat}, x < ns → num x = CL → Rk dp k x y → num y = CL ∧ y < ns
  | 0, x, hx, h1, h2 => by have h2 : x = y := h2; rw [← h2]; exact ⟨h1, hx⟩
  | k + 1, x, hx, h1, h2 => by
    obtain ⟨z, z1, z2⟩ := h2
    exact closed_Rk h hd (hd x z hx z1) (h x hx h1 z z1) z2
theorem TI.top {s : Nat} {P' : List Nat} (h : TI dp ns num low (s :: P') O pd seen) : s ∈ O ∧ (∀ p, p ∈ P' → num p < num s) ∧ s ∉ P' := by
  obtain ⟨-, ⟨-, h2, h3⟩, -⟩ := h
  have g := (List.pairwise_cons.mp h2).1
  exact ⟨h3 s List.mem_cons_self, g, fun z => Nat.lt_irrefl _ (g s z)⟩
/-- one more is met -/
theorem TI.enter {y : Nat} (h : TI dp ns num low P O pd seen) (hy : y < ns) (h0 : num y = 0) (hs : seen + 1 < CL) (hP : ∀ s, P.head? = some s → y ∈ dp s) (hpd : ∀ v, v ∈ y :: O → ∀ z, pd' v z ↔ ((v ≠ y ∧ pd v z) ∨ (P.head? = some v ∧ z = y))) : TI dp ns (updN num y (seen + 1)) (updN low y (seen + 1)) (y :: P) (y :: O) pd' (seen + 1) := by
  obtain ⟨⟨a1, a2, a3⟩, ⟨b1, b2, b3⟩, c, d, e, f, g, i, j, k⟩ := h
  have yO : y ∉ O := fun z => by have := (a2 y z).2.1; omega
  have nO : ∀ v, v ∈ O → updN num y (seen + 1) v = num v := fun v hv => by
    unfold updN; rw [if_neg (fun z : v = y => yO (z ▸ hv))]
  have lO : ∀ v, v ∈ O → updN low y (seen + 1) v = low v := fun v hv => by
    unfold updN; rw [if_neg (fun z : v = y => yO (z ▸ hv))]
  have ny : updN num y (seen + 1) y = seen + 1 := by unfold updN; rw [if_pos rfl]
  have ly : updN low y (seen + 1) y = seen + 1 := by unfold updN; rw [if_pos rfl]
  have nv : ∀ v, v ≠ y → updN num y (seen + 1) v = num v := fun v hv => by unfold updN; rw [if_neg hv]
  have hPO : ∀ p, p ∈ P → p ≠ y := fun p hp z => yO (z ▸ b3 p hp)
  refine ⟨⟨fun v hv => ?_, fun v hv => ?_, hs⟩, ⟨?_, ?_, fun p hp => ?_⟩, ?_, fun v hv h1 z hz => ?_, fun p hp v hv hpv => ?_, fun v hv => ?_, fun v hv hvP => ?_, fun v hv z hz => ?_, fun v hv p hp hpv hmax => ?_, fun v hv => ?_⟩
  · by_cases z : v = y
    · subst z
      rw [ny]
      exact ⟨fun _ => ⟨by omega, by omega⟩, fun _ => List.mem_cons_self⟩
    · rw [nv v z, ← a1 v hv]
      exact ⟨fun q => (List.mem_cons.mp q).resolve_left z, fun q => List.mem_cons_of_mem _ q⟩
  · rcases List.mem_cons.mp hv with rfl | hv
    · rw [ny]; exact ⟨hy, by omega, by omega⟩
    · rw [nO v hv]; have := a2 v hv; exact ⟨this.1, this.2.1, by omega⟩
  · refine List.pairwise_cons.mpr ⟨fun v hv => by rw [ny, nO v hv]; have := (a2 v hv).2.2; omega, ?_⟩
    exact b1.imp_of_mem (fun {a b} ha hb q => by rw [nO a ha, nO b hb]; exact q)
  · refine List.pairwise_cons.mpr ⟨fun v hv => by rw [ny, nO v (b3 v hv)]; have := (a2 v (b3 v hv)).2.2; omega, ?_⟩
    exact b2.imp_of_mem (fun {a b} ha hb q => by rw [nO a (b3 a ha), nO b (b3 b hb)]; exact q)
  · rcases List.mem_cons.mp hp with rfl | hp
    · exact List.mem_cons_self
    · exact List.mem_cons_of_mem _ (b3 p hp)
  · match P, c, hP with
    | [], c, hP => exact trivial
    | s :: l, c, hP => exact ⟨hP s rfl, c⟩
  · have vy : v ≠ y := fun q => by subst q; rw [ny] at h1; omega
    rw [nv v vy] at h1
    have := d v hv h1 z hz
    by_cases q : z = y
    · subst q; rw [h0] at this; cases this
    · rw [nv z q]; exact this
  · by_cases zp : p = y
    · by_cases zv : v = y
      · rw [zp, zv]; exact Rch.refl
      · have hw := (List.mem_cons.mp hv).resolve_left zv
        rw [zp, ny, nO v hw] at hpv; have := (a2 v hw).2.2; omega
    · have hq := (List.mem_cons.mp hp).resolve_left zp
      by_cases zv : v = y
      · -- by way of the top
        obtain ⟨s, l, e1⟩ : ∃ s l, P = s :: l := by
          cases P with
          | nil => exact absurd hq List.not_mem_nil
          | cons s l => exact ⟨s, l, rfl⟩
        have sP : s ∈ P := by rw [e1]; exact List.mem_cons_self
        have le : num p ≤ num s := by
          rw [e1] at hq b2
          rcases List.mem_cons.mp hq with h1 | h1
          · rw [h1]; exact Nat.le_refl _
          · exact Nat.le_of_lt ((List.pairwise_cons.mp b2).1 p h1)
        rw [zv]
        exact (e p hq s (b3 s sP) le).trans (Rch.one (hP s (by rw [e1]; rfl)))
      · have hw := (List.mem_cons.mp hv).resolve_left zv
        rw [nO p (b3 p hq), nO v hw] at hpv
        exact e p hq v hw hpv
  · rcases List.mem_cons.mp hv with rfl | hv
    · rw [ny, ly]
      exact ⟨Nat.le_refl _, v, List.mem_cons_self, ny, Rch.refl⟩
    · obtain ⟨f1, w, w1, w2, w3⟩ := f v hv
      rw [nO v hv, lO v hv]
      exact ⟨f1, w, List.mem_cons_of_mem _ w1, by rw [nO w w1]; exact w2, w3⟩
  · rcases List.mem_cons.mp hv with rfl | hv
    · exact absurd List.mem_cons_self hvP
    · obtain ⟨g1, g2⟩ := g v hv (fun q => hvP (List.mem_cons_of_mem _ q))
      rw [nO v hv, lO v hv]
      exact ⟨g1, fun z hz => (hpd v (List.mem_cons_of_mem _ hv) z).mpr (Or.inl ⟨fun q => yO (q ▸ hv), g2 z hz⟩)⟩
  · have := (hpd v hv z).mp hz
    rcases this with ⟨q1, q2⟩ | ⟨q1, q2⟩
    · have hv := (List.mem_cons.mp hv).resolve_left q1
      obtain ⟨i1, i2⟩ := i v hv z q2
      refine ⟨i1, ?_⟩
      have zy : z ≠ y := fun q => by
        subst q
        rcases i2 with i2 | i2
        · rw [h0] at i2; cases i2
        · exact yO i2.1
      rw [nv z zy, lO v hv]
      rcases i2 with i2 | i2
      · exact Or.inl i2
      · exact Or.inr ⟨List.mem_cons_of_mem _ i2.1, i2.2⟩
    · subst q2
      have vP : v ∈ P := List.mem_of_mem_head? q1
      refine ⟨hP v q1, Or.inr ⟨List.mem_cons_self, ?_⟩⟩
      rw [ny, lO v (b3 v vP)]
      have := (f v (b3 v vP)).1
      have := (a2 v (b3 v vP)).2.2
      omega
  · by_cases zv : v = y
    · -- the deepest is itself
      have pv : p = y := by
        by_cases zp : p = y
        · exact zp
        · have hq := (List.mem_cons.mp hp).resolve_left zp
          have := hmax y List.mem_cons_self (by rw [zv]; exact Nat.le_refl _)
          rw [ny, nO p (b3 p hq)] at this
          have := (a2 p (b3 p hq)).2.2
          omega
      rw [pv, zv]
      exact Nat.le_refl _
    · have hw := (List.mem_cons.mp hv).resolve_left zv
      by_cases zp : p = y
      · rw [zp, ny, nO v hw] at hpv; have := (a2 v hw).2.2; omega
      · have hq := (List.mem_cons.mp hp).resolve_left zp
        rw [lO p (b3 p hq), lO v hw]
        rw [nO p (b3 p hq), nO v hw] at hpv
        refine j v hw p hq hpv (fun p' hp' h2 => ?_)
        have := hmax p' (List.mem_cons_of_mem _ hp') (by rw [nO p' (b3 p' hp'), nO v hw]; exact h2)
        rw [nO p' (b3 p' hp'), nO p (b3 p hq)] at this
        exact this
  · rcases List.mem_cons.mp hv with rfl | hv
    · exact ⟨v, List.mem_cons_self, Nat.le_refl _⟩
    · obtain ⟨p, p1, p2⟩ := k v hv
      exact ⟨p, List.mem_cons_of_mem _ p1, by rw [nO p (b3 p p1), nO v hv]; exact p2⟩
/-- one that was met before is needed -/
theorem TI.see {s y : Nat} {P' : List Nat} (h : TI dp ns num low (s :: P') O pd seen) (hy : y ∈ dp s) (hys : y < ns) (h0 : num y ≠ 0) (hp : ∀ v, v ∈ O → ∀ z, pd' v z ↔ (pd v z ∨ (v = s ∧ z = y))) : TI dp ns num (updN low s (min (low s) (num y))) (s :: P') O pd' seen := by
  obtain ⟨sO, sm, sP⟩ := h.top
  obtain ⟨⟨a1, a2, a3⟩, ⟨b1, b2, b3⟩, c, d, e, f, g, i, j, k⟩ := h
  have ls : updN low s (min (low s) (num y)) s = min (low s) (num y) := by unfold updN; rw [if_pos rfl]
  have lv : ∀ v, v ≠ s → updN low s (min (low s) (num y)) v = low v := fun v hv => by unfold updN; rw [if_neg hv]
  have le : ∀ v, updN low s (min (low s) (num y)) v ≤ low v := fun v => by
    by_cases z : v = s
    · subst z; rw [ls]; exact Nat.min_le_left _ _
    · rw [lv v z]; exact Nat.le_refl _
  refine ⟨⟨a1, a2, a3⟩, ⟨b1, b2, b3⟩, c, d, e, fun v hv => ?_, fun v hv hvP => ?_, fun v hv z hz => ?_, fun v hv p hp2 hpv hmax => ?_, k⟩
  · obtain ⟨f1, w, w1, w2, w3⟩ := f v hv
    by_cases z : v = s
    · subst z
      rw [ls]
      by_cases q : num y < low v
      · have yO : y ∈ O := (a1 y hys).mpr ⟨by omega, fun z => by have := (a2 v hv).2.2; omega⟩
        rw [Nat.min_eq_right (by omega)]
        exact ⟨by omega, y, yO, rfl, Rch.one hy⟩
      · rw [Nat.min_eq_left (by omega)]
        exact ⟨f1, w, w1, w2, w3⟩
    · rw [lv v z]
      exact ⟨f1, w, w1, w2, w3⟩
  · have vs : v ≠ s := fun z => hvP (z ▸ List.mem_cons_self)
    obtain ⟨g1, g2⟩ := g v hv hvP
    rw [lv v vs]
    exact ⟨g1, fun z hz => (hp v hv z).mpr (Or.inl (g2 z hz))⟩
  · rcases (hp v hv z).mp hz with q | ⟨rfl, rfl⟩
    · obtain ⟨i1, i2⟩ := i v hv z q
      refine ⟨i1, i2.imp_right (fun r => ⟨r.1, Nat.le_trans (le v) r.2⟩)⟩
    · refine ⟨hy, ?_⟩
      by_cases q : num z = CL
      · exact Or.inl q
      · exact Or.inr ⟨(a1 z hys).mpr ⟨by omega, q⟩, by rw [ls]; exact Nat.min_le_right _ _⟩
  · by_cases z : v = s
    · subst z
      have : p = v := by
        rcases List.mem_cons.mp hp2 with rfl | hp2
        · rfl
        · have := hmax v List.mem_cons_self (Nat.le_refl _)
          have := sm p hp2
          omega
      rw [this]
      exact Nat.le_refl _
    · rw [lv v z]
      exact Nat.le_trans (le p) (j v hv p hp2 hpv hmax)
/-- one is left, and stays -/
theorem TI.keep {s : Nat} {P' : List Nat} {low' : Nat → Nat} (h : TI dp ns num low (s :: P') O pd seen) (hl : low s ≠ num s) (hd : ∀ y, y ∈ dp s → pd s y) (hlow : ∀ v, low' v = if P'.head? = some v then min (low v) (low s) else low v) : TI dp ns num low' P' O pd seen := by
  obtain ⟨sO, sm, sP⟩ := h.top
  obtain ⟨⟨a1, a2, a3⟩, ⟨b1, b2, b3⟩, c, d, e, f, g, i, j, k⟩ := h
  have b2' := (List.pairwise_cons.mp b2).2
  have b3' : ∀ p, p ∈ P' → p ∈ O := fun p hp => b3 p (List.mem_cons_of_mem _ hp)
  have le : ∀ v, low' v ≤ low v := fun v => by
    rw [hlow]
    split
    · exact Nat.min_le_left _ _
    · exact Nat.le_refl _
  have lsn : low s < num s := by have := (f s sO).1; omega
  have nh : ∀ v, v ∉ P' → low' v = low v := fun v hv => by
    rw [hlow, if_neg (fun z : P'.head? = some v => hv (List.mem_of_mem_head? z))]
  have nonempty : ∃ u l, P' = u :: l := by
    cases hP' : P' with
    | cons u l => exact ⟨u, l, rfl⟩
    | nil =>
      obtain ⟨-, w, w1, w2, w3⟩ := f s sO
      obtain ⟨p, p1, p2⟩ := k w w1
      rw [hP'] at p1
      have : p = s := List.mem_singleton.mp p1
      rw [this] at p2
      omega
  obtain ⟨u, l, rfl⟩ := nonempty
  have us : s ∈ dp u := by
    have c : s ∈ dp u ∧ _ := c
    exact c.1
  have uO : u ∈ O := b3' u List.mem_cons_self
  have um := (List.pairwise_cons.mp b2').1
  have lu : low' u = min (low u) (low s) := by rw [hlow, if_pos (show (u :: l).head? = some u from rfl)]
  refine ⟨⟨a1, a2, a3⟩, ⟨b1, b2', b3'⟩, ?_, d, fun p hp => e p (List.mem_cons_of_mem _ hp), fun v hv => ?_, fun v hv hvP => ?_, fun v hv z hz => ?_, fun v hv p hp hpv hmax => ?_, fun v hv => ?_⟩
  · have c : s ∈ dp u ∧ Ed dp (u :: l) := c
    exact c.2
  · obtain ⟨f1, w, w1, w2, w3⟩ := f v hv
    by_cases z : v = u
    · subst z
      rw [lu]
      by_cases q : low s < low v
      · rw [Nat.min_eq_right (by omega)]
        obtain ⟨-, w', x1, x2, x3⟩ := f s sO
        exact ⟨by omega, w', x1, x2, (Rch.one us).trans x3⟩
      · rw [Nat.min_eq_left (by omega)]
        exact ⟨f1, w, w1, w2, w3⟩
    · have : low' v = low v := by
        rw [hlow, if_neg (fun q => z ?_)]
        have q : some u = some v := q
        cases q
        rfl
      rw [this]
      exact ⟨f1, w, w1, w2, w3⟩
  · rw [nh v hvP]
    by_cases z : v = s
    · subst z
      exact ⟨lsn, hd⟩
    · exact g v hv (fun q => (List.mem_cons.mp q).elim z hvP)
  · obtain ⟨i1, i2⟩ := i v hv z hz
    exact ⟨i1, i2.imp_right (fun r => ⟨r.1, Nat.le_trans (le v) r.2⟩)⟩
  · by_cases q : num s ≤ num v
    · -- s was the deepest
      have ps : low s ≤ low v := j v hv s List.mem_cons_self q (fun p' hp' h2 => by
        rcases List.mem_cons.mp hp' with rfl | hp'
        · exact Nat.le_refl _
        · exact Nat.le_of_lt (sm p' hp'))
      have pu : p = u := by
        rcases List.mem_cons.mp hp with rfl | hp
        · rfl
        · have h1 := hmax u List.mem_cons_self (by have := sm u List.mem_cons_self; omega)
          have := um p hp
          omega
      subst pu
      rw [lu]
      by_cases vP : v ∈ p :: l
      · exfalso
        have := sm v vP
        omega
      · rw [nh v vP]
        exact Nat.le_trans (Nat.min_le_right _ _) ps
    · have jj := j v hv p (List.mem_cons_of_mem _ hp) hpv (fun p' hp' h2 => by
        rcases List.mem_cons.mp hp' with rfl | hp'
        · omega
        · exact hmax p' hp' h2)
      by_cases vu : v = u
      · have : p = u := by
          rcases List.mem_cons.mp hp with rfl | hp
          · rfl
          · have h1 := hmax u List.mem_cons_self (by rw [vu]; exact Nat.le_refl _)
            have := um p hp
            omega
        rw [this, vu]
        exact Nat.le_refl _
      · have : low' v = low v := by
          rw [hlow, if_neg (fun q => vu ?_)]
          have q : some u = some v := q
          cases q
          rfl
        rw [this]
        exact Nat.le_trans (le p) jj
  · obtain ⟨p, p1, p2⟩ := k v hv
    rcases List.mem_cons.mp p1 with rfl | p1
    · exact ⟨u, List.mem_cons_self, by have := sm u List.mem_cons_self; omega⟩
    · exact ⟨p, p1, p2⟩
end TAR
