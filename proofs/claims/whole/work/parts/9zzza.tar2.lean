/-! Order: a component is closed. -/
def OI (dp : Nat → List Nat) (ns : Nat) (num : Nat → Nat) (told : Nat → Bool) (l : List Nat) : Prop := (∀ v, v ∈ l ↔ v < ns ∧ num v = CL ∧ told v = true) ∧ l.Nodup ∧ ((∀ v, v < ns → ¬ Cy dp v) → TO dp told l)
theorem nodup_len : ∀ {n : Nat} {l : List Nat}, l.Nodup → (∀ x, x ∈ l → x < n) → l.length ≤ n
  | 0, [], _, _ => Nat.le_refl _
  | 0, a :: l, _, h => absurd (h a List.mem_cons_self) (Nat.not_lt_zero _)
  | n + 1, l, hn, h => by
    by_cases z : n ∈ l
    · have e := List.length_erase_of_mem z
      have i := nodup_len (n := n) (l := l.erase n) (hn.erase n) (fun x hx => by
        have m := (hn.mem_erase_iff).mp hx
        have := h x m.2
        have := m.1
        omega)
      omega
    · have := nodup_len (n := n) (l := l) hn (fun x hx => by
        have := h x hx
        have : x ≠ n := fun q => z (q ▸ hx)
        omega)
      omega
section TAR2
variable {dp : Nat → List Nat} {ns : Nat} {num low : Nat → Nat} {P O : List Nat} {pd pd' : Nat → Nat → Prop} {seen lp : Nat} {told : Nat → Bool} {ord : List Nat}
theorem TI.pop {s : Nat} {P' C O' : List Nat} {num' low' : Nat → Nat} (h : TI dp ns num low (s :: P') O pd seen) (hO : O = C ++ s :: O') (hl : low s = num s) (hd : ∀ y, y ∈ dp s → pd s y) (hn : ∀ v, num' v = if v ∈ C ∨ v = s then CL else num v) (hlow : ∀ v, v ∈ O' → low' v = low v) : TI dp ns num' low' P' O' pd seen ∧ (∀ v, v ∈ C ∨ v = s → v < ns ∧ num v ≠ CL ∧ ∀ y, y ∈ dp v → num' y = CL) ∧ (∀ v, v ∈ C → Rch dp v s ∧ Rch dp s v ∧ v ≠ s) := by
  obtain ⟨sO, sm, sP⟩ := h.top
  obtain ⟨⟨a1, a2, a3⟩, ⟨b1, b2, b3⟩, c, d, e, f, g, i, j, k⟩ := h
  have mO : ∀ v, v ∈ O ↔ (v ∈ C ∨ v = s ∨ v ∈ O') := fun v => by rw [hO, List.mem_append, List.mem_cons]
  rw [hO] at b1
  obtain ⟨w1, w2, w3⟩ := List.pairwise_append.mp b1
  obtain ⟨w4, w5⟩ := List.pairwise_cons.mp w2
  have nC : ∀ v, v ∈ C → num s < num v := fun v hv => w3 v hv s List.mem_cons_self
  have nO : ∀ v, v ∈ O' → num v < num s := fun v hv => w4 v hv
  have mem : ∀ v, v ∈ C ∨ v = s → v ∈ O ∧ num s ≤ num v := fun v hv => by
    rcases hv with hv | rfl
    · exact ⟨(mO v).mpr (Or.inl hv), Nat.le_of_lt (nC v hv)⟩
    · exact ⟨sO, Nat.le_refl _⟩
  have notm : ∀ v, v ∈ O' → ¬ (v ∈ C ∨ v = s) := fun v hv z => by
    have := (mem v z).2
    have := nO v hv
    omega
  have nP : ∀ v, v ∈ C → v ∉ s :: P' := fun v hv z => by
    have := nC v hv
    rcases List.mem_cons.mp z with rfl | z
    · omega
    · have := sm v z; omega
  have lg : ∀ v, v ∈ C ∨ v = s → num s ≤ low v := fun v hv => by
    rw [← hl]
    refine j v (mem v hv).1 s List.mem_cons_self (mem v hv).2 (fun p' hp' _ => ?_)
    rcases List.mem_cons.mp hp' with rfl | hp'
    · exact Nat.le_refl _
    · exact Nat.le_of_lt (sm p' hp')
  have pds : ∀ v, v ∈ C ∨ v = s → ∀ y, y ∈ dp v → pd v y := fun v hv => by
    rcases hv with hv | rfl
    · exact (g v ((mO v).mpr (Or.inl hv)) (nP v hv)).2
    · exact hd
  have deps : ∀ v, v ∈ C ∨ v = s → ∀ y, y ∈ dp v → num' y = CL := fun v hv y hy => by
    rw [hn]
    split
    · rfl
    · rename_i q
      obtain ⟨-, i2⟩ := i v (mem v hv).1 y (pds v hv y hy)
      rcases i2 with i2 | ⟨i2, i3⟩
      · exact i2
      · exfalso
        have := lg v hv
        rcases (mO y).mp i2 with z | z | z
        · exact q (Or.inl z)
        · exact q (Or.inr z)
        · have := nO y z; omega
  have nCL : ∀ v, v ∈ O → num v ≠ CL := fun v hv => by have := (a2 v hv).2.2; omega
  have rs : ∀ (b : Nat) (v : Nat), num v ≤ b → v ∈ C → Rch dp v s := by
    intro b
    induction b with
    | zero => intro v hb hv; have := nC v hv; omega
    | succ b ih =>
      intro v hb hv
      obtain ⟨-, w, x1, x2, x3⟩ := f v ((mO v).mpr (Or.inl hv))
      have g1 := (g v ((mO v).mpr (Or.inl hv)) (nP v hv)).1
      have := lg v (Or.inl hv)
      rcases (mO w).mp x1 with z | z | z
      · exact x3.trans (ih w (by omega) z)
      · rw [z] at x3; exact x3
      · have := nO w z; omega
  have nn : ∀ v, v ∈ O' → num' v = num v := fun v hv => by rw [hn, if_neg (notm v hv)]
  have pO : ∀ p, p ∈ P' → p ∈ O' := fun p hp => by
    have := sm p hp
    rcases (mO p).mp (b3 p (List.mem_cons_of_mem _ hp)) with z | z | z
    · have := nC p z; omega
    · subst z; omega
    · exact z
  have oO : ∀ v, v ∈ O' → v ∈ O := fun v hv => (mO v).mpr (Or.inr (Or.inr hv))
  refine ⟨⟨⟨fun v hv => ?_, fun v hv => ?_, a3⟩, ⟨?_, ?_, pO⟩, ?_, fun v hv h1 y hy => ?_, fun p hp v hv hpv => ?_, fun v hv => ?_, fun v hv hvP => ?_, fun v hv y hy => ?_, fun v hv p hp hpv hmax => ?_, fun v hv => ?_⟩, fun v hv => ⟨(a2 v (mem v hv).1).1, nCL v (mem v hv).1, deps v hv⟩, fun v hv => ⟨rs _ v (Nat.le_refl _) hv, e s List.mem_cons_self v ((mO v).mpr (Or.inl hv)) (Nat.le_of_lt (nC v hv)), fun z => by have := nC v hv; rw [z] at this; omega⟩⟩
  · rw [hn]
    split
    · rename_i q
      exact ⟨fun z => absurd q (notm v z), fun z => absurd rfl z.2⟩
    · rename_i q
      rw [← a1 v hv, mO]
      exact ⟨fun z => Or.inr (Or.inr z), fun z => by
        rcases z with z | z | z
        · exact absurd (Or.inl z) q
        · exact absurd (Or.inr z) q
        · exact z⟩
  · rw [nn v hv]
    exact a2 v (oO v hv)
  · exact w5.imp_of_mem (fun {a b} ha hb q => by rw [nn a ha, nn b hb]; exact q)
  · exact (List.pairwise_cons.mp b2).2.imp_of_mem (fun {a b} ha hb q => by rw [nn a (pO a ha), nn b (pO b hb)]; exact q)
  · cases P' with
    | nil => exact trivial
    | cons u l =>
      have c : s ∈ dp u ∧ Ed dp (u :: l) := c
      exact c.2
  · rw [hn] at h1
    split at h1
    · rename_i q
      exact deps v q y hy
    · have := d v hv h1 y hy
      rw [hn]
      split
      · rfl
      · exact this
  · rw [nn p (pO p hp), nn v hv] at hpv
    exact e p (List.mem_cons_of_mem _ hp) v (oO v hv) hpv
  · obtain ⟨f1, w, x1, x2, x3⟩ := f v (oO v hv)
    have := nO v hv
    have wO : w ∈ O' := by
      rcases (mO w).mp x1 with z | z | z
      · have := nC w z; omega
      · subst z; omega
      · exact z
    rw [hlow v hv, nn v hv]
    exact ⟨f1, w, wO, by rw [nn w wO]; exact x2, x3⟩
  · obtain ⟨g1, g2⟩ := g v (oO v hv) (fun z => (List.mem_cons.mp z).elim (fun q => notm v hv (Or.inr q)) hvP)
    rw [hlow v hv, nn v hv]
    exact ⟨g1, g2⟩
  · obtain ⟨i1, i2⟩ := i v (oO v hv) y hy
    refine ⟨i1, ?_⟩
    rw [hlow v hv]
    by_cases q : y ∈ C ∨ y = s
    · exact Or.inl (by rw [hn, if_pos q])
    · rw [hn, if_neg q]
      rcases i2 with i2 | ⟨i2, i3⟩
      · exact Or.inl i2
      · refine Or.inr ⟨?_, i3⟩
        rcases (mO y).mp i2 with z | z | z
        · exact absurd (Or.inl z) q
        · exact absurd (Or.inr z) q
        · exact z
  · rw [nn p (pO p hp), nn v hv] at hpv
    rw [hlow p (pO p hp), hlow v hv]
    refine j v (oO v hv) p (List.mem_cons_of_mem _ hp) hpv (fun p' hp' h2 => ?_)
    have := nO v hv
    rcases List.mem_cons.mp hp' with rfl | hp'
    · omega
    · have := hmax p' hp' (by rw [nn p' (pO p' hp'), nn v hv]; exact h2)
      rw [nn p' (pO p' hp'), nn p (pO p hp)] at this
      exact this
  · obtain ⟨p, p1, p2⟩ := k v (oO v hv)
    have := nO v hv
    rcases List.mem_cons.mp p1 with rfl | p1
    · omega
    · exact ⟨p, p1, by rw [nn p (pO p p1), nn v hv]; exact p2⟩
theorem LI.enter {y : Nat} (h : LI dp ns num O pd lp) (hT : TI dp ns num low P O pd seen) (h0 : num y = 0) (hs : seen + 1 < CL) (hpd : ∀ v, v ∈ y :: O → ∀ z, pd' v z ↔ ((v ≠ y ∧ pd v z) ∨ (P.head? = some v ∧ z = y))) : LI dp ns (updN num y (seen + 1)) (y :: O) pd' lp := by
  obtain ⟨h1, h2, h3⟩ := h
  have yO : y ∉ O := fun z => by have := (hT.1.2.1 y z).2.1; omega
  refine ⟨h1, fun v hv hc => ?_, fun v hv hp => ?_⟩
  · unfold updN at hc
    split at hc
    · omega
    · exact h2 v hv hc
  · rcases (hpd v hv v).mp hp with ⟨q1, q2⟩ | ⟨q1, q2⟩
    · exact h3 v ((List.mem_cons.mp hv).resolve_left q1) q2
    · exact absurd (hT.2.1.2.2 v (List.mem_of_mem_head? q1)) (q2 ▸ yO)
theorem LI.see {s y lp' : Nat} (h : LI dp ns num O pd lp) (hy : y ∈ dp s) (hs : s < ns) (hpd : ∀ v, v ∈ O → ∀ z, pd' v z ↔ (pd v z ∨ (v = s ∧ z = y))) (hl : lp' = if y = s then min lp s else lp) (hc : ns ≤ CL) : LI dp ns num O pd' lp' := by
  obtain ⟨h1, h2, h3⟩ := h
  have le : lp' ≤ lp := by
    rw [hl]
    split
    · exact Nat.min_le_left _ _
    · exact Nat.le_refl _
  refine ⟨fun z => ?_, fun v hv hv2 hv3 => Nat.le_trans le (h2 v hv hv2 hv3), fun v hv hp => ?_⟩
  · rw [hl] at z ⊢
    split
    · rename_i q
      subst q
      rw [if_pos rfl] at z
      by_cases w : lp ≤ y
      · rw [Nat.min_eq_left w] at z ⊢
        exact h1 z
      · rw [Nat.min_eq_right (by omega)]
        exact ⟨hs, y, hy, Rch.refl⟩
    · rename_i q
      rw [if_neg q] at z
      exact h1 z
  · rcases (hpd v hv v).mp hp with q | ⟨q1, q2⟩
    · exact Nat.le_trans le (h3 v hv q)
    · rw [hl, if_pos (by rw [← q2, q1]), q1]
      exact Nat.min_le_right _ _
theorem LI.pop {s lp' : Nat} {P' C O' : List Nat} {num' : Nat → Nat} (h : LI dp ns num O pd lp) (hT : TI dp ns num low (s :: P') O pd seen) (hdn : ∀ v y, v < ns → y ∈ dp v → y < ns) (hO : O = C ++ s :: O') (hl : low s = num s) (hd : ∀ y, y ∈ dp s → pd s y) (hn : ∀ v, num' v = if v ∈ C ∨ v = s then CL else num v) (hle : lp' ≤ lp) (hC : C ≠ [] → ∀ v, v ∈ C ∨ v = s → lp' ≤ v) (hx : lp' = lp ∨ (C ≠ [] ∧ (lp' ∈ C ∨ lp' = s))) : LI dp ns num' O' pd lp' := by
  obtain ⟨-, p2, p3⟩ := hT.pop (low' := low) hO hl hd hn (fun _ _ => rfl)
  obtain ⟨h1, h2, h3⟩ := h
  have sO := hT.top.1
  refine ⟨fun z => ?_, fun v hv hv2 hv3 => ?_, fun v hv hp => ?_⟩
  · rcases hx with q | ⟨q1, q2⟩
    · rw [q] at z ⊢; exact h1 z
    · refine ⟨(p2 lp' q2).1, ?_⟩
      rcases q2 with q2 | q2
      · obtain ⟨r1, r2, r3⟩ := p3 lp' q2
        exact Cy.of r1 r2 r3
      · obtain ⟨u, l, e⟩ := List.exists_cons_of_ne_nil q1
        obtain ⟨r1, r2, r3⟩ := p3 u (by rw [e]; exact List.mem_cons_self)
        rw [q2]
        exact Cy.of r2 r1 (fun z => r3 z.symm)
  · rw [hn] at hv2
    split at hv2
    · rename_i q
      by_cases w : C = []
      · subst w
        have vs : v = s := by simpa using q
        subst vs
        obtain ⟨z, z1, k, z2⟩ := hv3
        by_cases y : z = v
        · subst y
          exact Nat.le_trans hle (h3 z sO (hd z z1))
        · exfalso
          have c1 := (p2 v (Or.inr rfl)).2.2 z z1
          rw [hn, if_neg (by simpa using y)] at c1
          have := closed_Rk hT.2.2.2.1 hdn (hdn v z hv z1) c1 z2
          exact (p2 v (Or.inr rfl)).2.1 this.1
      · exact hC w v q
    · exact Nat.le_trans hle (h2 v hv hv2 hv3)
  · exact Nat.le_trans hle (h3 v (by rw [hO]; exact List.mem_append_right _ (List.mem_cons_of_mem _ hv)) hp)
theorem OI.enter {y : Nat} (h : OI dp ns num told ord) (h0 : num y = 0) (hs : seen + 1 < CL) : OI dp ns (updN num y (seen + 1)) told ord := by
  refine ⟨fun v => ?_, h.2⟩
  rw [h.1]
  unfold updN
  by_cases z : v = y
  · subst z
    rw [if_pos rfl, h0]
    exact ⟨fun q => (by cases q.2.1), fun q => absurd q.2.1 (by omega)⟩
  · rw [if_neg z]
theorem OI.pop {s : Nat} {P' C O' : List Nat} {num' : Nat → Nat} (h : OI dp ns num told ord) (hdn : ∀ v y, v < ns → y ∈ dp v → y < ns) (hT : TI dp ns num low (s :: P') O pd seen) (hO : O = C ++ s :: O') (hl : low s = num s) (hd : ∀ y, y ∈ dp s → pd s y) (hn : ∀ v, num' v = if v ∈ C ∨ v = s then CL else num v) : OI dp ns num' told (ord ++ (C ++ [s]).filter told) := by
  obtain ⟨-, p2, p3⟩ := hT.pop (low' := low) hO hl hd hn (fun _ _ => rfl)
  obtain ⟨h1, h2, h3⟩ := h
  have b1 := hT.2.1.1
  rw [hO] at b1
  obtain ⟨w1, w2, w3⟩ := List.pairwise_append.mp b1
  refine ⟨fun v => ?_, ?_, fun nc => ?_⟩
  · rw [List.mem_append, List.mem_filter, h1, hn, List.mem_append, List.mem_singleton]
    constructor
    · rintro (⟨q1, q2, q3⟩ | ⟨q1, q2⟩)
      · refine ⟨q1, ?_, q3⟩
        split
        · rfl
        · exact q2
      · exact ⟨(p2 v q1).1, by rw [if_pos q1], q2⟩
    · rintro ⟨q1, q2, q3⟩
      by_cases z : v ∈ C ∨ v = s
      · exact Or.inr ⟨z, q3⟩
      · rw [if_neg z] at q2
        exact Or.inl ⟨q1, q2, q3⟩
  · refine List.nodup_append.mpr ⟨h2, List.Pairwise.filter _ ?_, fun a ha b hb => ?_⟩
    · refine List.nodup_append.mpr ⟨?_, List.pairwise_singleton _ _, fun a ha b hb => ?_⟩
      · exact w1.imp (fun {a b} q z => by rw [z] at q; omega)
      · have : b = s := List.mem_singleton.mp hb
        rw [this]
        exact (p3 a ha).2.2
    · intro z
      subst z
      have hb := (List.mem_filter.mp hb).1
      rw [List.mem_append, List.mem_singleton] at hb
      exact (p2 a hb).2.1 ((h1 a).mp ha).2.1
  · -- nothing depends on itself: one at a time
    have C0 : C = [] := by
      cases C with
      | nil => rfl
      | cons u l =>
        obtain ⟨r1, r2, r3⟩ := p3 u List.mem_cons_self
        exact absurd (Cy.of r1 r2 r3) (nc u (p2 u (Or.inl List.mem_cons_self)).1)
    subst C0
    rw [List.nil_append]
    by_cases ts : told s = true
    · rw [List.filter_cons_of_pos ts]
      intro a v b e y hy ty
      rcases List.eq_nil_or_concat b with rfl | ⟨b', x, rfl⟩
      · have e2 : ord ++ [s] = a ++ [v] := e
        obtain ⟨e3, e4⟩ := List.append_inj' e2 rfl
        have e4 : s = v := by simpa using e4
        subst e4
        rw [← e3]
        have c1 := (p2 s (Or.inr rfl)).2.2 y hy
        have ys : y ≠ s := fun z => by
          subst z
          exact nc y (p2 y (Or.inr rfl)).1 ⟨y, hy, Rch.refl⟩
        rw [hn, if_neg (by simpa using ys)] at c1
        rw [h1]
        exact ⟨hdn s y (p2 s (Or.inr rfl)).1 hy, c1, ty⟩
      · have e2 : ord ++ [s] = (a ++ v :: b') ++ [x] := by
          rw [List.append_assoc, List.cons_append]
          rw [List.concat_eq_append] at e
          exact e
        obtain ⟨e3, e4⟩ := List.append_inj' e2 rfl
        exact h3 nc a v b' e3 y hy ty
    · rw [List.filter_cons_of_neg ts]
      show TO dp told (ord ++ [])
      rw [List.append_nil]
      exact h3 nc
end TAR2
