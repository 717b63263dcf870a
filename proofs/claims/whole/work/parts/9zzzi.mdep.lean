/-! The reference: whether a signal depends on itself. -/
def BQ (dp : Nat → List Nat) (s : ms) (ns x0 : Nat) (T : List Nat) : Prop := (∀ y, y < ns → s.1 73 y = b01 (decide (y ∈ T))) ∧ (∀ k o, (x0 :: T)[k]? = some o → s.1 74 k = nI o) ∧ (x0 :: T).Nodup ∧ ∀ y, y ∈ x0 :: T → y < ns ∧ Rch dp x0 y
section MDEP
variable {s s' : ms} {N ns x0 : Nat} {a len : Nat → Nat} {src : Nat → Option Nat} {ld : Nat → Nat → Option Nat} {T : List Nat}
abbrev QD (s s' : ms) : Prop := Eb [73, 74] [] s s'
theorem BQ.le {dp : Nat → List Nat} (h : BQ dp s ns x0 T) : T.length + 1 ≤ ns := nodup_len (n := ns) (l := x0 :: T) h.2.2.1 (fun y hy => (h.2.2.2 y hy).1)
/-- one that is needed -/
theorem met_M {k34 : Int32 → Int32 → Int32 → ms → Option (Int32 × ms)} {k114 : Int32 → Int32 → Int32 → Int32 → Int32 → Int32 → ms → Option (Int32 × ms)} {dp : Nat → List Nat} {k x to cc y : Nat} (hns : ns ≤ 1024) (h : BQ dp s ns x0 T) (hx : x ∈ x0 :: T) (hy : y < ns) (hd : y ∈ dp x) : (y = x0 ∧ bk_M_dependsOnItself_177 N k34 k114 (nI x0) (nI (T.length + 1)) (nI k) (nI x) (nI to) (nI cc) (nI y) s = some (1, s)) ∨ (y ≠ x0 ∧ ∃ s' U, bk_M_dependsOnItself_177 N k34 k114 (nI x0) (nI (T.length + 1)) (nI k) (nI x) (nI to) (nI cc) (nI y) s = k114 (nI x0) (nI ((T ++ U).length + 1)) (nI k) (nI x) (nI to) (nI (cc + 3)) s' ∧ QD s s' ∧ BQ dp s' ns x0 (T ++ U) ∧ y ∈ T ++ U) := by
  obtain ⟨h1, h2, h3, h4⟩ := id h
  have hl := h.le
  have x0n := (h4 x0 List.mem_cons_self).1
  unfold bk_M_dependsOnItself_177
  by_cases z : y = x0
  · left
    rw [if_pos (by rw [z])]
    exact ⟨z, rfl⟩
  · right
    refine ⟨z, ?_⟩
    rw [if_neg (fun q => z ((nI_eq (by omega) (by omega)).mp q)), if_neg (nI_pos (by omega)), if_neg (nI_in (show y < 1100 by omega) (by decide)), nI_clamp (show y < 2 ^ 31 by omega), h1 y hy, show nI cc + 3 = nI (cc + 3) by rw [show (3 : Int32) = nI 3 from rfl, nI_add]]
    by_cases w : y ∈ T
    · rw [decide_eq_true w, if_neg (show ¬ b01 true = 0 by decide)]
      exact ⟨s, [], by rw [List.append_nil], Eb.rfl, by rw [List.append_nil]; exact h, by rw [List.append_nil]; exact w⟩
    · have nd : (x0 :: (T ++ [y])).Nodup := by
        obtain ⟨n1, n2⟩ := List.nodup_cons.mp h3
        refine List.nodup_cons.mpr ⟨fun q => ?_, List.nodup_append.mpr ⟨n2, List.pairwise_singleton _ _, fun b hb d hd q => w (by rw [← List.mem_singleton.mp hd, ← q]; exact hb)⟩⟩
        rcases List.mem_append.mp q with q | q
        · exact n1 q
        · exact z (List.mem_singleton.mp q).symm
      have mem : ∀ v, v ∈ x0 :: (T ++ [y]) → v < ns ∧ Rch dp x0 v := fun v hv => by
        rcases List.mem_cons.mp hv with rfl | hv
        · exact ⟨x0n, Rch.refl⟩
        · rcases List.mem_append.mp hv with hv | hv
          · exact h4 v (List.mem_cons_of_mem _ hv)
          · rw [List.mem_singleton.mp hv]
            exact ⟨hy, (h4 x hx).2.trans (Rch.one hd)⟩
      have l2 : T.length + 1 + 1 ≤ ns := by
        have := nodup_len (n := ns) nd (fun v hv => (mem v hv).1)
        rw [List.length_cons, List.length_append] at this
        exact this
      rw [decide_eq_false w, if_pos (show b01 false = 0 from rfl), if_neg (nI_in2 (show y < 1100 by omega) (by decide)), if_neg (nI_in (show T.length + 1 < 1100 by omega) (by decide)), nI_clamp (show T.length + 1 < 2 ^ 31 by omega), nI_1]
      refine ⟨_, [y], by rw [List.length_append]; rfl, (Eb.rfl.upI (by decide)).upI (by decide), ⟨fun v hv => ?_, fun j o hj => ?_, nd, mem⟩, List.mem_append_right _ List.mem_cons_self⟩
      · show upd (s.1 73) y (vp_nar .boolean 1) v = _
        by_cases q : v = y
        · subst q
          rw [upd_at, decide_eq_true (List.mem_append_right _ List.mem_cons_self)]
          rfl
        · rw [upd_ne q, h1 v hv]
          congr 1
          rw [decide_eq_decide, List.mem_append, List.mem_singleton]
          exact ⟨Or.inl, fun w => w.resolve_right q⟩
      · show upd (s.1 74) (T.length + 1) (nI y) j = _
        by_cases q : j < T.length + 1
        · rw [upd_ne (by omega)]
          refine h2 j o ?_
          rw [show x0 :: (T ++ [y]) = (x0 :: T) ++ [y] from rfl, List.getElem?_append_left q] at hj
          exact hj
        · rw [show x0 :: (T ++ [y]) = (x0 :: T) ++ [y] from rfl, List.getElem?_append_right (by rw [List.length_cons]; omega)] at hj
          have : j = T.length + 1 := by
            have := (List.getElem?_eq_some_iff.mp hj).1
            rw [List.length_cons] at this
            have : j - (T.length + 1) < 1 := this
            omega
          subst this
          rw [List.length_cons, Nat.sub_self] at hj
          have hj : some y = some o := hj
          cases hj
          rw [upd_at]
/-- all that an exp needs -/
theorem ops_M {k34 : Int32 → Int32 → Int32 → ms → Option (Int32 × ms)} {k x : Nat} (hM : Mt N s ns a len src ld) (hx : x < ns) (h0 : src x = none) (hl : 0 < len x) : ∀ (m i F : Nat) (s' : ms) (T : List Nat), i + m = len x → m < F → QD s s' → BQ (dpn len src ld) s' ns x0 T → x ∈ x0 :: T → (Cy (dpn len src ld) x0 ∧ ∃ s2, hd_M_dependsOnItself_114 N k34 F (nI x0) (nI (T.length + 1)) (nI k) (nI x) (nI (3 * (a x + len x))) (nI (3 * (a x + i))) s' = some (1, s2) ∧ QD s' s2) ∨ (∃ s2 U, hd_M_dependsOnItself_114 N k34 F (nI x0) (nI (T.length + 1)) (nI k) (nI x) (nI (3 * (a x + len x))) (nI (3 * (a x + i))) s' = k34 (nI x0) (nI ((T ++ U).length + 1)) (nI (k + 1)) s2 ∧ QD s' s2 ∧ BQ (dpn len src ld) s2 ns x0 (T ++ U) ∧ ∀ j, i ≤ j → j < len x → ∀ y, ld x j = some y → y ≠ x0 ∧ y ∈ T ++ U) := by
  obtain ⟨h1, h2, cl, h3, h4, h5⟩ := id hM
  obtain ⟨-, -, g⟩ := h5 x hx
  obtain ⟨g1, g2, g3, g4, g5⟩ := g h0 hl
  have iX := nI_in (show x < 1100 by omega) (by decide)
  intro m
  induction m with
  | zero =>
    intro i F s' T hi hF e hB hxT
    obtain ⟨F, rfl⟩ : ∃ F', F = F' + 1 := ⟨F - 1, by omega⟩
    right
    refine ⟨s', [], ?_, Eb.rfl, by rw [List.append_nil]; exact hB, fun j j1 j2 => by omega⟩
    show bd_M_dependsOnItself_114 N k34 (hd_M_dependsOnItself_114 N k34 F) _ _ _ _ _ _ s' = _
    unfold bd_M_dependsOnItself_114
    rw [if_pos (nI_le (by omega) (by omega)), nI_1, List.append_nil]
  | succ m ih =>
    intro i F s' T hi hF e hB hxT
    obtain ⟨F, rfl⟩ : ∃ F', F = F' + 1 := ⟨F - 1, by omega⟩
    obtain ⟨q1, q2⟩ := g5 i (by omega)
    have r66 : s'.1 66 x = 1 := by rw [e.1 66 (by decide)]; exact g1
    have r91 : s'.1 91 0 = nI cl := by rw [e.1 91 (by decide)]; exact h3
    have x3 : 3 * (a x + i) + 3 = 3 * (a x + (i + 1)) := by omega
    have body : hd_M_dependsOnItself_114 N k34 (F + 1) (nI x0) (nI (T.length + 1)) (nI k) (nI x) (nI (3 * (a x + len x))) (nI (3 * (a x + i))) s' = bd_M_dependsOnItself_114 N k34 (hd_M_dependsOnItself_114 N k34 F) (nI x0) (nI (T.length + 1)) (nI k) (nI x) (nI (3 * (a x + len x))) (nI (3 * (a x + i))) s' := rfl
    unfold bd_M_dependsOnItself_114 at body
    rw [if_neg (nI_ge (by omega) (by omega)), if_neg iX, nI_clamp (show x < 2 ^ 31 by omega), r66, if_neg (show ¬ (1 : Int32) = 2 by decide), r91, nI_clamp (show cl < 2 ^ 31 by omega), if_neg (nI_in (show 3 * (a x + i) < cl by omega) (by omega)), nI_clamp (show 3 * (a x + i) < 2 ^ 31 by omega)] at body
    by_cases z : s.1 41 (3 * (a x + i)) = 1
    · obtain ⟨y, hy⟩ := Option.ne_none_iff_exists'.mp (q1.mp z)
      obtain ⟨y1, y2⟩ := q2 y hy
      have yd : y ∈ dpn len src ld x := by
        unfold dpn
        rw [h0]
        exact List.mem_filterMap.mpr ⟨i, List.mem_range.mpr (by omega), hy⟩
      rw [e.1 41 (by decide), if_pos z, if_neg (nI_in2 (show x < 1100 by omega) (by decide)), nI_1, if_neg (nI_in (show 3 * (a x + i) + 1 < cl by omega) (by omega)), nI_clamp (show 3 * (a x + i) + 1 < 2 ^ 31 by omega), e.1 69 (by decide), y2 s' (e.1 57 (by decide)) (e.1 58 (by decide)) (e.1 14 (by decide)), obind] at body
      dsimp only at body
      rcases met_M (N := N) (k34 := k34) (k114 := hd_M_dependsOnItself_114 N k34 F) (k := k) (to := 3 * (a x + len x)) (cc := 3 * (a x + i)) h2 hB hxT y1 yd with ⟨w1, w2⟩ | ⟨w1, s2, U, w2, w3, w4, w5⟩
      · left
        refine ⟨?_, s', by rw [body]; exact w2, Eb.rfl⟩
        subst w1
        by_cases xx : x = y
        · exact ⟨x, by rw [← xx] at yd ⊢; exact yd, by rw [xx]; exact Rch.refl⟩
        · exact Cy.of (hB.2.2.2 x hxT).2 (Rch.one yd) (fun q => xx q.symm)
      · rw [x3] at w2
        rcases ih (i + 1) F s2 (T ++ U) (by omega) (by omega) (e.trans w3) w4 (by
          rcases List.mem_cons.mp hxT with q | q
          · rw [q]; exact List.mem_cons_self
          · exact List.mem_cons_of_mem _ (List.mem_append_left _ q)) with ⟨v1, s3, v2, v3⟩ | ⟨s3, V, v2, v3, v4, v5⟩
        · exact Or.inl ⟨v1, s3, by rw [body, w2]; exact v2, w3.trans v3⟩
        · right
          rw [List.append_assoc] at v2 v4 v5
          refine ⟨s3, U ++ V, by rw [body, w2]; exact v2, w3.trans v3, v4, fun j j1 j2 y' hy' => ?_⟩
          by_cases q : j = i
          · subst q
            rw [hy] at hy'
            cases hy'
            exact ⟨w1, by rw [← List.append_assoc]; exact List.mem_append_left _ w5⟩
          · exact v5 j (by omega) j2 y' hy'
    · have ln : ld x i = none := by
        cases q : ld x i with
        | none => rfl
        | some y => exact absurd (q1.mpr (by rw [q]; exact fun w => by cases w)) z
      rw [e.1 41 (by decide), if_neg z] at body
      unfold bk_M_dependsOnItself_177 at body
      have x0n := (hB.2.2.2 x0 List.mem_cons_self).1
      rw [if_neg (fun q => by
        have : ¬ (nI x0 : Int32) < 0 := nI_pos (by omega)
        rw [← q] at this
        exact this (by decide)), if_pos (by decide), show nI (3 * (a x + i)) + 3 = nI (3 * (a x + (i + 1))) by rw [show (3 : Int32) = nI 3 from rfl, nI_add, x3]] at body
      rcases ih (i + 1) F s' T (by omega) (by omega) e hB hxT with ⟨v1, s3, v2, v3⟩ | ⟨s3, V, v2, v3, v4, v5⟩
      · exact Or.inl ⟨v1, s3, by rw [body]; exact v2, v3⟩
      · refine Or.inr ⟨s3, V, by rw [body]; exact v2, v3, v4, fun j j1 j2 y' hy' => ?_⟩
        by_cases q : j = i
        · subst q; rw [ln] at hy'; cases hy'
        · exact v5 j (by omega) j2 y' hy'
/-- the queue -/
theorem que_M (hN : 70000 < N) (hM : Mt N s ns a len src ld) : ∀ (m k F : Nat) (s' : ms) (T : List Nat), k + m = ns → m < F → QD s s' → BQ (dpn len src ld) s' ns x0 T → k ≤ T.length + 1 → (∀ i z, i < k → (x0 :: T)[i]? = some z → ∀ y, y ∈ dpn len src ld z → y ≠ x0 ∧ y ∈ T) → ∃ r s2, hd_M_dependsOnItself_34 N F (nI x0) (nI (T.length + 1)) (nI k) s' = some (r, s2) ∧ QD s' s2 ∧ ((r = 1 ∧ Cy (dpn len src ld) x0) ∨ (r = 0 ∧ ¬ Cy (dpn len src ld) x0)) := by
  obtain ⟨h1, h2, cl, h3, h4, h5⟩ := id hM
  intro m
  induction m with
  | zero =>
    intro k F s' T hk hF e hB hkT hp
    obtain ⟨F, rfl⟩ : ∃ F', F = F' + 1 := ⟨F - 1, by omega⟩
    have hl := hB.le
    have kT : k = T.length + 1 := by omega
    refine ⟨0, s', ?_, Eb.rfl, Or.inr ⟨rfl, ?_⟩⟩
    · show bd_M_dependsOnItself_34 N (hd_M_dependsOnItself_34 N F) _ _ _ s' = _
      unfold bd_M_dependsOnItself_34
      rw [if_pos (nI_le (by omega) (by omega))]
    · exact done hB (fun z hz y hy => by
        obtain ⟨i, hi⟩ := List.getElem?_of_mem hz
        have := (List.getElem?_eq_some_iff.mp hi).1
        rw [List.length_cons] at this
        exact hp i z (by omega) hi y hy)
  | succ m ih =>
    intro k F s' T hk hF e hB hkT hp
    obtain ⟨F, rfl⟩ : ∃ F', F = F' + 1 := ⟨F - 1, by omega⟩
    have hl := hB.le
    by_cases kT : k = T.length + 1
    · refine ⟨0, s', ?_, Eb.rfl, Or.inr ⟨rfl, ?_⟩⟩
      · show bd_M_dependsOnItself_34 N (hd_M_dependsOnItself_34 N F) _ _ _ s' = _
        unfold bd_M_dependsOnItself_34
        rw [if_pos (nI_le (by omega) (by omega))]
      · exact done hB (fun z hz y hy => by
          obtain ⟨i, hi⟩ := List.getElem?_of_mem hz
          have := (List.getElem?_eq_some_iff.mp hi).1
          rw [List.length_cons] at this
          exact hp i z (by omega) hi y hy)
    · have kl : k < (x0 :: T).length := by rw [List.length_cons]; omega
      obtain ⟨x, hx⟩ : ∃ x, (x0 :: T)[k]? = some x := ⟨_, List.getElem?_eq_getElem kl⟩
      have xm : x ∈ x0 :: T := List.mem_of_getElem? hx
      have xn := (hB.2.2.2 x xm).1
      have r74 : s'.1 74 k = nI x := hB.2.1 k x hx
      have iX := nI_in (show x < 1100 by omega) (by decide)
      have iX2 := nI_in2 (show x < 1100 by omega) (by decide)
      obtain ⟨g1, g2, g3⟩ := h5 x xn
      have body : hd_M_dependsOnItself_34 N (F + 1) (nI x0) (nI (T.length + 1)) (nI k) s' = bd_M_dependsOnItself_34 N (hd_M_dependsOnItself_34 N F) (nI x0) (nI (T.length + 1)) (nI k) s' := rfl
      unfold bd_M_dependsOnItself_34 bk_M_dependsOnItself_69 at body
      rw [if_neg (nI_ge (by omega) (by omega)), if_neg (nI_in (show k < 1100 by omega) (by decide)), nI_clamp (show k < 2 ^ 31 by omega), r74, if_neg iX, nI_clamp (show x < 2 ^ 31 by omega), e.1 66 (by decide)] at body
      -- go on
      have go : ∀ (s2 : ms) (U : List Nat), QD s' s2 → BQ (dpn len src ld) s2 ns x0 (T ++ U) → (∀ y, y ∈ dpn len src ld x → y ≠ x0 ∧ y ∈ T ++ U) → hd_M_dependsOnItself_34 N (F + 1) (nI x0) (nI (T.length + 1)) (nI k) s' = hd_M_dependsOnItself_34 N F (nI x0) (nI ((T ++ U).length + 1)) (nI (k + 1)) s2 → ∃ r s2, hd_M_dependsOnItself_34 N (F + 1) (nI x0) (nI (T.length + 1)) (nI k) s' = some (r, s2) ∧ QD s' s2 ∧ ((r = 1 ∧ Cy (dpn len src ld) x0) ∨ (r = 0 ∧ ¬ Cy (dpn len src ld) x0)) := fun s2 U e2 hB2 hy2 st => by
        obtain ⟨r, s3, y1, y2, y3⟩ := ih (k + 1) F s2 (T ++ U) (by omega) (by omega) (e.trans e2) hB2 (by rw [List.length_append]; omega) (fun i z hi hz y hy => by
          by_cases q : i = k
          · subst q
            have : (x0 :: (T ++ U))[i]? = (x0 :: T)[i]? := by
              rw [show x0 :: (T ++ U) = (x0 :: T) ++ U from rfl, List.getElem?_append_left kl]
            rw [this, hx] at hz
            cases hz
            exact hy2 y hy
          · have : (x0 :: (T ++ U))[i]? = (x0 :: T)[i]? := by
              rw [show x0 :: (T ++ U) = (x0 :: T) ++ U from rfl, List.getElem?_append_left (by omega)]
            rw [this] at hz
            obtain ⟨w1, w2⟩ := hp i z (by omega) hz y hy
            exact ⟨w1, List.mem_append_left _ w2⟩)
        exact ⟨r, s3, by rw [st]; exact y1, e2.trans y2, y3⟩
      cases es : src x with
      | some y =>
        obtain ⟨q1, q2, q3⟩ := g1 y es
        rw [q1, if_neg (show ¬ (2 : Int32) = 1 by decide), if_neg iX2, if_neg (show ¬ (2 : Int32) = 1 by decide), if_neg iX2, if_pos rfl] at body
        have yd : y ∈ dpn len src ld x := by
          unfold dpn
          rw [es]
          exact List.mem_singleton.mpr rfl
        obtain ⟨G, hG⟩ : ∃ G, N = G + 1 + 1 := ⟨N - 2, by omega⟩
        have b2 : hd_M_dependsOnItself_114 N (hd_M_dependsOnItself_34 N F) N (nI x0) (nI (T.length + 1)) (nI k) (nI x) 3 0 s' = bk_M_dependsOnItself_177 N (hd_M_dependsOnItself_34 N F) (hd_M_dependsOnItself_114 N (hd_M_dependsOnItself_34 N F) (G + 1)) (nI x0) (nI (T.length + 1)) (nI k) (nI x) (nI 3) (nI 0) (nI y) s' := by
          conv => lhs; rw [show hd_M_dependsOnItself_114 N (hd_M_dependsOnItself_34 N F) N = hd_M_dependsOnItself_114 N (hd_M_dependsOnItself_34 N F) (G + 1 + 1) by rw [← hG]]
          show bd_M_dependsOnItself_114 N (hd_M_dependsOnItself_34 N F) (hd_M_dependsOnItself_114 N (hd_M_dependsOnItself_34 N F) (G + 1)) _ _ _ _ _ _ s' = _
          unfold bd_M_dependsOnItself_114
          rw [if_neg (show ¬ (3 : Int32) ≤ 0 by decide), if_neg iX, nI_clamp (show x < 2 ^ 31 by omega), e.1 66 (by decide), q1, if_pos rfl, if_neg iX2, e.1 67 (by decide), q2]
          rfl
        rcases met_M (N := N) (k34 := hd_M_dependsOnItself_34 N F) (k114 := hd_M_dependsOnItself_114 N (hd_M_dependsOnItself_34 N F) (G + 1)) (k := k) (to := 3) (cc := 0) h2 hB xm q3 yd with ⟨w1, w2⟩ | ⟨w1, s2, U, w2, w3, w4, w5⟩
        · refine ⟨1, s', by rw [body, b2]; exact w2, Eb.rfl, Or.inl ⟨rfl, ?_⟩⟩
          subst w1
          by_cases xx : x = y
          · exact ⟨x, by rw [← xx] at yd ⊢; exact yd, by rw [xx]; exact Rch.refl⟩
          · exact Cy.of (hB.2.2.2 x xm).2 (Rch.one yd) (fun q => xx q.symm)
        · refine go s2 U w3 w4 (fun y' hy' => ?_) ?_
          · unfold dpn at hy'
            rw [es] at hy'
            rw [List.mem_singleton.mp hy']
            exact ⟨w1, w5⟩
          · rw [body, b2, w2]
            show bd_M_dependsOnItself_114 N (hd_M_dependsOnItself_34 N F) (hd_M_dependsOnItself_114 N (hd_M_dependsOnItself_34 N F) G) _ _ _ _ _ _ s2 = _
            unfold bd_M_dependsOnItself_114
            rw [if_pos (show nI 3 ≤ nI (0 + 3) by decide), nI_1]
      | none =>
        by_cases l0 : len x = 0
        · rw [g2 es l0, if_neg (show ¬ (0 : Int32) = 1 by decide), if_neg iX2, if_neg (show ¬ (0 : Int32) = 1 by decide), if_neg iX2, if_neg (show ¬ (0 : Int32) = 2 by decide)] at body
          refine go s' [] Eb.rfl (by rw [List.append_nil]; exact hB) (fun y' hy' => ?_) ?_
          · unfold dpn at hy'
            rw [es] at hy'
            dsimp only at hy'
            rw [l0] at hy'
            exact absurd hy' List.not_mem_nil
          · obtain ⟨G, hG⟩ : ∃ G, N = G + 1 := ⟨N - 1, by omega⟩
            rw [body]
            conv => lhs; rw [show hd_M_dependsOnItself_114 N (hd_M_dependsOnItself_34 N F) N = hd_M_dependsOnItself_114 N (hd_M_dependsOnItself_34 N F) (G + 1) by rw [← hG]]
            show bd_M_dependsOnItself_114 N (hd_M_dependsOnItself_34 N F) (hd_M_dependsOnItself_114 N (hd_M_dependsOnItself_34 N F) G) _ _ _ _ _ _ s' = _
            unfold bd_M_dependsOnItself_114
            rw [if_pos (show (0 : Int32) ≤ 0 by decide), nI_1, List.append_nil]
        · obtain ⟨q1, q2, q3, q4, -⟩ := g3 es (by omega)
          rw [q1, if_pos rfl, if_neg iX2, e.1 67 (by decide), e.1 68 (by decide), q2, q3, if_neg iX2, if_pos rfl, if_neg iX2] at body
          rcases ops_M (N := N) (k34 := hd_M_dependsOnItself_34 N F) (k := k) hM xn es (by omega) (len x) 0 N s' T (by omega) (by omega) e hB xm with ⟨v1, s3, v2, v3⟩ | ⟨s3, V, v2, v3, v4, v5⟩
          · rw [Nat.add_zero] at v2
            exact ⟨1, s3, by rw [body]; exact v2, v3, Or.inl ⟨rfl, v1⟩⟩
          · rw [Nat.add_zero] at v2
            refine go s3 V v3 v4 (fun y' hy' => ?_) (by rw [body]; exact v2)
            unfold dpn at hy'
            rw [es] at hy'
            obtain ⟨j, j1, j2⟩ := List.mem_filterMap.mp hy'
            exact v5 j (Nat.zero_le _) (List.mem_range.mp j1) y' j2
where
  done {T : List Nat} {s' : ms} (hB : BQ (dpn len src ld) s' ns x0 T) (hp : ∀ z, z ∈ x0 :: T → ∀ y, y ∈ dpn len src ld z → y ≠ x0 ∧ y ∈ T) : ¬ Cy (dpn len src ld) x0 := by
    have x0T : x0 ∉ T := (List.nodup_cons.mp hB.2.2.1).1
    have st : ∀ (k : Nat) (z y : Nat), z ∈ T → Rk (dpn len src ld) k z y → y ∈ T := by
      intro k
      induction k with
      | zero => intro z y hz hr; have hr : z = y := hr; rw [← hr]; exact hz
      | succ k ih =>
        intro z y hz hr
        obtain ⟨w, w1, w2⟩ := hr
        exact ih w y (hp z (List.mem_cons_of_mem _ hz) w w1).2 w2
    rintro ⟨z, z1, k, z2⟩
    exact x0T (st k z x0 (hp x0 List.mem_cons_self z z1).2 z2)
end MDEP
