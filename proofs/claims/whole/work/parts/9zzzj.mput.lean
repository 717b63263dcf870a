/-! The reference: order, whole. -/
section MPUT
variable {s s' : ms} {N ns x0 : Nat} {a len : Nat → Nat} {src : Nat → Option Nat} {ld : Nat → Nat → Option Nat} {rd : Nat → Bool} {ord : List Nat} {plc : Nat → Nat}
theorem dep0_L (h63 : s.1 63 0 = nI ns) (hns : ns ≤ 1024) {x : Nat} : ∀ (m k F : Nat) (s : ms), s.1 63 0 = nI ns → k + m = ns → m < F → (∀ y, y < k → s.1 73 y = 0) → ∃ s', hd_M_dependsOnItself_2 N F (nI x) (nI k) s = hd_M_dependsOnItself_34 N N (nI x) (nI (0 + 1)) (nI 0) (upI s' 74 (upd (s'.1 74) 0 (nI x))) ∧ Eb [73] [] s s' ∧ ∀ y, y < ns → s'.1 73 y = 0 := by
  intro m
  induction m with
  | zero =>
    intro k F s h hk hF hv
    obtain ⟨F, rfl⟩ : ∃ F', F = F' + 1 := ⟨F - 1, by omega⟩
    refine ⟨s, ?_, Eb.rfl, fun y hy => hv y (by omega)⟩
    show bd_M_dependsOnItself_2 N (hd_M_dependsOnItself_2 N F) (nI x) (nI k) s = _
    unfold bd_M_dependsOnItself_2
    rw [h, if_pos (nI_le (by omega) (by omega))]
    rfl
  | succ m ih =>
    intro k F s h hk hF hv
    obtain ⟨F, rfl⟩ : ∃ F', F = F' + 1 := ⟨F - 1, by omega⟩
    obtain ⟨s', y1, y2, y3⟩ := ih (k + 1) F (upI s 73 (upd (s.1 73) k (vp_nar .boolean 0))) h (by omega) (by omega) (fun y hy => by
      show upd (s.1 73) k (vp_nar .boolean 0) y = 0
      by_cases z : y = k
      · subst z; rw [upd_at]; rfl
      · rw [upd_ne z]; exact hv y (by omega))
    refine ⟨s', ?_, (Eb.rfl.upI (by decide)).trans y2, y3⟩
    show bd_M_dependsOnItself_2 N (hd_M_dependsOnItself_2 N F) (nI x) (nI k) s = _
    unfold bd_M_dependsOnItself_2
    rw [h, if_neg (nI_ge (by omega) (by omega)), if_neg (nI_in (show k < 1100 by omega) (by decide)), nI_clamp (by omega), nI_1]
    exact y1
theorem depends_M (hN : 70000 < N) (hM : Mt N s ns a len src ld) (hx : x0 < ns) : ∃ r s2, fn_M_dependsOnItself N (nI x0) s = some (r, s2) ∧ QD s s2 ∧ ((r = 1 ∧ Cy (dpn len src ld) x0) ∨ (r = 0 ∧ ¬ Cy (dpn len src ld) x0)) := by
  obtain ⟨h1, h2, -⟩ := id hM
  obtain ⟨s1, y1, y2, y3⟩ := dep0_L (N := N) (ns := ns) (s := s) (x := x0) h1 h2 ns 0 N s h1 (by omega) (by omega) (fun y hy => by omega)
  have e1 : QD s (upI s1 74 (upd (s1.1 74) 0 (nI x0))) := (y2.mono (by decide) (by decide)).upI (by decide)
  have B0 : BQ (dpn len src ld) (upI s1 74 (upd (s1.1 74) 0 (nI x0))) ns x0 [] := by
    refine ⟨fun y hy => ?_, fun k o hk => ?_, List.pairwise_singleton _ _, fun y hy => ?_⟩
    · rw [show (upI s1 74 (upd (s1.1 74) 0 (nI x0))).1 73 y = s1.1 73 y from rfl, y3 y hy]
      rfl
    · have k0 : k = 0 := by
        have := (List.getElem?_eq_some_iff.mp hk).1
        have : k < 1 := this
        omega
      subst k0
      have hk : some x0 = some o := hk
      cases hk
      show upd (s1.1 74) 0 (nI x0) 0 = _
      rw [upd_at]
    · rw [List.mem_singleton.mp hy]
      exact ⟨hx, Rch.refl⟩
  obtain ⟨r, s2, z1, z2, z3⟩ := que_M (N := N) hN hM ns 0 N (upI s1 74 (upd (s1.1 74) 0 (nI x0))) [] (by omega) (by omega) e1 B0 (by omega) (fun i z hi => by omega)
  refine ⟨r, s2, ?_, e1.trans z2, z3⟩
  unfold fn_M_dependsOnItself
  exact y1.trans z1
/-- where signals are told -/
def Pls (s : ms) (ns : Nat) (plc : Nat → Nat) : Prop := ∀ x, x < ns → ∃ d k, s.1 64 x = nI d ∧ d < 11000 ∧ s.1 19 d = nI k ∧ k < 65540 ∧ s.1 5 k = nI (plc x)
theorem first_M (hN : 70000 < N) (hr : ∀ x, x < ns → rd x = true → ¬ Cy (dpn len src ld) x) : ∀ (m x F : Nat) (s : ms), x + m = ns → m < F → Mt N s ns a len src ld → Pls s ns plc → (∀ v, v < ns → s.1 72 v = b01 (rd v)) → s.1 9 0 = nI 0 → (∀ v, v < x → ¬ Cy (dpn len src ld) v) → ∃ s', hd_M_putInOrder_116 N F (nI x) s = some ((), s') ∧ Eb [9, 10, 73, 74] [] s s' ∧ (((∀ v, v < ns → ¬ Cy (dpn len src ld) v) ∧ s'.1 9 0 = nI 0) ∨ ∃ lp, lp < ns ∧ Cy (dpn len src ld) lp ∧ (∀ v, v < ns → Cy (dpn len src ld) v → lp ≤ v) ∧ s'.1 9 0 = nI 45 ∧ s'.1 10 0 = nI (plc lp)) := by
  intro m
  induction m with
  | zero =>
    intro x F s hx hF hM hP h72 h9 hc
    obtain ⟨F, rfl⟩ : ∃ F', F = F' + 1 := ⟨F - 1, by omega⟩
    refine ⟨s, ?_, Eb.rfl, Or.inl ⟨fun v hv => hc v (by omega), h9⟩⟩
    show bd_M_putInOrder_116 N (hd_M_putInOrder_116 N F) (nI x) s = _
    unfold bd_M_putInOrder_116
    rw [hM.1, if_pos (nI_le (by omega) (by have := hM.2.1; omega))]
  | succ m ih =>
    intro x F s hx hF hM hP h72 h9 hc
    obtain ⟨F, rfl⟩ : ∃ F', F = F' + 1 := ⟨F - 1, by omega⟩
    have ns1 := hM.2.1
    have body : hd_M_putInOrder_116 N (F + 1) (nI x) s = bd_M_putInOrder_116 N (hd_M_putInOrder_116 N F) (nI x) s := rfl
    unfold bd_M_putInOrder_116 at body
    rw [hM.1, if_neg (nI_ge (by omega) (by omega)), h9, if_pos (show nI 0 = 0 from rfl), if_neg (nI_in (show x < 1100 by omega) (by decide)), nI_clamp (show x < 2 ^ 31 by omega), h72 x (by omega), nI_1] at body
    by_cases w : rd x = true
    · rw [w, if_neg (show ¬ b01 true = 0 by decide)] at body
      obtain ⟨s', y1, y2, y3⟩ := ih (x + 1) F s (by omega) (by omega) hM hP h72 h9 (fun v hv => by
        by_cases q : v = x
        · rw [q]; exact hr x (by omega) w
        · exact hc v (by omega))
      exact ⟨s', by rw [body]; exact y1, y2, y3⟩
    · have w : rd x = false := by cases q : rd x with | true => exact absurd q w | false => rfl
      obtain ⟨r, s2, z1, z2, z3⟩ := depends_M (N := N) (x0 := x) hN hM (by omega)
      rw [w, if_pos (show b01 false = 0 from rfl), z1, obind] at body
      dsimp only at body
      have z2' : QE s s2 := z2.mono (by decide) (by decide)
      rcases z3 with ⟨rfl, cy⟩ | ⟨rfl, ncy⟩
      · obtain ⟨d, k, p1, p2, p3, p4, p5⟩ := hP x (by omega)
        rw [if_neg (show ¬ (1 : Int32) = 0 by decide), if_neg (nI_in2 (show x < 1100 by omega) (by decide)), z2.1 64 (by decide), p1, if_neg (nI_in (show d < 11000 by omega) (by decide)), nI_clamp (show d < 2 ^ 31 by omega), z2.1 19 (by decide), p3, if_neg (nI_in (show k < 65540 by omega) (by decide)), nI_clamp (show k < 2 ^ 31 by omega), z2.1 5 (by decide), p5] at body
        have f9 : s2.1 9 0 = 0 := by rw [z2.1 9 (by decide)]; exact h9
        have ff : fn_M_fail N 45 (nI (plc x)) s2 = some ((), upI (upI s2 9 (fun _ => 45)) 10 (fun _ => nI (plc x))) := by
          unfold fn_M_fail
          rw [if_pos f9]
        rw [ff, obind] at body
        dsimp only at body
        have e2 : Eb [9, 10, 73, 74] [] s (upI (upI s2 9 (fun _ => 45)) 10 (fun _ => nI (plc x))) := ((z2.mono (by decide) (by decide) : Eb [9, 10, 73, 74] [] s s2).upI (by decide)).upI (by decide)
        refine ⟨upI (upI s2 9 (fun _ => 45)) 10 (fun _ => nI (plc x)), ?_, e2, Or.inr ⟨x, by omega, cy, fun v hv hv2 => ?_, rfl, rfl⟩⟩
        · rw [body]
          obtain ⟨F, rfl⟩ : ∃ F', F = F' + 1 := ⟨F - 1, by omega⟩
          show bd_M_putInOrder_116 N (hd_M_putInOrder_116 N F) _ _ = _
          unfold bd_M_putInOrder_116
          rw [show (upI (upI s2 9 (fun _ => 45)) 10 (fun _ => nI (plc x))).1 63 0 = nI ns from by rw [e2.1 63 (by decide)]; exact hM.1]
          by_cases q : ns ≤ x + 1
          · rw [if_pos (nI_le q (by omega))]
          · rw [if_neg (nI_ge (by omega) (by omega)), if_neg (show ¬ (upI (upI s2 9 (fun _ => 45)) 10 (fun _ => nI (plc x))).1 9 0 = 0 from (by decide : ¬ (45 : Int32) = 0))]
        · by_cases q : v < x
          · exact absurd hv2 (hc v q)
          · omega
      · rw [if_pos rfl] at body
        obtain ⟨s', y1, y2, y3⟩ := ih (x + 1) F s2 (by omega) (by omega) (hM.keep z2') (by
          intro v hv
          rw [z2.1 64 (by decide), z2.1 19 (by decide), z2.1 5 (by decide)]
          exact hP v hv) (by rw [z2.1 72 (by decide)]; exact h72) (by rw [z2.1 9 (by decide)]; exact h9) (fun v hv => by
          by_cases q : v = x
          · rw [q]; exact ncy
          · exact hc v (by omega))
        exact ⟨s', by rw [body]; exact y1, (z2.mono (by decide) (by decide)).trans y2, y3⟩
theorem rdy_L (hM : Mt N s ns a len src ld) : ∀ (m x F : Nat) (s' : ms), QE s s' → x + m = ns → m < F → (∀ v, v < x → s'.1 72 v = b01 (!tld len src v)) → ∃ s2, hd_M_putInOrder_7 N F (nI x) s' = hd_M_putInOrder_43 N N 1 s2 ∧ Eb [72] [] s' s2 ∧ ∀ v, v < ns → s2.1 72 v = b01 (!tld len src v) := by
  obtain ⟨h1, h2, cl, h3, h4, h5⟩ := id hM
  intro m
  induction m with
  | zero =>
    intro x F s' e hx hF hv
    obtain ⟨F, rfl⟩ : ∃ F', F = F' + 1 := ⟨F - 1, by omega⟩
    refine ⟨s', ?_, Eb.rfl, fun v hv' => hv v (by omega)⟩
    show bd_M_putInOrder_7 N (hd_M_putInOrder_7 N F) (nI x) s' = _
    unfold bd_M_putInOrder_7
    rw [e.1 63 (by decide), h1, if_pos (nI_le (by omega) (by omega))]
  | succ m ih =>
    intro x F s' e hx hF hv
    obtain ⟨F, rfl⟩ : ∃ F', F = F' + 1 := ⟨F - 1, by omega⟩
    obtain ⟨g1, g2, g3⟩ := h5 x (by omega)
    have iX := nI_in (show x < 1100 by omega) (by decide)
    have iX2 := nI_in2 (show x < 1100 by omega) (by decide)
    have go : ∀ b : Bool, b = (!tld len src x) → ∃ s2, hd_M_putInOrder_7 N F (nI (x + 1)) (upI s' 72 (upd (s'.1 72) x (vp_nar .boolean (b01 b)))) = hd_M_putInOrder_43 N N 1 s2 ∧ Eb [72] [] s' s2 ∧ ∀ v, v < ns → s2.1 72 v = b01 (!tld len src v) := fun b hb => by
      obtain ⟨s2, y1, y2, y3⟩ := ih (x + 1) F (upI s' 72 (upd (s'.1 72) x (vp_nar .boolean (b01 b)))) (e.upI (by decide)) (by omega) (by omega) (fun v hv' => by
        show upd (s'.1 72) x (vp_nar .boolean (b01 b)) v = _
        by_cases q : v = x
        · subst q
          rw [upd_at, ← hb]
          cases b <;> rfl
        · rw [upd_ne q]; exact hv v (by omega))
      exact ⟨s2, y1, (Eb.rfl.upI (by decide)).trans y2, y3⟩
    have body : hd_M_putInOrder_7 N (F + 1) (nI x) s' = bd_M_putInOrder_7 N (hd_M_putInOrder_7 N F) (nI x) s' := rfl
    unfold bd_M_putInOrder_7 bk_M_putInOrder_34 at body
    rw [e.1 63 (by decide), h1, if_neg (nI_ge (by omega) (by omega)), if_neg iX, nI_clamp (show x < 2 ^ 31 by omega), e.1 66 (by decide), if_neg iX2, if_neg iX2, nI_1] at body
    rw [body]
    cases es : src x with
    | some y =>
      rw [(g1 y es).1, if_neg (show ¬ (2 : Int32) = 0 by decide)]
      exact go false (by unfold tld; rw [es]; rfl)
    | none =>
      by_cases l0 : len x = 0
      · rw [g2 es l0, if_pos rfl]
        exact go true (by unfold tld; rw [es, l0]; rfl)
      · rw [(g3 es (by omega)).1, if_neg (show ¬ (1 : Int32) = 0 by decide)]
        exact go false (by unfold tld; rw [es, decide_eq_true (show 0 < len x by omega)]; rfl)
/-- the reference's order -/
theorem putInOrder_M (hN : 70000 < N) (hM : Mt N s ns a len src ld) (hP : Pls s ns plc) (h9 : s.1 9 0 = nI 0) : ∃ s', fn_M_putInOrder N s = some ((), s') ∧ QE s s' ∧ (((∀ v, v < ns → ¬ Cy (dpn len src ld) v) ∧ s'.1 9 0 = nI 0 ∧ ∃ ord : List Nat, s'.1 71 0 = nI ord.length ∧ (∀ k o, ord[k]? = some o → s'.1 70 k = nI o) ∧ ord.Nodup ∧ (∀ v, v ∈ ord ↔ v < ns ∧ tld len src v = true) ∧ TO (dpn len src ld) (tld len src) ord) ∨ ∃ lp, lp < ns ∧ Cy (dpn len src ld) lp ∧ (∀ v, v < ns → Cy (dpn len src ld) v → lp ≤ v) ∧ s'.1 9 0 = nI 45 ∧ s'.1 10 0 = nI (plc lp)) := by
  have ns1 := hM.2.1
  have e0 : QE s (upI s 71 (fun _ => 0)) := Eb.rfl.upI (by decide)
  obtain ⟨s1, y1, y2, y3⟩ := rdy_L (N := N) hM ns 0 N (upI s 71 (fun _ => 0)) e0 (by omega) (by omega) (fun v hv => by omega)
  have e1 : QE s s1 := e0.trans (y2.mono (by decide) (by decide))
  have O1 : MOr s1 ns (fun v => !tld len src v) [] := ⟨y3, by rw [y2.1 71 (by decide)]; rfl, fun k o hk => by cases hk⟩
  have P1 : PIr ns len src ld (fun v => !tld len src v) [] := by
    refine ⟨fun x hx => ?_, List.Pairwise.nil, fun x hx => absurd hx List.not_mem_nil, fun b v d e => ?_⟩
    · dsimp only
      rw [Bool.not_eq_true']
      exact ⟨Or.inl, fun q => q.resolve_right List.not_mem_nil⟩
    · have := congrArg List.length e
      rw [List.length_append] at this
      have : 0 = b.length + (d.length + 1) := this
      omega
  obtain ⟨s2, rd, ord, z1, z2, z3, z4, z5, z6⟩ := passes_M (N := N) hN ns N s1 _ [] (by show ns - 0 ≤ ns; omega) (by omega) (hM.keep e1) O1 P1
  have e2 : QE s s2 := e1.trans z2
  obtain ⟨p1, p2, p3, p4⟩ := z5
  have hu : ∀ y, tld len src y = false → dpn len src ld y = [] := fun y hy => by
    unfold tld at hy
    rw [Bool.or_eq_false_iff] at hy
    unfold dpn
    cases es : src y with
    | some z => rw [es] at hy; cases hy.1
    | none =>
      have : len y = 0 := by have := of_decide_eq_false hy.2; omega
      dsimp only
      rw [this]
      rfl
  have hr : ∀ x, x < ns → rd x = true → ¬ Cy (dpn len src ld) x := fun x hx hx2 => by
    rcases (p1 x hx).mp hx2 with q | q
    · rintro ⟨z, w1, -⟩
      rw [hu x q] at w1
      exact absurd w1 List.not_mem_nil
    · exact p4.acyc p2 hu (fun v hv => (p3 v hv).2) q
  obtain ⟨s3, w1, w2, w3⟩ := first_M (N := N) (plc := plc) hN hr ns 0 N s2 (by omega) (by omega) (hM.keep e2) (by
    intro v hv
    rw [e2.1 64 (by decide), e2.1 19 (by decide), e2.1 5 (by decide)]
    exact hP v hv) z4.1 (by rw [z3, y2.1 9 (by decide)]; exact h9) (fun v hv => by omega)
  refine ⟨s3, ?_, e2.trans (w2.mono (by decide) (by decide)), ?_⟩
  · unfold fn_M_putInOrder
    exact (show hd_M_putInOrder_7 N N 0 (upI s 71 (fun _ => 0)) = _ from y1).trans (z1.trans w1)
  · rcases w3 with ⟨q1, q2⟩ | q
    · left
      -- all are ready
      have all : ∀ v, v < ns → rd v = true := fun v hv => by
        cases q : rd v with
        | true => rfl
        | false =>
          exfalso
          have := cyc_of (dp := dpn len src ld) (ns := ns) (U := fun x => x < ns ∧ rd x = false) (fun x hx => by
            refine ⟨hx.1, ?_⟩
            have c := z6 x hx.1 hx.2
            have tx : tld len src x = true := by
              cases w : tld len src x with
              | true => rfl
              | false => have := (p1 x hx.1).mpr (Or.inl w); rw [hx.2] at this; cases this
            have : ¬ ∀ y, y ∈ dpn len src ld x → rd y = true := fun w => by rw [canB_iff.mpr w] at c; cases c
            obtain ⟨y, hy⟩ := Classical.not_forall.mp this
            have yd : y ∈ dpn len src ld x := Classical.byContradiction (fun w => hy (fun u => absurd u w))
            have yr : rd y = false := by
              cases w : rd y with
              | false => rfl
              | true => exact absurd (fun _ => w) hy
            refine ⟨y, yd, ?_, yr⟩
            obtain ⟨-, -, cl, -, -, h5⟩ := hM
            obtain ⟨g1, g2, g3⟩ := h5 x hx.1
            unfold dpn at yd
            cases es : src x with
            | some y' =>
              rw [es] at yd
              rw [List.mem_singleton.mp yd]
              exact (g1 y' es).2.2
            | none =>
              rw [es] at yd
              obtain ⟨j, j1, j2⟩ := List.mem_filterMap.mp yd
              have j1 := List.mem_range.mp j1
              exact (((g3 es (by omega)).2.2.2.2 j j1).2 y j2).1) (x := v) ⟨hv, q⟩
          obtain ⟨y, ⟨u1, u2⟩, u3⟩ := this
          exact q1 y u1 u3
      refine ⟨q1, q2, ord, by rw [w2.1 71 (by decide)]; exact z4.2.1, by rw [w2.1 70 (by decide)]; exact z4.2.2, p2, fun v => ⟨fun h => p3 v h, fun h => ?_⟩, p4⟩
      exact ((p1 v h.1).mp (all v h.1)).resolve_left (by rw [h.2]; decide)
    · exact Or.inr q
end MPUT
