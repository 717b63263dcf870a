/-! The reference: order. -/
def Mt (N : Nat) (s : ms) (ns : Nat) (a len : Nat → Nat) (src : Nat → Option Nat) (ld : Nat → Nat → Option Nat) : Prop := s.1 63 0 = nI ns ∧ ns ≤ 1024 ∧ ∃ cl, s.1 91 0 = nI cl ∧ cl ≤ 200000 ∧ ∀ x, x < ns → (∀ y, src x = some y → s.1 66 x = 2 ∧ s.1 67 x = nI y ∧ y < ns) ∧ (src x = none → len x = 0 → s.1 66 x = 0) ∧ (src x = none → 0 < len x → s.1 66 x = 1 ∧ s.1 67 x = nI (3 * a x) ∧ s.1 68 x = nI (3 * (a x + len x)) ∧ 3 * (a x + len x) ≤ cl ∧ ∀ i, i < len x → (s.1 41 (3 * (a x + i)) = 1 ↔ ld x i ≠ none) ∧ ∀ y, ld x i = some y → y < ns ∧ ∀ S : ms, S.1 57 = s.1 57 → S.1 58 = s.1 58 → S.1 14 = s.1 14 → fn_M_signalOf N (s.1 69 x) (s.1 41 (3 * (a x + i) + 1)) S = some (nI y, S))
abbrev QE (s s' : ms) : Prop := Eb [9, 10, 70, 71, 72, 73, 74] [] s s'
def MOr (s : ms) (ns : Nat) (rd : Nat → Bool) (ord : List Nat) : Prop := (∀ x, x < ns → s.1 72 x = b01 (rd x)) ∧ s.1 71 0 = nI ord.length ∧ ∀ k o, ord[k]? = some o → s.1 70 k = nI o
def PIr (ns : Nat) (len : Nat → Nat) (src : Nat → Option Nat) (ld : Nat → Nat → Option Nat) (rd : Nat → Bool) (ord : List Nat) : Prop := (∀ x, x < ns → (rd x = true ↔ (tld len src x = false ∨ x ∈ ord))) ∧ ord.Nodup ∧ (∀ x, x ∈ ord → x < ns ∧ tld len src x = true) ∧ TO (dpn len src ld) (tld len src) ord
section MOR
variable {s s' : ms} {N ns : Nat} {a len : Nat → Nat} {src : Nat → Option Nat} {ld : Nat → Nat → Option Nat} {rd : Nat → Bool} {ord : List Nat}
theorem Mt.keep (h : Mt N s ns a len src ld) (e : QE s s') : Mt N s' ns a len src ld := by
  unfold Mt at *
  rw [e.1 63 (by decide), e.1 91 (by decide), e.1 66 (by decide), e.1 67 (by decide), e.1 68 (by decide), e.1 69 (by decide), e.1 41 (by decide), e.1 57 (by decide), e.1 58 (by decide), e.1 14 (by decide)]
  exact h
theorem b01_ne {b : Bool} : b01 b = 0 ↔ b = false := by cases b <;> decide
theorem canBe_L (h : Mt N s ns a len src ld) (hr : ∀ x, x < ns → s.1 72 x = b01 (rd x)) {x : Nat} (hx : x < ns) (h0 : src x = none) (hl : 0 < len x) : ∀ (m i F : Nat) (b : Bool), i + m = len x → m < F → hd_M_canBe_31 N F (nI x) (b01 b) (nI (3 * (a x + i))) s = some (b01 (b && okL rd (ld x) m i), s) := by
  obtain ⟨h1, h2, cl, h3, h4, h5⟩ := h
  obtain ⟨-, -, g⟩ := h5 x hx
  obtain ⟨g1, g2, g3, g4, g5⟩ := g h0 hl
  have iX := nI_in (show x < 1100 by omega) (by decide)
  intro m
  induction m with
  | zero =>
    intro i F b hi hF
    obtain ⟨F, rfl⟩ : ∃ F', F = F' + 1 := ⟨F - 1, by omega⟩
    show bd_M_canBe_31 N (hd_M_canBe_31 N F) (nI x) (b01 b) (nI (3 * (a x + i))) s = _
    unfold bd_M_canBe_31
    rw [if_neg iX, nI_clamp (by omega), g3, if_pos (nI_le (by omega) (by omega)), if_neg (by cases b <;> decide)]
    unfold okL
    rw [Bool.and_true]
  | succ m ih =>
    intro i F b hi hF
    obtain ⟨F, rfl⟩ : ∃ F', F = F' + 1 := ⟨F - 1, by omega⟩
    show bd_M_canBe_31 N (hd_M_canBe_31 N F) (nI x) (b01 b) (nI (3 * (a x + i))) s = _
    unfold bd_M_canBe_31 bk_M_canBe_81
    have ihF := fun b => ih (i + 1) F b (by omega) (by omega)
    rw [if_neg iX, nI_clamp (show x < 2 ^ 31 by omega), g3, if_neg (nI_ge (by omega) (by omega)), show nI (3 * (a x + i)) + 3 = nI (3 * (a x + (i + 1))) by rw [show (3 : Int32) = nI 3 from rfl, nI_add]; congr 1]
    cases b with
    | false =>
      rw [if_pos (show b01 false = 0 from rfl), Bool.false_and]
      have := ihF false
      rw [Bool.false_and] at this
      exact this
    | true =>
      obtain ⟨q1, q2⟩ := g5 i (by omega)
      rw [if_neg (show ¬ b01 true = 0 by decide), h3, nI_clamp (show cl < 2 ^ 31 by omega), if_neg (nI_in (show 3 * (a x + i) < cl by omega) (by omega)), nI_clamp (show 3 * (a x + i) < 2 ^ 31 by omega), Bool.true_and]
      unfold okL
      by_cases z : s.1 41 (3 * (a x + i)) = 1
      · obtain ⟨y, hy⟩ := Option.ne_none_iff_exists'.mp (q1.mp z)
        obtain ⟨y1, y2⟩ := q2 y hy
        rw [if_pos z, if_neg (nI_in2 (show x < 1100 by omega) (by decide)), nI_1, if_neg (nI_in (show 3 * (a x + i) + 1 < cl by omega) (by omega)), nI_clamp (show 3 * (a x + i) + 1 < 2 ^ 31 by omega), y2 s rfl rfl rfl, obind]
        dsimp only
        rw [if_neg (nI_in (show y < 1100 by omega) (by decide)), nI_clamp (show y < 2 ^ 31 by omega), hr y y1, hy]
        dsimp only
        by_cases w : rd y = true
        · rw [w, if_neg (show ¬ b01 true = 0 by decide), Bool.true_and]
          exact ihF true
        · have w : rd y = false := by cases q : rd y with | true => exact absurd q w | false => rfl
          rw [w, if_pos (show b01 false = 0 from rfl), Bool.false_and]
          have := ihF false
          rw [Bool.false_and] at this
          exact this
      · have ln : ld x i = none := by
          cases q : ld x i with
          | none => rfl
          | some y => exact absurd (q1.mpr (by rw [q]; exact fun w => by cases w)) z
        rw [if_neg z, ln]
        dsimp only
        rw [Bool.true_and]
        exact ihF true
theorem canBe_M (hN : 70000 < N) (h : Mt N s ns a len src ld) (hr : ∀ x, x < ns → s.1 72 x = b01 (rd x)) {x : Nat} (hx : x < ns) (ht : tld len src x = true) : fn_M_canBe N (nI x) s = some (b01 (canB rd len src ld x), s) := by
  obtain ⟨h1, h2, cl, h3, h4, h5⟩ := id h
  obtain ⟨g1, g2, g3⟩ := h5 x hx
  have iX := nI_in (show x < 1100 by omega) (by decide)
  have iX2 := nI_in2 (show x < 1100 by omega) (by decide)
  unfold fn_M_canBe canB
  rw [if_neg iX, nI_clamp (show x < 2 ^ 31 by omega)]
  cases e : src x with
  | some y =>
    obtain ⟨q1, q2, q3⟩ := g1 y e
    rw [q1, if_pos rfl, if_neg iX2, q2, if_neg (nI_in (show y < 1100 by omega) (by decide)), nI_clamp (show y < 2 ^ 31 by omega), hr y q3, if_neg (by cases rd y <;> decide)]
  | none =>
    have hl : 0 < len x := by
      unfold tld at ht
      rw [e] at ht
      exact of_decide_eq_true ht
    obtain ⟨q1, q2, q3, q4, -⟩ := g3 e hl
    rw [q1, if_neg (show ¬ (1 : Int32) = 2 by decide), if_neg iX2, q2]
    have := canBe_L h hr hx e hl (len x) 0 N true (by omega) (by omega)
    rw [Bool.true_and, Nat.add_zero] at this
    exact this
/-- once through all signals -/
theorem pass_M {k43 : Int32 → ms → Option (Unit × ms)} (hN : 70000 < N) : ∀ (m x F : Nat) (s : ms) (rd : Nat → Bool) (ord : List Nat) (fl : Bool), x + m = ns → m < F → Mt N s ns a len src ld → MOr s ns rd ord → PIr ns len src ld rd ord → ∃ s' rd' ord' fl', hd_M_putInOrder_51 N k43 F (b01 fl) (nI x) s = k43 (b01 fl') s' ∧ QE s s' ∧ s'.1 9 = s.1 9 ∧ MOr s' ns rd' ord' ∧ PIr ns len src ld rd' ord' ∧ ord.length ≤ ord'.length ∧ (fl' = false → fl = false ∧ rd' = rd ∧ ord' = ord ∧ ∀ v, x ≤ v → v < ns → rd v = false → canB rd len src ld v = false) ∧ (fl' = true → fl = true ∨ ord.length < ord'.length) := by
  intro m
  induction m with
  | zero =>
    intro x F s rd ord fl hx hF hM hO hP
    obtain ⟨F, rfl⟩ : ∃ F', F = F' + 1 := ⟨F - 1, by omega⟩
    refine ⟨s, rd, ord, fl, ?_, Eb.rfl, rfl, hO, hP, Nat.le_refl _, fun z => ⟨z, rfl, rfl, fun v h1 h2 => by omega⟩, fun z => Or.inl z⟩
    show bd_M_putInOrder_51 N k43 (hd_M_putInOrder_51 N k43 F) (b01 fl) (nI x) s = _
    unfold bd_M_putInOrder_51
    rw [hM.1, if_pos (nI_le (by omega) (by have := hM.2.1; omega))]
  | succ m ih =>
    intro x F s rd ord fl hx hF hM hO hP
    obtain ⟨F, rfl⟩ : ∃ F', F = F' + 1 := ⟨F - 1, by omega⟩
    have ns1 := hM.2.1
    obtain ⟨o1, o2, o3⟩ := id hO
    obtain ⟨p1, p2, p3, p4⟩ := id hP
    have body : hd_M_putInOrder_51 N k43 (F + 1) (b01 fl) (nI x) s = bd_M_putInOrder_51 N k43 (hd_M_putInOrder_51 N k43 F) (b01 fl) (nI x) s := rfl
    unfold bd_M_putInOrder_51 at body
    rw [hM.1, if_neg (nI_ge (by omega) (by omega)), if_neg (nI_in (show x < 1100 by omega) (by decide)), nI_clamp (show x < 2 ^ 31 by omega), o1 x (by omega), nI_1] at body
    by_cases w : rd x = true
    · rw [w, if_neg (show ¬ b01 true = 0 by decide)] at body
      obtain ⟨s', rd', ord', fl', y1, y2, y3, y4, y5, y6, y7, y8⟩ := ih (x + 1) F s rd ord fl (by omega) (by omega) hM hO hP
      refine ⟨s', rd', ord', fl', by rw [body]; exact y1, y2, y3, y4, y5, y6, fun z => ?_, y8⟩
      obtain ⟨z1, z2, z3, z4⟩ := y7 z
      exact ⟨z1, z2, z3, fun v h1 h2 h3 => z4 v (by
        by_cases q : v = x
        · rw [q, w] at h3; cases h3
        · omega) h2 h3⟩
    · have w : rd x = false := by cases q : rd x with | true => exact absurd q w | false => rfl
      have tx : tld len src x = true := by
        cases q : tld len src x with
        | true => rfl
        | false => exact absurd ((p1 x (by omega)).mpr (Or.inl q)) (by rw [w]; decide)
      rw [w, if_pos (show b01 false = 0 from rfl), canBe_M hN hM o1 (show x < ns by omega) tx, obind] at body
      dsimp only at body
      by_cases u : canB rd len src ld x = true
      · -- it is put into the order
        have nx : x ∉ ord := fun q => by rw [(p1 x (by omega)).mpr (Or.inr q)] at w; cases w
        have ol : ord.length < ns := by
          have := nodup_len (n := ns) (l := x :: ord) (List.nodup_cons.mpr ⟨nx, p2⟩) (fun y hy => by
            rcases List.mem_cons.mp hy with rfl | hy
            · omega
            · exact (p3 y hy).1)
          exact this
        rw [u, if_neg (show ¬ b01 true = 0 by decide), if_neg (nI_in2 (show x < 1100 by omega) (by decide)), o2, if_neg (nI_in (show ord.length < 1100 by omega) (by decide)), nI_clamp (show ord.length < 2 ^ 31 by omega), nI_1] at body
        have e1 : QE s (upI (upI (upI s 72 (upd (s.1 72) x (vp_nar .boolean 1))) 70 (upd (s.1 70) ord.length (nI x))) 71 (fun _ => nI (ord.length + 1))) := ((Eb.rfl.upI (by decide)).upI (by decide)).upI (by decide)
        have O1 : MOr (upI (upI (upI s 72 (upd (s.1 72) x (vp_nar .boolean 1))) 70 (upd (s.1 70) ord.length (nI x))) 71 (fun _ => nI (ord.length + 1))) ns (fun v => if v = x then true else rd v) (ord ++ [x]) := by
          refine ⟨fun v hv => ?_, ?_, fun k o hk => ?_⟩
          · show upd (s.1 72) x (vp_nar .boolean 1) v = _
            by_cases q : v = x
            · subst q; rw [upd_at]; dsimp only; rw [if_pos rfl]; rfl
            · rw [upd_ne q]; dsimp only; rw [if_neg q]; exact o1 v hv
          · rw [List.length_append]; rfl
          · show upd (s.1 70) ord.length (nI x) k = _
            by_cases q : k < ord.length
            · rw [upd_ne (by omega)]
              rw [List.getElem?_append_left q] at hk
              exact o3 k o hk
            · rw [List.getElem?_append_right (by omega)] at hk
              have : k = ord.length := by
                have := (List.getElem?_eq_some_iff.mp hk).1
                have : k - ord.length < 1 := this
                omega
              subst this
              rw [Nat.sub_self] at hk
              have hk : some x = some o := hk
              cases hk
              rw [upd_at]
        have P1 : PIr ns len src ld (fun v => if v = x then true else rd v) (ord ++ [x]) := by
          refine ⟨fun v hv => ?_, ?_, fun v hv => ?_, ?_⟩
          · dsimp only
            by_cases q : v = x
            · rw [if_pos q]
              exact ⟨fun _ => Or.inr (by rw [q]; exact List.mem_append_right _ List.mem_cons_self), fun _ => rfl⟩
            · rw [if_neg q, p1 v hv, List.mem_append, List.mem_singleton]
              exact ⟨fun z => z.imp_right Or.inl, fun z => z.imp_right (fun z => z.resolve_right q)⟩
          · exact List.nodup_append.mpr ⟨p2, List.pairwise_singleton _ _, fun b hb d hd q => nx (by rw [← List.mem_singleton.mp hd, ← q]; exact hb)⟩
          · rcases List.mem_append.mp hv with q | q
            · exact p3 v q
            · rw [List.mem_singleton.mp q]; exact ⟨by omega, tx⟩
          · intro b v d e y hy ty
            rcases List.eq_nil_or_concat d with rfl | ⟨d', z, rfl⟩
            · obtain ⟨e3, e4⟩ := List.append_inj' (show ord ++ [x] = b ++ [v] from e) rfl
              have e4 : x = v := by simpa using e4
              subst e4
              rw [← e3]
              by_cases yn : y < ns
              · exact ((p1 y yn).mp (canB_iff.mp u y hy)).resolve_left (by rw [ty]; decide)
              · exfalso
                -- what is needed stands
                obtain ⟨-, -, cl, -, -, h5⟩ := hM
                obtain ⟨g1, g2, g3⟩ := h5 x (by omega)
                unfold dpn at hy
                cases es : src x with
                | some y' =>
                  rw [es] at hy
                  have : y = y' := List.mem_singleton.mp hy
                  rw [this] at yn
                  exact yn (g1 y' es).2.2
                | none =>
                  rw [es] at hy
                  dsimp only at hy
                  unfold lsr at hy
                  obtain ⟨j, j1, j2⟩ := List.mem_filterMap.mp hy
                  have j1 := List.mem_range.mp j1
                  exact yn (((g3 es (by omega)).2.2.2.2 j j1).2 y j2).1
            · have e2 : ord ++ [x] = (b ++ v :: d') ++ [z] := by
                rw [List.append_assoc, List.cons_append]
                rw [List.concat_eq_append] at e
                exact e
              obtain ⟨e3, e4⟩ := List.append_inj' e2 rfl
              exact p4 b v d' e3 y hy ty
        obtain ⟨s', rd', ord', fl', y1, y2, y3, y4, y5, y6, y7, y8⟩ := ih (x + 1) F _ _ _ true (by omega) (by omega) (hM.keep e1) O1 P1
        have l1 : (ord ++ [x]).length = ord.length + 1 := by rw [List.length_append]; rfl
        refine ⟨s', rd', ord', fl', by rw [body]; exact y1, e1.trans y2, by rw [y3]; rfl, y4, y5, by omega, fun z => absurd (y7 z).1 (by decide), fun _ => Or.inr (by omega)⟩
      · have u : canB rd len src ld x = false := by cases q : canB rd len src ld x with | true => exact absurd q u | false => rfl
        rw [u, if_pos (show b01 false = 0 from rfl)] at body
        obtain ⟨s', rd', ord', fl', y1, y2, y3, y4, y5, y6, y7, y8⟩ := ih (x + 1) F s rd ord fl (by omega) (by omega) hM hO hP
        refine ⟨s', rd', ord', fl', by rw [body]; exact y1, y2, y3, y4, y5, y6, fun z => ?_, y8⟩
        obtain ⟨z1, z2, z3, z4⟩ := y7 z
        exact ⟨z1, z2, z3, fun v h1 h2 h3 => by
          by_cases q : v = x
          · rw [q]; exact u
          · exact z4 v (by omega) h2 h3⟩
theorem passes_M (hN : 70000 < N) : ∀ (B F : Nat) (s : ms) (rd : Nat → Bool) (ord : List Nat), ns - ord.length ≤ B → B + 1 < F → Mt N s ns a len src ld → MOr s ns rd ord → PIr ns len src ld rd ord → ∃ s' rd' ord', hd_M_putInOrder_43 N F 1 s = hd_M_putInOrder_116 N N 0 s' ∧ QE s s' ∧ s'.1 9 = s.1 9 ∧ MOr s' ns rd' ord' ∧ PIr ns len src ld rd' ord' ∧ ∀ v, v < ns → rd' v = false → canB rd' len src ld v = false := by
  intro B
  induction B with
  | zero =>
    intro F s rd ord hB hF hM hO hP
    obtain ⟨F, rfl⟩ : ∃ F', F = F' + 1 + 1 := ⟨F - 2, by omega⟩
    have ns1 := hM.2.1
    obtain ⟨s', rd', ord', fl', y1, y2, y3, y4, y5, y6, y7, y8⟩ := pass_M (N := N) (k43 := hd_M_putInOrder_43 N (F + 1)) hN ns 0 N s rd ord false (by omega) (by omega) hM hO hP
    have fb : fl' = false := by
      cases q : fl' with
      | false => rfl
      | true =>
        rcases y8 q with z | z
        · cases z
        · have := nodup_len (n := ns) y5.2.1 (fun v hv => (y5.2.2.1 v hv).1)
          omega
    obtain ⟨z1, z2, z3, z4⟩ := y7 fb
    refine ⟨s', rd', ord', ?_, y2, y3, y4, y5, fun v hv hr => by rw [z2] at hr ⊢; exact z4 v (Nat.zero_le _) hv hr⟩
    show bd_M_putInOrder_43 N (hd_M_putInOrder_43 N (F + 1)) 1 s = _
    unfold bd_M_putInOrder_43
    rw [if_neg (show ¬ (1 : Int32) = 0 by decide)]
    refine (show hd_M_putInOrder_51 N (hd_M_putInOrder_43 N (F + 1)) N 0 0 s = _ from y1).trans ?_
    rw [fb]
    show bd_M_putInOrder_43 N (hd_M_putInOrder_43 N F) (b01 false) s' = _
    unfold bd_M_putInOrder_43
    rw [if_pos (show b01 false = 0 from rfl)]
  | succ B ih =>
    intro F s rd ord hB hF hM hO hP
    obtain ⟨F, rfl⟩ : ∃ F', F = F' + 1 + 1 := ⟨F - 2, by omega⟩
    have ns1 := hM.2.1
    obtain ⟨s', rd', ord', fl', y1, y2, y3, y4, y5, y6, y7, y8⟩ := pass_M (N := N) (k43 := hd_M_putInOrder_43 N (F + 1)) hN ns 0 N s rd ord false (by omega) (by omega) hM hO hP
    have st : hd_M_putInOrder_43 N (F + 1 + 1) 1 s = hd_M_putInOrder_43 N (F + 1) (b01 fl') s' := by
      show bd_M_putInOrder_43 N (hd_M_putInOrder_43 N (F + 1)) 1 s = _
      unfold bd_M_putInOrder_43
      rw [if_neg (show ¬ (1 : Int32) = 0 by decide)]
      exact y1
    cases q : fl' with
    | false =>
      obtain ⟨z1, z2, z3, z4⟩ := y7 q
      refine ⟨s', rd', ord', ?_, y2, y3, y4, y5, fun v hv hr => by rw [z2] at hr ⊢; exact z4 v (Nat.zero_le _) hv hr⟩
      rw [st, q]
      show bd_M_putInOrder_43 N (hd_M_putInOrder_43 N F) (b01 false) s' = _
      unfold bd_M_putInOrder_43
      rw [if_pos (show b01 false = 0 from rfl)]
    | true =>
      have l := (y8 q).resolve_left (by decide)
      obtain ⟨s2, rd2, ord2, z1, z2, z3, z4, z5, z6⟩ := ih (F + 1) s' rd' ord' (by omega) (by omega) (hM.keep y2) y4 y5
      exact ⟨s2, rd2, ord2, by rw [st, q]; exact z1, y2.trans z2, by rw [z3, y3], z4, z5, z6⟩
end MOR
