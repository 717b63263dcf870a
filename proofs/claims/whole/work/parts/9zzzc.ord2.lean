/-! The class: order: its moves. -/
def Sk (row : Nat → Int32) : List Nat → Prop
  | [] => True
  | a :: l => row l.length = nI a ∧ Sk row l
theorem Sk.up {row : Nat → Int32} {k : Nat} {x : Int32} : ∀ {l : List Nat}, Sk row l → l.length ≤ k → Sk (upd row k x) l
  | [], _, _ => trivial
  | a :: l, h, hk => by
    have hk : l.length + 1 ≤ k := hk
    exact ⟨by rw [upd_ne (by omega)]; exact h.1, Sk.up h.2 (by omega)⟩
theorem sumF_lt {f g : Nat → Nat} {p : Nat} : ∀ {n a : Nat}, (∀ d, a ≤ d → d < a + n → g d ≤ f d) → a ≤ p → p < a + n → g p < f p → sumF g n a < sumF f n a
  | 0, a, _, h1, h2, _ => by omega
  | n + 1, a, h, h1, h2, h3 => by
    unfold sumF
    have h0 := h a (Nat.le_refl _) (by omega)
    by_cases z : p = a
    · subst z
      have : sumF g n (p + 1) ≤ sumF f n (p + 1) := sumF_mono (fun d d1 d2 => h d (by omega) (by omega))
      omega
    · have := sumF_lt (n := n) (a := a + 1) (fun d d1 d2 => h d (by omega) (by omega)) (by omega) (by omega) h3
      omega
where
  sumF_mono {f g : Nat → Nat} : ∀ {n a : Nat}, (∀ d, a ≤ d → d < a + n → g d ≤ f d) → sumF g n a ≤ sumF f n a
  | 0, a, _ => Nat.le_refl _
  | n + 1, a, h => by
    unfold sumF
    have h0 := h a (Nat.le_refl _) (by omega)
    have := sumF_mono (n := n) (a := a + 1) (fun d d1 d2 => h d (by omega) (by omega))
    omega
def cnt (num : Nat → Nat) (ns : Nat) : Nat := sumF (fun v => if num v = 0 then 0 else 1) ns 0
theorem cnt_add {num : Nat → Nat} {ns y x : Nat} (hy : y < ns) (h0 : num y = 0) (hx : x ≠ 0) : cnt (updN num y x) ns = cnt num ns + 1 ∧ cnt num ns < ns := by
  have e : cnt (updN num y x) ns = cnt num ns + 1 := by
    unfold cnt
    refine sumF_at (p := y) (Nat.zero_le _) (by omega) ?_ (fun d hd => ?_)
    · unfold updN
      rw [if_pos h0, if_pos rfl, if_neg hx]
    · unfold updN
      rw [if_neg hd]
  refine ⟨e, ?_⟩
  have := sumF_le (f := fun v => if updN num y x v = 0 then 0 else 1) (b := 1) (n := ns) (a := 0) (fun d _ _ => by split <;> omega)
  unfold cnt at e ⊢
  omega
def tld (len : Nat → Nat) (src : Nat → Option Nat) (x : Nat) : Bool := (src x).isSome || decide (0 < len x)
def OC (c : ms) (ns : Nat) (a len : Nat → Nat) (src : Nat → Option Nat) (num low : Nat → Nat) (P O : List Nat) (cu : Nat → Nat) (seen lp : Nat) (ord : List Nat) : Prop :=
  (c.1 282 0 = nI P.length ∧ Sk (c.1 280) P) ∧ (c.1 283 0 = nI O.length ∧ Sk (c.1 281) O) ∧ (∀ v, v < ns → c.1 277 v = nI (num v)) ∧ (∀ v, v ∈ O → c.1 278 v = nI (low v)) ∧ (∀ v, v ∈ O → Cu c a len src cu v) ∧ c.1 284 0 = nI seen ∧ c.1 285 0 = nI lp ∧ lp ≤ CL ∧ c.1 304 0 = nI ord.length ∧ (∀ k o, ord[k]? = some o → c.1 303 k = nI o) ∧ cnt num ns = seen
section ORD2
variable {c c' : ms} {N ns sz : Nat} {a len : Nat → Nat} {src : Nat → Option Nat} {ld : Nat → Nat → Option Nat} {num low : Nat → Nat} {P O : List Nat} {cu : Nat → Nat} {seen lp : Nat} {ord : List Nat}
theorem TI.lens {dp : Nat → List Nat} {pd : Nat → Nat → Prop} (h : TI dp ns num low P O pd seen) : O.Nodup ∧ P.Nodup ∧ O.length ≤ ns ∧ P.length ≤ ns := by
  obtain ⟨⟨-, a2, -⟩, ⟨b1, b2, b3⟩, -⟩ := h
  have o : O.Nodup := b1.imp (fun {x y} q z => by rw [z] at q; omega)
  have p : P.Nodup := b2.imp (fun {x y} q z => by rw [z] at q; omega)
  exact ⟨o, p, nodup_len o (fun x hx => (a2 x hx).1), nodup_len p (fun x hx => (a2 x (b3 x hx)).1)⟩
theorem enter_O {dp : Nat → List Nat} {pd : Nat → Nat → Prop} {y : Nat} (hn : Nt c ns sz a len src ld) (hT : TI dp ns num low P O pd seen) (h : OC c ns a len src num low P O cu seen lp ord) (hy : y < ns) (h0 : num y = 0) : ∃ c', fn_Order_enter_Or N (nI y) c = some ((), c') ∧ OE c c' ∧ OC c' ns a len src (updN num y (seen + 1)) (updN low y (seen + 1)) (y :: P) (y :: O) (updN cu y 0) (seen + 1) lp ord ∧ seen < ns := by
  obtain ⟨⟨p1, p2⟩, ⟨o1, o2⟩, n1, l1, c1, s1, lp1, lp2, r1, r2, k1⟩ := h
  obtain ⟨t1, t2, t3, t4⟩ := hT.lens
  have yO : y ∉ O := fun z => by have := (hT.1.2.1 y z).2.1; omega
  have yP : y ∉ P := fun z => yO (hT.2.1.2.2 y z)
  have lO : O.length < ns := by
    have := nodup_len (n := ns) (l := y :: O) (List.nodup_cons.mpr ⟨yO, t1⟩) (fun x hx => by
      rcases List.mem_cons.mp hx with rfl | hx
      · exact hy
      · exact (hT.1.2.1 x hx).1)
    exact this
  have lP : P.length < ns := by
    have := nodup_len (n := ns) (l := y :: P) (List.nodup_cons.mpr ⟨yP, t2⟩) (fun x hx => by
      rcases List.mem_cons.mp hx with rfl | hx
      · exact hy
      · exact (hT.1.2.1 x (hT.2.1.2.2 x hx)).1)
    exact this
  obtain ⟨k2, k3⟩ := cnt_add (x := seen + 1) hy h0 (by omega)
  obtain ⟨-, h2, -, n4, h5⟩ := hn
  obtain ⟨g1, -⟩ := h5 y hy
  have iY := nI_in (show y < 1024 by omega) (by decide)
  have yn : ∀ v, v ∈ O → v ≠ y := fun v hv z => yO (z ▸ hv)
  unfold fn_Order_enter_Or
  rw [p1, if_neg (show ¬ (1024 : Int32) ≤ nI P.length from nI_ge (b := 1024) (by omega) (by omega)), o1, if_pos (show nI O.length < 1024 from nI_lt (b := 1024) (by omega) (by omega)), if_neg iY, if_neg iY, if_neg iY, if_neg iY, if_neg (nI_in (show P.length < 1024 by omega) (by decide)), if_neg (nI_in (show O.length < 1024 by omega) (by decide)), nI_clamp (by omega), nI_clamp (by omega), nI_clamp (by omega), s1, g1, nI_1, nI_1, nI_1]
  refine ⟨_, rfl, (((((((Eb.rfl.upI (by decide)).upI (by decide)).upI (by decide)).upI (by decide)).upI (by decide)).upI (by decide)).upI (by decide)).upI (by decide), ⟨⟨rfl, ?_⟩, ⟨rfl, ?_⟩, fun v hv => ?_, fun v hv => ?_, fun v hv => ?_, rfl, lp1, lp2, r1, r2, by rw [k2, k1]⟩, by omega⟩
  · exact ⟨upd_at _ _ _, p2.up (Nat.le_refl _)⟩
  · exact ⟨upd_at _ _ _, o2.up (Nat.le_refl _)⟩
  · show upd (c.1 277) y _ v = _
    unfold updN
    by_cases z : v = y
    · subst z; rw [upd_at, if_pos rfl]
    · rw [upd_ne z, if_neg z]; exact n1 v hv
  · show upd (c.1 278) y _ v = _
    unfold updN
    by_cases z : v = y
    · subst z; rw [upd_at, if_pos rfl]
    · rw [upd_ne z, if_neg z]; exact l1 v ((List.mem_cons.mp hv).resolve_left z)
  · unfold updN Cu
    by_cases z : v = y
    · subst z
      have e : (fun j => if j = v then 0 else cu j) v = 0 := if_pos rfl
      dsimp only
      rw [if_pos rfl]
      refine ⟨fun _ => ⟨Nat.zero_le _, upd_at _ _ _⟩, fun y2 _ => Or.inl ⟨rfl, upd_at _ _ _⟩⟩
    · have g := c1 v ((List.mem_cons.mp hv).resolve_left z)
      dsimp only
      rw [if_neg z]
      have e : (upd (c.1 279) y (nI (a y))) v = c.1 279 v := upd_ne z
      unfold Cu at g
      rw [← e] at g
      exact g
theorem append_O {v : Nat} (hn : Nt c ns sz a len src ld) (hv : v < ns) (hl : ord.length < 1024) (h1 : c.1 304 0 = nI ord.length) (h2 : ∀ k o, ord[k]? = some o → c.1 303 k = nI o) : ∃ c', fn_Order_append_Or N (nI v) c = some ((), c') ∧ Eb [303, 304] [] c c' ∧ c'.1 304 0 = nI (ord ++ [v].filter (tld len src)).length ∧ (∀ k o, (ord ++ [v].filter (tld len src))[k]? = some o → c'.1 303 k = nI o) := by
  obtain ⟨-, n2, -, n4, h5⟩ := hn
  obtain ⟨g1, g2, g3, g4, g4'⟩ := h5 v hv
  have iV := nI_in (show v < 1024 by omega) (by decide)
  have iV2 := nI_in2 (show v < 1024 by omega) (by decide)
  have go : tld len src v = true → ∃ c', bk_Order_append_Or_34 N (nI v) c = some ((), c') ∧ Eb [303, 304] [] c c' ∧ c'.1 304 0 = nI (ord ++ [v].filter (tld len src)).length ∧ (∀ k o, (ord ++ [v].filter (tld len src))[k]? = some o → c'.1 303 k = nI o) := fun t => by
    unfold bk_Order_append_Or_34 bk_Order_append_Or_39
    rw [if_neg (show ¬ (1 : Int32) = 0 by decide), h1, if_pos (show nI ord.length < 1024 from nI_lt (b := 1024) hl (by omega)), if_neg (nI_in (show ord.length < 1024 by omega) (by decide)), nI_clamp (by omega), nI_1, List.filter_cons_of_pos t]
    refine ⟨_, rfl, (Eb.rfl.upI (by decide)).upI (by decide), ?_, fun k o hk => ?_⟩
    · show nI (ord.length + 1) = _
      rw [List.length_append]
      rfl
    · show upd (c.1 303) ord.length (nI v) k = _
      by_cases z : k < ord.length
      · rw [upd_ne (by omega)]
        rw [List.getElem?_append_left z] at hk
        exact h2 k o hk
      · rw [List.getElem?_append_right (by omega)] at hk
        have : k = ord.length := by
          have := (List.getElem?_eq_some_iff.mp hk).1
          have : k - ord.length < 1 := this
          omega
        subst this
        rw [Nat.sub_self] at hk
        have hk : some v = some o := hk
        cases hk
        rw [upd_at]
  unfold fn_Order_append_Or
  rw [if_neg iV, nI_clamp (by omega)]
  cases e : src v with
  | some y =>
    obtain ⟨q1, q2, q3⟩ := g4' y e
    rw [q1, if_neg (fun z => by
      have : ¬ (nI y : Int32) < 0 := nI_pos (by omega)
      rw [z] at this
      exact this (by decide))]
    exact go (by unfold tld; rw [e]; rfl)
  | none =>
    rw [(g4 e).1, if_pos rfl, if_neg iV2, if_neg iV2, g1, g2]
    by_cases z : len v = 0
    · rw [if_pos (nI_le (by omega) (by omega))]
      unfold bk_Order_append_Or_39
      rw [if_pos rfl]
      have t : ¬ tld len src v = true := by unfold tld; rw [e, z]; decide
      rw [List.filter_cons_of_neg t]
      refine ⟨c, rfl, Eb.rfl, by rw [List.filter_nil, List.append_nil]; exact h1, by rw [List.filter_nil, List.append_nil]; exact h2⟩
    · rw [if_neg (nI_ge (by omega) (by omega))]
      exact go (by unfold tld; rw [decide_eq_true (show 0 < len v by omega)]; exact Bool.or_true _)
end ORD2
