/-! The class: order: one is left. -/
section ORD3
variable {c c' : ms} {N ns sz : Nat} {a len : Nat → Nat} {src : Nat → Option Nat} {ld : Nat → Nat → Option Nat} {num low : Nat → Nat} {P O : List Nat} {cu : Nat → Nat} {seen lp : Nat} {ord : List Nat}
def mnI (b : Bool) : Int32 := if b = true then 1 else 0
theorem pop_L {s : Nat} {many : Bool} (hs : s < ns) : ∀ (C O' : List Nat) (c : ms) (ord : List Nat) (lp : Nat) (x3 : Int32) (F : Nat), Nt c ns sz a len src ld → c.1 283 0 = nI (C ++ s :: O').length → Sk (c.1 281) (C ++ s :: O') → (∀ v, v ∈ C → v < ns ∧ v ≠ s) → x3 ≠ nI s → (C ++ s :: O').length ≤ 1024 → ord.length + C.length + 1 ≤ 1024 → c.1 304 0 = nI ord.length → (∀ k o, ord[k]? = some o → c.1 303 k = nI o) → c.1 285 0 = nI lp → lp ≤ CL → C.length + 1 < F → ∃ c' lp', hd_Order_leave_Or_96 N F (nI s) (mnI many) x3 c = some ((), c') ∧ Eb [277, 283, 285, 303, 304] [] c c' ∧ c'.1 283 0 = nI O'.length ∧ Sk (c'.1 281) O' ∧ (∀ v, v < ns → c'.1 277 v = if v ∈ C ∨ v = s then nI CL else c.1 277 v) ∧ c'.1 285 0 = nI lp' ∧ lp' ≤ lp ∧ (many = true → ∀ v, v ∈ C ∨ v = s → lp' ≤ v) ∧ (lp' = lp ∨ (many = true ∧ (lp' ∈ C ∨ lp' = s))) ∧ c'.1 304 0 = nI (ord ++ (C ++ [s]).filter (tld len src)).length ∧ (∀ k o, (ord ++ (C ++ [s]).filter (tld len src))[k]? = some o → c'.1 303 k = nI o) := by
  -- one is taken off
  have one : ∀ (m : Nat) (l : List Nat) (c : ms) (ord : List Nat) (lp : Nat) (x3 : Int32) (F : Nat), m < ns → Nt c ns sz a len src ld → c.1 283 0 = nI (m :: l).length → Sk (c.1 281) (m :: l) → x3 ≠ nI s → (m :: l).length ≤ 1024 → ord.length < 1024 → c.1 304 0 = nI ord.length → (∀ k o, ord[k]? = some o → c.1 303 k = nI o) → c.1 285 0 = nI lp → lp ≤ CL → ∃ c' lp', hd_Order_leave_Or_96 N (F + 1) (nI s) (mnI many) x3 c = hd_Order_leave_Or_96 N F (nI s) (mnI many) (nI m) c' ∧ Eb [277, 283, 285, 303, 304] [] c c' ∧ c'.1 283 0 = nI l.length ∧ Sk (c'.1 281) l ∧ (∀ v, v < ns → c'.1 277 v = if v = m then nI CL else c.1 277 v) ∧ c'.1 285 0 = nI lp' ∧ lp' ≤ lp ∧ (many = true → lp' ≤ m) ∧ (lp' = lp ∨ (many = true ∧ lp' = m)) ∧ c'.1 304 0 = nI (ord ++ [m].filter (tld len src)).length ∧ (∀ k o, (ord ++ [m].filter (tld len src))[k]? = some o → c'.1 303 k = nI o) := by
    intro m l c ord lp x3 F hm hn h283 hS hx hl ho h304 h303 h285 hlp
    have ns1 := hn.2.1
    have hl' : l.length + 1 ≤ 1024 := hl
    have h283 : c.1 283 0 = nI (l.length + 1) := h283
    have iM := nI_in (show m < 1024 by omega) (by decide)
    have cl : CL = 1073741824 := rfl
    show ∃ c' lp', bd_Order_leave_Or_96 N (hd_Order_leave_Or_96 N F) (nI s) (mnI many) x3 c = _ ∧ _
    unfold bd_Order_leave_Or_96
    rw [h283, if_neg (show ¬ nI (l.length + 1) ≤ 0 from nI_ge (a := 0) (b := l.length + 1) (by omega) (by omega)), if_neg hx, s1_nI, if_neg (nI_in (show l.length < 1024 by omega) (by decide)), nI_clamp (show l.length < 2 ^ 31 by omega), hS.1, if_neg iM, nI_clamp (show m < 2 ^ 31 by omega)]
    unfold bk_Order_leave_Or_152
    cases many with
    | false =>
      rw [if_pos (show mnI false = 0 from rfl)]
      have e1 : Eb [277, 283, 285, 303, 304] [] c (upI (upI c 283 (fun _ => nI l.length)) 277 (upd (c.1 277) m 1073741824)) := (Eb.rfl.upI (by decide)).upI (by decide)
      obtain ⟨c2, y1, y2, y3, y4⟩ := append_O (N := N) (v := m) (c := upI (upI c 283 (fun _ => nI l.length)) 277 (upd (c.1 277) m 1073741824)) (hn.keep (e1.mono (by decide) (by decide))) hm ho h304 h303
      rw [y1, obind]
      refine ⟨c2, lp, rfl, e1.trans (y2.mono (by decide) (by decide)), by rw [y2.1 283 (by decide)]; rfl, by rw [y2.1 281 (by decide)]; exact hS.2, fun v hv => ?_, by rw [y2.1 285 (by decide)]; exact h285, Nat.le_refl _, fun z => (by cases z), Or.inl rfl, y3, y4⟩
      rw [y2.1 277 (by decide)]
      show upd (c.1 277) m 1073741824 v = _
      by_cases z : v = m
      · subst z; rw [upd_at, if_pos rfl]; rfl
      · rw [upd_ne z, if_neg z]
    | true =>
      rw [if_neg (show ¬ mnI true = 0 by decide), h285]
      have mi : (if nI m < nI lp then nI m else nI lp) = nI (min lp m) := by
        by_cases z : m < lp
        · rw [if_pos (nI_lt z (by omega)), Nat.min_eq_right (by omega)]
        · rw [if_neg (fun q => by have := nI_le (a := lp) (b := m) (by omega) (by omega); exact absurd q (Int32.not_lt.mpr this)), Nat.min_eq_left (by omega)]
      rw [mi]
      have e1 : Eb [277, 283, 285, 303, 304] [] c (upI (upI (upI c 283 (fun _ => nI l.length)) 277 (upd (c.1 277) m 1073741824)) 285 (fun _ => nI (min lp m))) := ((Eb.rfl.upI (by decide)).upI (by decide)).upI (by decide)
      obtain ⟨c2, y1, y2, y3, y4⟩ := append_O (N := N) (v := m) (c := upI (upI (upI c 283 (fun _ => nI l.length)) 277 (upd (c.1 277) m 1073741824)) 285 (fun _ => nI (min lp m))) (hn.keep (e1.mono (by decide) (by decide))) hm ho h304 h303
      rw [y1, obind]
      refine ⟨c2, min lp m, rfl, e1.trans (y2.mono (by decide) (by decide)), by rw [y2.1 283 (by decide)]; rfl, by rw [y2.1 281 (by decide)]; exact hS.2, fun v hv => ?_, by rw [y2.1 285 (by decide)]; rfl, Nat.min_le_left _ _, fun _ => Nat.min_le_right _ _, (by
        by_cases z : lp ≤ m
        · exact Or.inl (Nat.min_eq_left z)
        · exact Or.inr ⟨rfl, Nat.min_eq_right (by omega)⟩), y3, y4⟩
      rw [y2.1 277 (by decide)]
      show upd (c.1 277) m 1073741824 v = _
      by_cases z : v = m
      · subst z; rw [upd_at, if_pos rfl]; rfl
      · rw [upd_ne z, if_neg z]
  intro C
  induction C with
  | nil =>
    intro O' c ord lp x3 F hn h283 hS hC hx hl ho h304 h303 h285 hlp hF
    obtain ⟨F, rfl⟩ : ∃ F', F = F' + 1 + 1 := ⟨F - 2, by have : 0 + 1 < F := hF; omega⟩
    obtain ⟨c1, lp1, y1, y2, y3, y4, y5, y6, y7, y8, y9, y10, y11⟩ := one s O' c ord lp x3 (F + 1) hs hn h283 hS hx hl (by have : ord.length + 0 + 1 ≤ 1024 := ho; omega) h304 h303 h285 hlp
    refine ⟨c1, lp1, ?_, y2, y3, y4, fun v hv => ?_, y6, y7, fun z v hv => ?_, ?_, y10, y11⟩
    · rw [y1]
      show bd_Order_leave_Or_96 N (hd_Order_leave_Or_96 N F) (nI s) (mnI many) (nI s) c1 = _
      unfold bd_Order_leave_Or_96
      split
      · rfl
      · rw [if_pos rfl]
    · rw [y5 v hv]
      by_cases z : v = s
      · rw [if_pos z, if_pos (Or.inr z)]
      · rw [if_neg z, if_neg (by simpa using z)]
    · have : v = s := by simpa using hv
      rw [this]; exact y8 z
    · exact y9.imp_right (fun q => ⟨q.1, Or.inr q.2⟩)
  | cons m C ih =>
    intro O' c ord lp x3 F hn h283 hS hC hx hl ho h304 h303 h285 hlp hF
    have hF' : C.length + 1 + 1 < F := hF
    have ho' : ord.length + (C.length + 1) + 1 ≤ 1024 := ho
    have hl' : (C ++ s :: O').length + 1 ≤ 1024 := hl
    obtain ⟨F, rfl⟩ : ∃ F', F = F' + 1 := ⟨F - 1, by omega⟩
    obtain ⟨m1, m2⟩ := hC m List.mem_cons_self
    obtain ⟨c1, lp1, y1, y2, y3, y4, y5, y6, y7, y8, y9, y10, y11⟩ := one m (C ++ s :: O') c ord lp x3 F m1 hn h283 hS hx hl (by omega) h304 h303 h285 hlp
    have fl : ([m].filter (tld len src)).length ≤ 1 := List.length_filter_le _ _
    obtain ⟨c2, lp2, z1, z2, z3, z4, z5, z6, z7, z8, z9, z10, z11⟩ := ih O' c1 (ord ++ [m].filter (tld len src)) lp1 (nI m) F (hn.keep (y2.mono (by decide) (by decide))) y3 y4 (fun v hv => hC v (List.mem_cons_of_mem _ hv)) (fun z => m2 ((nI_eq (by have := hn.2.1; omega) (by have := hn.2.1; omega)).mp z)) (by omega) (by rw [List.length_append]; omega) y10 y11 y6 (by omega) (by omega)
    have ap : ord ++ (m :: C ++ [s]).filter (tld len src) = ord ++ [m].filter (tld len src) ++ (C ++ [s]).filter (tld len src) := by
      rw [List.append_assoc, ← List.filter_append]
      rfl
    rw [ap]
    refine ⟨c2, lp2, by rw [y1]; exact z1, y2.trans z2, z3, z4, fun v hv => ?_, z6, by omega, fun q v hv => ?_, ?_, z10, z11⟩
    · rw [z5 v hv, y5 v hv]
      by_cases q1 : v ∈ C ∨ v = s
      · rw [if_pos q1, if_pos (q1.imp_left (List.mem_cons_of_mem _))]
      · rw [if_neg q1]
        by_cases q2 : v = m
        · rw [if_pos q2, if_pos (Or.inl (by rw [q2]; exact List.mem_cons_self))]
        · rw [if_neg q2, if_neg (fun q => q.elim (fun w => (List.mem_cons.mp w).elim q2 (fun w => q1 (Or.inl w))) (fun w => q1 (Or.inr w)))]
    · rcases hv with hv | hv
      · rcases List.mem_cons.mp hv with rfl | hv
        · have := y8 q; omega
        · exact z8 q v (Or.inl hv)
      · exact z8 q v (Or.inr hv)
    · rcases z9 with q | ⟨q1, q2⟩
      · rw [q]
        exact y9.imp_right (fun w => ⟨w.1, Or.inl (by rw [w.2]; exact List.mem_cons_self)⟩)
      · exact Or.inr ⟨q1, q2.imp_left (List.mem_cons_of_mem _)⟩
/-- one is left -/
theorem leave_O {s : Nat} {P' : List Nat} (hN : 20000 < N) (hn : Nt c ns sz a len src ld) (hdn : ∀ v y, v < ns → y ∈ dpn len src ld v → y < ns) (hT : TI (dpn len src ld) ns num low (s :: P') O (pdf src ld cu) seen) (hLI : LI (dpn len src ld) ns num O (pdf src ld cu) lp) (hOI : OI (dpn len src ld) ns num (tld len src) ord) (h : OC c ns a len src num low (s :: P') O cu seen lp ord) (hd : ∀ z, z ∈ dpn len src ld s → pdf src ld cu s z) : ∃ c' num' low' O' lp' ord', fn_Order_leave_Or N (nI s) c = some ((), c') ∧ OE c c' ∧ TI (dpn len src ld) ns num' low' P' O' (pdf src ld cu) seen ∧ LI (dpn len src ld) ns num' O' (pdf src ld cu) lp' ∧ OI (dpn len src ld) ns num' (tld len src) ord' ∧ OC c' ns a len src num' low' P' O' cu seen lp' ord' ∧ (∀ v, num' v = 0 ↔ num v = 0) := by
  obtain ⟨sO, sm, sP⟩ := hT.top
  obtain ⟨t1, t2, t3, t4⟩ := hT.lens
  have ns1 := hn.2.1
  have pl : P'.length + 1 ≤ ns := t4
  obtain ⟨a1, a2, a3⟩ := hT.1
  have hs := (a2 s sO).1
  obtain ⟨⟨p1, p2⟩, ⟨o1, o2⟩, n1, l1, c1, s1, lp1, lp2, r1, r2, k1⟩ := id h
  have p1 : c.1 282 0 = nI (P'.length + 1) := p1
  have cl : CL = 1073741824 := rfl
  have seenle : seen ≤ ns := by
    rw [← k1]
    have := sumF_le (f := fun v => if num v = 0 then 0 else 1) (b := 1) (n := ns) (a := 0) (fun d _ _ => by split <;> omega)
    unfold cnt
    omega
  have lowb : ∀ v, v ∈ O → low v ≤ 1024 ∧ num v ≤ 1024 := fun v hv => by
    have := (hT.2.2.2.2.2.1 v hv).1
    have := (a2 v hv).2.2
    omega
  -- what its user gets
  obtain ⟨low', hlow⟩ : ∃ low' : Nat → Nat, ∀ v, low' v = if P'.head? = some v then min (low v) (low s) else low v := ⟨_, fun v => rfl⟩
  have b1 : ∃ cA, fn_Order_leave_Or N (nI s) c = bk_Order_leave_Or_50 N (nI s) cA ∧ Eb [278, 282] [] c cA ∧ cA.1 282 0 = nI P'.length ∧ ∀ v, v ∈ O → cA.1 278 v = nI (low' v) := by
    unfold fn_Order_leave_Or
    rw [p1, s1_nI]
    cases e : P' with
    | nil =>
      rw [if_pos (show nI ([] : List Nat).length ≤ 0 by decide)]
      refine ⟨_, rfl, Eb.rfl.upI (by decide), rfl, fun v hv => ?_⟩
      rw [hlow, e, if_neg (fun z => by cases z)]
      exact l1 v hv
    | cons u l =>
      have uO : u ∈ O := hT.2.1.2.2 u (by rw [e]; exact List.mem_cons_of_mem _ List.mem_cons_self)
      have hu := (a2 u uO).1
      rw [e] at p2 pl
      have pl : l.length + 1 + 1 ≤ ns := pl
      have q1 : c.1 280 l.length = nI u := p2.2.1
      rw [show (u :: l).length = l.length + 1 from rfl, if_neg (show ¬ nI (l.length + 1) ≤ 0 from nI_ge (a := 0) (b := l.length + 1) (by omega) (by omega)), s1_nI, if_neg (nI_in (show l.length < 1024 by omega) (by decide)), nI_clamp (show l.length < 2 ^ 31 by omega), q1, if_neg (nI_in (show u < 1024 by omega) (by decide)), if_neg (nI_in (show s < 1024 by omega) (by decide)), if_neg (nI_in (show u < 1024 by omega) (by decide)), nI_clamp (show u < 2 ^ 31 by omega), nI_clamp (show s < 2 ^ 31 by omega), l1 s sO, l1 u uO]
      have mi : (if nI (low s) < nI (low u) then nI (low s) else nI (low u)) = nI (min (low u) (low s)) := by
        have := (lowb s sO).1
        have := (lowb u uO).1
        by_cases z : low s < low u
        · rw [if_pos (nI_lt z (by omega)), Nat.min_eq_right (by omega)]
        · rw [if_neg (fun q => by have := nI_le (a := low u) (b := low s) (by omega) (by omega); exact absurd q (Int32.not_lt.mpr this)), Nat.min_eq_left (by omega)]
      rw [mi]
      refine ⟨_, rfl, (Eb.rfl.upI (by decide)).upI (by decide), rfl, fun v hv => ?_⟩
      show upd (c.1 278) u _ v = _
      rw [hlow, e]
      by_cases z : v = u
      · subst z; rw [upd_at, if_pos (show (v :: l).head? = some v from rfl)]
      · rw [upd_ne z, if_neg (fun q => z (by have q : some u = some v := q; cases q; rfl))]
        exact l1 v hv
  obtain ⟨cA, x1, x2, x3, x4⟩ := b1
  have lows : low' s = low s := by
    rw [hlow, if_neg (fun z : P'.head? = some s => sP (List.mem_of_mem_head? z))]
  have nA : Nt cA ns sz a len src ld := hn.keep (x2.mono (by decide) (by decide))
  have k277 : cA.1 277 s = nI (num s) := by rw [x2.1 277 (by decide)]; exact n1 s hs
  have k278 : cA.1 278 s = nI (low s) := by rw [x4 s sO, lows]
  have iS := nI_in (show s < 1024 by omega) (by decide)
  have cuA : ∀ v, v ∈ O → Cu cA a len src cu v := fun v hv => by
    have := c1 v hv
    unfold Cu at *
    rw [x2.1 279 (by decide)]
    exact this
  rw [x1]
  unfold bk_Order_leave_Or_50
  rw [if_neg iS, if_neg iS, nI_clamp (by omega), k277, k278]
  by_cases z : low s = num s
  · rw [if_pos (by rw [z])]
    obtain ⟨C, O', hO⟩ := List.append_of_mem sO
    have oA : cA.1 283 0 = nI (C ++ s :: O').length := by rw [x2.1 283 (by decide), o1, hO]
    have sA : Sk (cA.1 281) (C ++ s :: O') := by rw [x2.1 281 (by decide), ← hO]; exact o2
    have ol : (C ++ s :: O').length ≤ ns := by rw [← hO]; exact t3
    have olp : 0 < (C ++ s :: O').length := by rw [List.length_append]; show 0 < C.length + (O'.length + 1); omega
    obtain ⟨num', hnum⟩ : ∃ num' : Nat → Nat, ∀ v, num' v = if v ∈ C ∨ v = s then CL else num v := ⟨fun v => if v ∈ C ∨ v = s then CL else num v, fun v => rfl⟩
    have lowO : ∀ v, v ∈ O' → low' v = low v := fun v hv => by
      rw [hlow]
      split
      · rename_i q
        have vP := List.mem_of_mem_head? q
        have := sm v vP
        have := (hT.2.2.2.2.2.1 v (hT.2.1.2.2 v (List.mem_cons_of_mem _ vP))).1
        exact Nat.min_eq_left (by omega)
      · rfl
    obtain ⟨P1, P2, P3⟩ := hT.pop (low' := low') hO z hd hnum lowO
    -- whether there are many
    have top : (if cA.1 283 0 ≤ 0 then hd_Order_leave_Or_96 N N (nI s) 0 (-1) cA else if cA.1 283 0 - 1 < 0 ∨ 1024 ≤ Int32.toNatClampNeg (cA.1 283 0 - 1) then none else if cA.1 281 (Int32.toNatClampNeg (cA.1 283 0 - 1)) = nI s then hd_Order_leave_Or_96 N N (nI s) 0 (-1) cA else hd_Order_leave_Or_96 N N (nI s) 1 (-1) cA) = hd_Order_leave_Or_96 N N (nI s) (mnI (!C.isEmpty)) (-1) cA := by
      obtain ⟨k, hk⟩ : ∃ k, (C ++ s :: O').length = k + 1 := ⟨(C ++ s :: O').length - 1, by omega⟩
      rw [oA, hk, if_neg (show ¬ nI (k + 1) ≤ 0 from nI_ge (a := 0) (b := k + 1) (by omega) (by omega)), s1_nI, if_neg (nI_in (show k < 1024 by omega) (by decide)), nI_clamp (show k < 2 ^ 31 by omega)]
      cases e : C with
      | nil =>
        rw [e] at sA hk
        have hk : O'.length + 1 = k + 1 := hk
        rw [show k = O'.length by omega, sA.1, if_pos rfl]
        rfl
      | cons u l =>
        rw [e] at sA hk
        have hk : (l ++ s :: O').length + 1 = k + 1 := hk
        have us := (P3 u (by rw [e]; exact List.mem_cons_self)).2.2
        have hu := (P2 u (Or.inl (by rw [e]; exact List.mem_cons_self))).1
        rw [show k = (l ++ s :: O').length by omega, show cA.1 281 (l ++ s :: O').length = nI u from sA.1, if_neg (fun q => us ((nI_eq (by omega) (by omega)).mp q))]
        rfl
    rw [top]
    have nd : (ord ++ (C ++ [s])).Nodup := by
      refine List.nodup_append.mpr ⟨hOI.2.1, ?_, fun x hx y hy q => ?_⟩
      · rw [hO] at t1
        obtain ⟨q1, q2, q3⟩ := List.nodup_append.mp t1
        exact List.nodup_append.mpr ⟨q1, List.pairwise_singleton _ _, fun x hx y hy => q3 x hx y (by rw [List.mem_singleton.mp hy]; exact List.mem_cons_self)⟩
      · subst q
        rw [List.mem_append, List.mem_singleton] at hy
        exact (P2 x hy).2.1 ((hOI.1 x).mp hx).2.1
    have nl : ord.length + (C.length + 1) ≤ ns := by
      have := nodup_len (n := ns) nd (fun x hx => by
        rcases List.mem_append.mp hx with q | q
        · exact ((hOI.1 x).mp q).1
        · rw [List.mem_append, List.mem_singleton] at q
          exact (P2 x q).1)
      rw [List.length_append, List.length_append] at this
      exact this
    obtain ⟨cB, lp', y1, y2, y3, y4, y5, y6, y7, y8, y9, y10, y11⟩ := pop_L (N := N) (many := !C.isEmpty) hs C O' cA ord lp (-1) N nA oA sA (fun v hv => ⟨(P2 v (Or.inl hv)).1, (P3 v hv).2.2⟩) (fun q => by
      have : ¬ (nI s : Int32) < 0 := nI_pos (by omega)
      rw [← q] at this
      exact this (by decide)) (by omega) (by omega) (by rw [x2.1 304 (by decide)]; exact r1) (by rw [x2.1 303 (by decide)]; exact r2) (by rw [x2.1 285 (by decide)]; exact lp1) lp2 (by omega)
    have many : (!C.isEmpty) = true ↔ C ≠ [] := by
      cases C with
      | nil => simp
      | cons u l => simp
    refine ⟨cB, num', low', O', lp', ord ++ (C ++ [s]).filter (tld len src), y1, (x2.mono (by decide) (by decide)).trans (y2.mono (by decide) (by decide)), P1, hLI.pop hT hdn hO z hd hnum y7 (fun q v hv => y8 (many.mpr q) v hv) (y9.imp_right (fun q => ⟨many.mp q.1, q.2⟩)), hOI.pop hdn hT hO z hd hnum, ⟨⟨by rw [y2.1 282 (by decide)]; exact x3, by rw [y2.1 280 (by decide), x2.1 280 (by decide)]; exact p2.2⟩, ⟨y3, y4⟩, fun v hv => ?_, fun v hv => ?_, fun v hv => ?_, by rw [y2.1 284 (by decide), x2.1 284 (by decide)]; exact s1, y6, by omega, y10, y11, ?_⟩, fun v => ?_⟩
    · rw [y5 v hv, hnum, x2.1 277 (by decide)]
      split
      · rfl
      · exact n1 v hv
    · rw [y2.1 278 (by decide)]
      exact x4 v (by rw [hO]; exact List.mem_append_right _ (List.mem_cons_of_mem _ hv))
    · have := cuA v (by rw [hO]; exact List.mem_append_right _ (List.mem_cons_of_mem _ hv))
      unfold Cu at *
      rw [y2.1 279 (by decide)]
      exact this
    · rw [← k1]
      unfold cnt
      refine sumF_congr (fun v _ hv => ?_)
      rw [hnum]
      split
      · rename_i q
        rw [if_neg (by decide), if_neg (by
          have : v ∈ O := by
            rw [hO, List.mem_append, List.mem_cons]
            exact q.imp_right Or.inl
          have := (a2 v this).2.1
          omega)]
      · rfl
    · rw [hnum]
      split
      · rename_i q
        have : v ∈ O := by
          rw [hO, List.mem_append, List.mem_cons]
          exact q.imp_right Or.inl
        have := (a2 v this).2.1
        rw [cl]
        omega
      · exact Iff.rfl
  · have := lowb s sO
    rw [if_neg (fun q => z ((nI_eq (by omega) (by omega)).mp q))]
    refine ⟨cA, num, low', O, lp, ord, rfl, x2.mono (by decide) (by decide), hT.keep z hd hlow, hLI, hOI, ⟨⟨x3, by rw [x2.1 280 (by decide)]; exact p2.2⟩, ⟨by rw [x2.1 283 (by decide)]; exact o1, by rw [x2.1 281 (by decide)]; exact o2⟩, by rw [x2.1 277 (by decide)]; exact n1, x4, cuA, by rw [x2.1 284 (by decide)]; exact s1, by rw [x2.1 285 (by decide)]; exact lp1, lp2, by rw [x2.1 304 (by decide)]; exact r1, by rw [x2.1 303 (by decide)]; exact r2, k1⟩, fun v => Iff.rfl⟩
end ORD3
