/-! The class: order, whole. -/
def Phi (ns : Nat) (len : Nat → Nat) (src : Nat → Option Nat) (num : Nat → Nat) (P : List Nat) (cu : Nat → Nat) : Nat := sumF (fun v => if num v = 0 then lnw len src v + 2 else if v ∈ P then lnw len src v - cu v + 1 else 0) ns 0
def OSt (c : ms) (ns sz : Nat) (a len : Nat → Nat) (src : Nat → Option Nat) (ld : Nat → Nat → Option Nat) (num low : Nat → Nat) (P O : List Nat) (cu : Nat → Nat) (seen lp : Nat) (ord : List Nat) : Prop := Nt c ns sz a len src ld ∧ TI (dpn len src ld) ns num low P O (pdf src ld cu) seen ∧ LI (dpn len src ld) ns num O (pdf src ld cu) lp ∧ OI (dpn len src ld) ns num (tld len src) ord ∧ OC c ns a len src num low P O cu seen lp ord
section ORD4
variable {c c' : ms} {N ns sz : Nat} {a len : Nat → Nat} {src : Nat → Option Nat} {ld : Nat → Nat → Option Nat} {num low : Nat → Nat} {P O : List Nat} {cu : Nat → Nat} {seen lp : Nat} {ord : List Nat}
theorem pdf_eq {cu' : Nat → Nat} {v z : Nat} (h : cu' v = cu v) : pdf src ld cu' v z ↔ pdf src ld cu v z := by
  unfold pdf
  rw [h]
theorem pdf_0 {cu' : Nat → Nat} {v z : Nat} (h : cu' v = 0) : ¬ pdf src ld cu' v z := by
  unfold pdf
  rw [h]
  split
  · intro q; exact absurd q.1 (by decide)
  · intro q; exact absurd q List.not_mem_nil
theorem move_O {s x F : Nat} {P' : List Nat} (hN : 20000 < N) (hdn : ∀ v y, v < ns → y ∈ dpn len src ld v → y < ns) (h : OSt c ns sz a len src ld num low (s :: P') O cu seen lp ord) (hx : x < 16777216) : ∃ c' num' low' P2 O' cu' seen' lp' ord', hd_Order_visit_Or_7 N (F + 1) (nI x) c = hd_Order_visit_Or_7 N F (nI (x + 1)) c' ∧ OE c c' ∧ OSt c' ns sz a len src ld num' low' P2 O' cu' seen' lp' ord' ∧ Phi ns len src num' P2 cu' < Phi ns len src num (s :: P') cu ∧ (∀ v, num v ≠ 0 → num' v ≠ 0) := by
  obtain ⟨hn, hT, hLI, hOI, hC⟩ := h
  obtain ⟨sO, sm, sP⟩ := hT.top
  obtain ⟨t1, t2, t3, t4⟩ := hT.lens
  have ns1 := hn.2.1
  obtain ⟨a1, a2, a3⟩ := hT.1
  have hs := (a2 s sO).1
  have pl : P'.length + 1 ≤ ns := t4
  obtain ⟨⟨p1, p2⟩, ⟨o1, o2⟩, n1, l1, c1, s1, lp1, lp2, r1, r2, k1⟩ := id hC
  have p1 : c.1 282 0 = nI (P'.length + 1) := p1
  have cl : CL = 1073741824 := rfl
  have iS := nI_in (show s < 1024 by omega) (by decide)
  have sn : num s ≠ 0 := by have := (a2 s sO).2.1; omega
  have seenle : seen ≤ ns := by
    rw [← k1]
    have := sumF_le (f := fun v => if num v = 0 then 0 else 1) (b := 1) (n := ns) (a := 0) (fun d _ _ => by split <;> omega)
    unfold cnt
    omega
  have lows : low s ≤ 1024 := by
    have := (hT.2.2.2.2.2.1 s sO).1
    have := (a2 s sO).2.2
    omega
  have body : ∀ F, hd_Order_visit_Or_7 N (F + 1) (nI x) c = bd_Order_visit_Or_7 N (hd_Order_visit_Or_7 N F) (nI x) c := fun F => rfl
  rw [body]
  unfold bd_Order_visit_Or_7
  rw [if_neg (show ¬ (16777216 : Int32) ≤ nI x from nI_ge (b := 16777216) hx (by omega)), p1, if_neg (show ¬ nI (P'.length + 1) ≤ 0 from nI_ge (a := 0) (b := P'.length + 1) (by omega) (by omega)), s1_nI, if_neg (nI_in (show P'.length < 1024 by omega) (by decide)), nI_clamp (show P'.length < 2 ^ 31 by omega), show c.1 280 P'.length = nI s from p2.1, nI_1]
  rcases next_C (N := N) hN hn hs (c1 s sO) with ⟨y, k', q1, q2, q3, q4, q5, w, q6, q7⟩ | ⟨q1, q2⟩
  · have y0 : ¬ nI y = -1 := fun z => by
      have : ¬ (nI y : Int32) < 0 := nI_pos (by omega)
      rw [z] at this
      exact this (by decide)
    rw [q6, obind]
    dsimp only
    rw [if_neg y0, if_neg (nI_in (show y < 1024 by omega) (by decide)), nI_clamp (show y < 2 ^ 31 by omega)]
    have e1 : OE c (upI c 279 (upd (c.1 279) s w)) := Eb.rfl.upI (by decide)
    have k277 : (upI c 279 (upd (c.1 279) s w)).1 277 y = nI (num y) := n1 y q3
    have k278 : (upI c 279 (upd (c.1 279) s w)).1 278 s = nI (low s) := l1 s sO
    have k285 : (upI c 279 (upd (c.1 279) s w)).1 285 0 = nI lp := lp1
    -- the state behind it
    have C1 : OC (upI c 279 (upd (c.1 279) s w)) ns a len src num low (s :: P') O (updN cu s k') seen lp ord := by
      refine ⟨⟨p1, p2⟩, ⟨o1, o2⟩, n1, l1, fun v hv => ?_, s1, lp1, lp2, r1, r2, k1⟩
      by_cases z : v = s
      · rw [z]; exact q7
      · have g := c1 v hv
        unfold Cu at *
        rw [show (upI c 279 (upd (c.1 279) s w)).1 279 v = c.1 279 v from upd_ne z, show updN cu s k' v = cu v by unfold updN; rw [if_neg z]]
        exact g
    generalize upI c 279 (upd (c.1 279) s w) = cA at *
    have nA := hn.keep e1
    by_cases z : num y = 0
    · -- it is new
      have ys : y ≠ s := fun q => sn (by rw [← q]; exact z)
      rw [k277, z, if_pos (show nI 0 = 0 from rfl)]
      have pe : ∀ v, v ∈ y :: O → ∀ zz, pdf src ld (updN (updN cu s k') y 0) v zz ↔ ((v ≠ y ∧ pdf src ld cu v zz) ∨ ((s :: P').head? = some v ∧ zz = y)) := fun v hv zz => by
        by_cases z1 : v = y
        · subst z1
          refine ⟨fun q => absurd q (pdf_0 (by unfold updN; rw [if_pos rfl])), fun q => ?_⟩
          rcases q with q | q
          · exact absurd rfl q.1
          · have : some s = some v := q.1
            cases this
            exact absurd rfl ys
        · rw [pdf_eq (cu := updN cu s k') (show updN (updN cu s k') y 0 v = updN cu s k' v by unfold updN; rw [if_neg z1])]
          by_cases z2 : v = s
          · subst z2
            rw [q5 zz]
            exact ⟨fun q => q.elim (fun q => Or.inl ⟨z1, q⟩) (fun q => Or.inr ⟨rfl, q⟩), fun q => q.elim (fun q => Or.inl q.2) (fun q => Or.inr q.2)⟩
          · rw [pdf_eq (cu := cu) (show updN cu s k' v = cu v by unfold updN; rw [if_neg z2])]
            refine ⟨fun q => Or.inl ⟨z1, q⟩, fun q => q.elim (fun q => q.2) (fun q => ?_)⟩
            have : some s = some v := q.1
            cases this
            exact absurd rfl z2
      obtain ⟨c2, x1, x2, x3, x4⟩ := enter_O (N := N) (y := y) nA hT C1 q3 z
      rw [x1, obind]
      refine ⟨c2, _, _, _, _, _, _, _, _, rfl, e1.trans x2, ⟨nA.keep x2, hT.enter q3 z (by omega) (fun s' hs' => by have : some s = some s' := hs'; cases this; exact q4) pe, hLI.enter hT z (by omega) pe, hOI.enter z (by omega), x3⟩, ?_, fun v hv => ?_⟩
      · unfold Phi
        refine sumF_lt (p := y) (fun v _ _ => ?_) (Nat.zero_le _) (by omega) ?_
        · by_cases z1 : v = y
          · subst z1
            rw [show updN num v (seen + 1) v = seen + 1 by unfold updN; rw [if_pos rfl], z, if_neg (by omega), if_pos rfl, if_pos List.mem_cons_self]
            omega
          · rw [show updN num y (seen + 1) v = num v by unfold updN; rw [if_neg z1]]
            split
            · exact Nat.le_refl _
            · by_cases z2 : v ∈ s :: P'
              · rw [if_pos z2, if_pos (List.mem_cons_of_mem _ z2)]
                have : cu v ≤ updN (updN cu s k') y 0 v := by
                  unfold updN
                  rw [if_neg z1]
                  split
                  · rename_i q; rw [q]; omega
                  · exact Nat.le_refl _
                omega
              · rw [if_neg z2, if_neg (fun q => (List.mem_cons.mp q).elim z1 z2)]
                exact Nat.le_refl _
        · rw [show updN num y (seen + 1) y = seen + 1 by unfold updN; rw [if_pos rfl], z, if_neg (by omega), if_pos rfl, if_pos List.mem_cons_self]
          omega
      · unfold updN
        split
        · omega
        · exact hv
    · -- it was met before
      rw [k277, if_neg (show ¬ nI (num y) = 0 from fun q => z ((nI_eq (b := 0) (by
        have : num y ≤ CL := by
          by_cases q : y ∈ O
          · have := (a2 y q).2.2; omega
          · have := (a1 y q3); by_cases w : num y = CL
            · omega
            · exact absurd (this.mpr ⟨by omega, w⟩) q
        omega) (by omega)).mp q)), if_neg iS, if_neg (nI_in2 (show y < 1024 by omega) (by decide)), if_neg iS, nI_clamp (show s < 2 ^ 31 by omega), k278]
      have nle : num y ≤ CL := by
        by_cases q : y ∈ O
        · have := (a2 y q).2.2; omega
        · have := (a1 y q3)
          by_cases w : num y = CL
          · omega
          · exact absurd (this.mpr ⟨by omega, w⟩) q
      have mi : (if nI (num y) < nI (low s) then nI (num y) else nI (low s)) = nI (min (low s) (num y)) := by
        by_cases z : num y < low s
        · rw [if_pos (nI_lt z (by omega)), Nat.min_eq_right (by omega)]
        · rw [if_neg (fun q => by have := nI_le (a := low s) (b := num y) (by omega) (by omega); exact absurd q (Int32.not_lt.mpr this)), Nat.min_eq_left (by omega)]
      rw [mi]
      have pe : ∀ v, v ∈ O → ∀ zz, pdf src ld (updN cu s k') v zz ↔ (pdf src ld cu v zz ∨ (v = s ∧ zz = y)) := fun v hv zz => by
        by_cases z2 : v = s
        · subst z2
          rw [q5 zz]
          exact ⟨fun q => q.imp_right (fun q => ⟨rfl, q⟩), fun q => q.imp_right (fun q => q.2)⟩
        · rw [pdf_eq (cu := cu) (show updN cu s k' v = cu v by unfold updN; rw [if_neg z2])]
          exact ⟨Or.inl, fun q => q.elim id (fun q => absurd q.1 z2)⟩
      have T2 := hT.see (pd' := pdf src ld (updN cu s k')) q4 q3 z pe
      have ph : Phi ns len src num (s :: P') (updN cu s k') < Phi ns len src num (s :: P') cu := by
        unfold Phi
        refine sumF_lt (p := s) (fun v _ _ => ?_) (Nat.zero_le _) (by omega) ?_
        · split
          · exact Nat.le_refl _
          · split
            · have : cu v ≤ updN cu s k' v := by
                unfold updN
                split
                · rename_i q; rw [q]; omega
                · exact Nat.le_refl _
              omega
            · exact Nat.le_refl _
        · rw [if_neg sn, if_neg sn, if_pos List.mem_cons_self, if_pos List.mem_cons_self, show updN cu s k' s = k' by unfold updN; rw [if_pos rfl]]
          omega
      obtain ⟨⟨P1, P2⟩, ⟨O1, O2⟩, N1, L1, U1, S1, LP1, LP2, R1, R2, K1⟩ := C1
      have L2 : ∀ v, v ∈ O → upd (cA.1 278) s (nI (min (low s) (num y))) v = nI (updN low s (min (low s) (num y)) v) := fun v hv => by
        unfold updN
        by_cases z2 : v = s
        · subst z2; rw [upd_at, if_pos rfl]
        · rw [upd_ne z2, if_neg z2]; exact L1 v hv
      by_cases ys : y = s
      · rw [if_pos (by rw [ys]), k285]
        have ml : (if nI s < nI lp then nI s else nI lp) = nI (min lp s) := by
          by_cases z : s < lp
          · rw [if_pos (nI_lt z (by omega)), Nat.min_eq_right (by omega)]
          · rw [if_neg (fun q => by have := nI_le (a := lp) (b := s) (by omega) (by omega); exact absurd q (Int32.not_lt.mpr this)), Nat.min_eq_left (by omega)]
        rw [ml]
        have e2 : OE cA (upI (upI cA 278 (upd (cA.1 278) s (nI (min (low s) (num y))))) 285 (fun _ => nI (min lp s))) := (Eb.rfl.upI (by decide)).upI (by decide)
        refine ⟨_, num, updN low s (min (low s) (num y)), s :: P', O, updN cu s k', seen, min lp s, ord, rfl, e1.trans e2, ⟨nA.keep e2, T2, hLI.see q4 hs pe (by rw [if_pos ys]) (by omega), hOI, ⟨⟨P1, P2⟩, ⟨O1, O2⟩, N1, L2, U1, S1, rfl, Nat.le_trans (Nat.min_le_left _ _) LP2, R1, R2, K1⟩⟩, ph, fun v hv => hv⟩
      · rw [if_neg (fun q => ys ((nI_eq (by omega) (by omega)).mp q))]
        have e2 : OE cA (upI cA 278 (upd (cA.1 278) s (nI (min (low s) (num y))))) := Eb.rfl.upI (by decide)
        refine ⟨_, num, updN low s (min (low s) (num y)), s :: P', O, updN cu s k', seen, lp, ord, rfl, e1.trans e2, ⟨nA.keep e2, T2, hLI.see q4 hs pe (by rw [if_neg ys]) (by omega), hOI, ⟨⟨P1, P2⟩, ⟨O1, O2⟩, N1, L2, U1, S1, LP1, LP2, R1, R2, K1⟩⟩, ph, fun v hv => hv⟩
  · rw [q2, obind]
    dsimp only
    rw [if_pos rfl]
    obtain ⟨c2, num', low', O', lp', ord', x1, x2, x3, x4, x5, x6, x7⟩ := leave_O (N := N) hN hn hdn hT hLI hOI hC q1
    rw [x1, obind]
    refine ⟨c2, num', low', P', O', cu, seen, lp', ord', rfl, x2, ⟨hn.keep x2, x3, x4, x5, x6⟩, ?_, fun v hv q => hv ((x7 v).mp q)⟩
    unfold Phi
    refine sumF_lt (p := s) (fun v _ _ => ?_) (Nat.zero_le _) (by omega) ?_
    · by_cases q : num v = 0
      · rw [if_pos q, if_pos ((x7 v).mpr q)]
        exact Nat.le_refl _
      · rw [if_neg q, if_neg (fun w => q ((x7 v).mp w))]
        by_cases w : v ∈ P'
        · rw [if_pos w, if_pos (List.mem_cons_of_mem _ w)]
          exact Nat.le_refl _
        · rw [if_neg w]
          exact Nat.zero_le _
    · rw [if_neg sn, if_neg (fun w => sn ((x7 s).mp w)), if_neg sP, if_pos List.mem_cons_self]
      omega
theorem visit_L (hN : 20000 < N) (hdn : ∀ v y, v < ns → y ∈ dpn len src ld v → y < ns) : ∀ (B x F : Nat) (c : ms) (num low : Nat → Nat) (P O : List Nat) (cu : Nat → Nat) (seen lp : Nat) (ord : List Nat), OSt c ns sz a len src ld num low P O cu seen lp ord → Phi ns len src num P cu ≤ B → x + B < 16777216 → B < F → ∃ c' num' low' cu' seen' lp' ord', hd_Order_visit_Or_7 N F (nI x) c = some ((), c') ∧ OE c c' ∧ OSt c' ns sz a len src ld num' low' [] [] cu' seen' lp' ord' ∧ (∀ v, num v ≠ 0 → num' v ≠ 0) := by
  intro B
  induction B with
  | zero =>
    intro x F c num low P O cu seen lp ord h hB hx hF
    obtain ⟨F, rfl⟩ : ∃ F', F = F' + 1 := ⟨F - 1, by omega⟩
    cases P with
    | nil =>
      have O0 : O = [] := by
        cases O with
        | nil => rfl
        | cons v l =>
          obtain ⟨p, p1, -⟩ := h.2.1.2.2.2.2.2.2.2.2.2 v List.mem_cons_self
          exact absurd p1 List.not_mem_nil
      subst O0
      refine ⟨c, num, low, cu, seen, lp, ord, ?_, Eb.rfl, h, fun v hv => hv⟩
      show bd_Order_visit_Or_7 N (hd_Order_visit_Or_7 N F) (nI x) c = _
      unfold bd_Order_visit_Or_7
      rw [h.2.2.2.2.1.1, if_neg (show ¬ (16777216 : Int32) ≤ nI x from nI_ge (b := 16777216) (by omega) (by omega)), if_pos (show nI ([] : List Nat).length ≤ 0 by decide)]
    | cons s P' =>
      obtain ⟨c2, num2, low2, P2, O2, cu2, seen2, lp2, ord2, -, -, -, y4, -⟩ := move_O (N := N) (F := F) hN hdn h (show x < 16777216 by omega)
      omega
  | succ B ih =>
    intro x F c num low P O cu seen lp ord h hB hx hF
    obtain ⟨F, rfl⟩ : ∃ F', F = F' + 1 := ⟨F - 1, by omega⟩
    cases P with
    | nil =>
      have O0 : O = [] := by
        cases O with
        | nil => rfl
        | cons v l =>
          obtain ⟨p, p1, -⟩ := h.2.1.2.2.2.2.2.2.2.2.2 v List.mem_cons_self
          exact absurd p1 List.not_mem_nil
      subst O0
      refine ⟨c, num, low, cu, seen, lp, ord, ?_, Eb.rfl, h, fun v hv => hv⟩
      show bd_Order_visit_Or_7 N (hd_Order_visit_Or_7 N F) (nI x) c = _
      unfold bd_Order_visit_Or_7
      rw [h.2.2.2.2.1.1, if_neg (show ¬ (16777216 : Int32) ≤ nI x from nI_ge (b := 16777216) (by omega) (by omega)), if_pos (show nI ([] : List Nat).length ≤ 0 by decide)]
    | cons s P' =>
      obtain ⟨c2, num2, low2, P2, O2, cu2, seen2, lp2, ord2, y1, y2, y3, y4, y5⟩ := move_O (N := N) (F := F) hN hdn h (show x < 16777216 by omega)
      obtain ⟨c3, num3, low3, cu3, seen3, lp3, ord3, z1, z2, z3, z4⟩ := ih (x + 1) F c2 num2 low2 P2 O2 cu2 seen2 lp2 ord2 y3 (by omega) (by omega) (by omega)
      exact ⟨c3, num3, low3, cu3, seen3, lp3, ord3, by rw [y1]; exact z1, y2.trans z2, z3, fun v hv => z4 v (y5 v hv)⟩
theorem visit_O {v : Nat} (hN : 20000000 < N) (hdn : ∀ v y, v < ns → y ∈ dpn len src ld v → y < ns) (h : OSt c ns sz a len src ld num low [] [] cu seen lp ord) (hv : v < ns) (h0 : num v = 0) : ∃ c' num' low' cu' seen' lp' ord', fn_Order_visit_Or N (nI v) c = some ((), c') ∧ OE c c' ∧ OSt c' ns sz a len src ld num' low' [] [] cu' seen' lp' ord' ∧ (∀ v, num v ≠ 0 → num' v ≠ 0) ∧ num' v ≠ 0 := by
  obtain ⟨hn, hT, hLI, hOI, hC⟩ := h
  obtain ⟨n1, n2, n3, n4, n5⟩ := id hn
  obtain ⟨c1, x1, x2, x3, x4⟩ := enter_O (N := N) (y := v) hn hT hC hv h0
  have cl : CL = 1073741824 := rfl
  have pe : ∀ u, u ∈ [v] → ∀ zz, pdf src ld (updN cu v 0) u zz ↔ ((u ≠ v ∧ pdf src ld cu u zz) ∨ (([] : List Nat).head? = some u ∧ zz = v)) := fun u hu zz => by
    have : u = v := List.mem_singleton.mp hu
    subst this
    exact ⟨fun q => absurd q (pdf_0 (by unfold updN; rw [if_pos rfl])), fun q => q.elim (fun q => absurd rfl q.1) (fun q => by cases q.1)⟩
  have S1 : OSt c1 ns sz a len src ld (updN num v (seen + 1)) (updN low v (seen + 1)) [v] [v] (updN cu v 0) (seen + 1) lp ord := ⟨hn.keep x2, hT.enter hv h0 (by omega) (fun s' hs' => by cases hs') pe, hLI.enter hT h0 (by omega) pe, hOI.enter h0 (by omega), x3⟩
  have ph : Phi ns len src (updN num v (seen + 1)) [v] (updN cu v 0) ≤ ns * 16002 := by
    unfold Phi
    refine sumF_le (fun d _ hd => ?_)
    have : lnw len src d ≤ 16000 := by
      unfold lnw
      split
      · omega
      · have := (n5 d (by omega)).2.2.1; omega
    split
    · omega
    · split <;> omega
  have pb : ns * 16002 ≤ 1024 * 16002 := Nat.mul_le_mul_right _ n2
  obtain ⟨B, hB⟩ : ∃ B, B = 1024 * 16002 := ⟨_, rfl⟩
  rw [← hB] at pb
  obtain ⟨c2, num2, low2, cu2, seen2, lp2, ord2, y1, y2, y3, y4⟩ := visit_L (N := N) (by omega) hdn B 0 N c1 _ _ _ _ _ _ _ _ S1 (Nat.le_trans ph pb) (by omega) (by omega)
  refine ⟨c2, num2, low2, cu2, seen2, lp2, ord2, ?_, x2.trans y2, y3, fun u hu => y4 u ?_, y4 v ?_⟩
  · unfold fn_Order_visit_Or
    rw [x1, obind]
    exact y1
  · unfold updN
    split
    · omega
    · exact hu
  · unfold updN
    rw [if_pos rfl]
    omega
theorem arr_L (hN : 20000000 < N) (hdn : ∀ v y, v < ns → y ∈ dpn len src ld v → y < ns) : ∀ (k x F : Nat) (c : ms) (num low : Nat → Nat) (cu : Nat → Nat) (seen lp : Nat) (ord : List Nat), x + k = ns → k < F → OSt c ns sz a len src ld num low [] [] cu seen lp ord → (∀ v, v < x → num v ≠ 0) → ∃ c' num' low' cu' seen' lp' ord', hd_Order_arrange_Or_Cs_62 N F (nI x) c = some ((if lp' = CL then -1 else nI lp'), c') ∧ OE c c' ∧ OSt c' ns sz a len src ld num' low' [] [] cu' seen' lp' ord' ∧ (∀ v, v < ns → num' v ≠ 0) := by
  intro k
  induction k with
  | zero =>
    intro x F c num low cu seen lp ord hk hF h hv
    obtain ⟨F, rfl⟩ : ∃ F', F = F' + 1 := ⟨F - 1, by omega⟩
    have n1 := h.1.1
    have n2 := h.1.2.1
    obtain ⟨-, -, -, -, -, -, lp1, lp2, -⟩ := h.2.2.2.2
    have cl : CL = 1073741824 := rfl
    refine ⟨c, num, low, cu, seen, lp, ord, ?_, Eb.rfl, h, fun v hv' => hv v (by omega)⟩
    show bd_Order_arrange_Or_Cs_62 N (hd_Order_arrange_Or_Cs_62 N F) (nI x) c = _
    unfold bd_Order_arrange_Or_Cs_62
    rw [n1, if_pos (nI_le (by omega) (by omega)), lp1]
    by_cases z : lp = CL
    · rw [if_pos z, z, if_pos (show nI CL = 1073741824 from rfl)]
    · rw [if_neg z, if_neg (show ¬ nI lp = 1073741824 from fun q => z ((nI_eq (b := 1073741824) (by omega) (by omega)).mp q))]
  | succ k ih =>
    intro x F c num low cu seen lp ord hk hF h hv
    obtain ⟨F, rfl⟩ : ∃ F', F = F' + 1 := ⟨F - 1, by omega⟩
    have n1 := h.1.1
    have n2 := h.1.2.1
    have n277 : c.1 277 x = nI (num x) := h.2.2.2.2.2.2.1 x (by omega)
    have body : hd_Order_arrange_Or_Cs_62 N (F + 1) (nI x) c = bd_Order_arrange_Or_Cs_62 N (hd_Order_arrange_Or_Cs_62 N F) (nI x) c := rfl
    rw [body]
    unfold bd_Order_arrange_Or_Cs_62
    rw [n1, if_neg (nI_ge (by omega) (by omega)), if_neg (nI_in (show x < 1024 by omega) (by decide)), nI_clamp (by omega), n277, nI_1]
    by_cases z : num x = 0
    · obtain ⟨c1, num1, low1, cu1, seen1, lp1, ord1, y1, y2, y3, y4, y5⟩ := visit_O (N := N) hN hdn h (show x < ns by omega) z
      rw [z, if_pos (show nI 0 = 0 from rfl), y1, obind]
      obtain ⟨c2, num2, low2, cu2, seen2, lp2, ord2, z1, z2, z3, z4⟩ := ih (x + 1) F c1 num1 low1 cu1 seen1 lp1 ord1 (by omega) (by omega) y3 (fun v hv' => by
        by_cases w : v = x
        · rw [w]; exact y5
        · exact y4 v (hv v (by omega)))
      exact ⟨c2, num2, low2, cu2, seen2, lp2, ord2, z1, y2.trans z2, z3, z4⟩
    · have nb : num x ≤ CL := by
        obtain ⟨⟨a1, a2, a3⟩, -⟩ := h.2.1
        by_cases w : num x = CL
        · omega
        · exact absurd ((a1 x (by omega)).mpr ⟨by omega, w⟩) List.not_mem_nil
      have cl : CL = 1073741824 := rfl
      rw [if_neg (show ¬ nI (num x) = 0 from fun q => z ((nI_eq (b := 0) (by omega) (by omega)).mp q))]
      obtain ⟨c2, num2, low2, cu2, seen2, lp2, ord2, z1, z2, z3, z4⟩ := ih (x + 1) F c num low cu seen lp ord (by omega) (by omega) h (fun v hv' => by
        by_cases w : v = x
        · rw [w]; exact z
        · exact hv v (by omega))
      exact ⟨c2, num2, low2, cu2, seen2, lp2, ord2, z1, z2, z3, z4⟩
theorem arr0_L (h293 : c.1 293 0 = nI ns) (hns : ns ≤ 1024) : ∀ (k x F : Nat) (c : ms), c.1 293 0 = nI ns → x + k = ns → k < F → (∀ v, v < x → c.1 277 v = nI 0) → ∃ c', hd_Order_arrange_Or_Cs_15 N F (nI x) c = hd_Order_arrange_Or_Cs_62 N N (nI 0) (upI (upI (upI (upI c' 282 (fun _ => 0)) 283 (fun _ => 0)) 284 (fun _ => 0)) 285 (fun _ => 1073741824)) ∧ Eb [277] [] c c' ∧ ∀ v, v < ns → c'.1 277 v = nI 0 := by
  intro k
  induction k with
  | zero =>
    intro x F c h hk hF hv
    obtain ⟨F, rfl⟩ : ∃ F', F = F' + 1 := ⟨F - 1, by omega⟩
    refine ⟨c, ?_, Eb.rfl, fun v hv' => hv v (by omega)⟩
    show bd_Order_arrange_Or_Cs_15 N (hd_Order_arrange_Or_Cs_15 N F) (nI x) c = _
    unfold bd_Order_arrange_Or_Cs_15
    rw [h, if_pos (nI_le (by omega) (by omega))]
    rfl
  | succ k ih =>
    intro x F c h hk hF hv
    obtain ⟨F, rfl⟩ : ∃ F', F = F' + 1 := ⟨F - 1, by omega⟩
    obtain ⟨c', y1, y2, y3⟩ := ih (x + 1) F (upI c 277 (upd (c.1 277) x 0)) h (by omega) (by omega) (fun v hv' => by
      show upd (c.1 277) x 0 v = _
      by_cases z : v = x
      · subst z; rw [upd_at]; rfl
      · rw [upd_ne z]; exact hv v (by omega))
    refine ⟨c', ?_, (Eb.rfl.upI (by decide)).trans y2, y3⟩
    show bd_Order_arrange_Or_Cs_15 N (hd_Order_arrange_Or_Cs_15 N F) (nI x) c = _
    unfold bd_Order_arrange_Or_Cs_15
    rw [h, if_neg (nI_ge (by omega) (by omega)), if_neg (nI_in (show x < 1024 by omega) (by decide)), nI_clamp (by omega), nI_1]
    exact y1
/-- the class's order -/
theorem arrange_C (hN : 20000000 < N) (hn : Nt c ns sz a len src ld) (hdn : ∀ v y, v < ns → y ∈ dpn len src ld v → y < ns) : ∃ c' r, fn_Order_arrange_Or_Cs N c = some (r, c') ∧ OE c c' ∧ ((r = -1 ∧ (∀ v, v < ns → ¬ Cy (dpn len src ld) v) ∧ ∃ ord : List Nat, c'.1 304 0 = nI ord.length ∧ (∀ k o, ord[k]? = some o → c'.1 303 k = nI o) ∧ ord.Nodup ∧ (∀ v, v ∈ ord ↔ v < ns ∧ tld len src v = true) ∧ TO (dpn len src ld) (tld len src) ord) ∨ ∃ lp, r = nI lp ∧ lp < ns ∧ Cy (dpn len src ld) lp ∧ ∀ v, v < ns → Cy (dpn len src ld) v → lp ≤ v) := by
  have cl : CL = 1073741824 := rfl
  obtain ⟨n1, n2, -⟩ := id hn
  obtain ⟨c1, y1, y2, y3⟩ := arr0_L (N := N) (ns := ns) (c := c) n1 n2 ns 0 N (upI c 304 (fun _ => 0)) n1 (by omega) (by omega) (fun v hv => by omega)
  have e1 : OE c (upI (upI (upI (upI c1 282 (fun _ => 0)) 283 (fun _ => 0)) 284 (fun _ => 0)) 285 (fun _ => 1073741824)) := (((((Eb.rfl.upI (by decide) : OE c (upI c 304 (fun _ => 0))).trans (y2.mono (by decide) (by decide))).upI (by decide)).upI (by decide)).upI (by decide)).upI (by decide)
  have r304 : (upI (upI (upI (upI c1 282 (fun _ => 0)) 283 (fun _ => 0)) 284 (fun _ => 0)) 285 (fun _ => 1073741824)).1 304 0 = nI ([] : List Nat).length := by
    show c1.1 304 0 = _
    rw [y2.1 304 (by decide)]
    rfl
  have S0 : OSt (upI (upI (upI (upI c1 282 (fun _ => 0)) 283 (fun _ => 0)) 284 (fun _ => 0)) 285 (fun _ => 1073741824)) ns sz a len src ld (fun _ => 0) (fun _ => 0) [] [] (fun _ => 0) 0 CL [] := by
    refine ⟨hn.keep e1, ⟨⟨fun v hv => ⟨fun z => absurd z List.not_mem_nil, fun z => absurd z.1 (Nat.lt_irrefl _)⟩, fun v z => absurd z List.not_mem_nil, by decide⟩, ⟨List.Pairwise.nil, List.Pairwise.nil, fun p z => absurd z List.not_mem_nil⟩, trivial, fun v _ z => (by cases z), fun p z => absurd z List.not_mem_nil, fun v z => absurd z List.not_mem_nil, fun v z => absurd z List.not_mem_nil, fun v z => absurd z List.not_mem_nil, fun v z => absurd z List.not_mem_nil, fun v z => absurd z List.not_mem_nil⟩, ⟨fun z => absurd rfl z, fun v _ z => (by cases z), fun v z => absurd z List.not_mem_nil⟩, ⟨fun v => ⟨fun z => absurd z List.not_mem_nil, fun z => (by cases z.2.1)⟩, List.Pairwise.nil, fun _ a v b e => ?_⟩, ⟨⟨rfl, trivial⟩, ⟨rfl, trivial⟩, y3, fun v z => absurd z List.not_mem_nil, fun v z => absurd z List.not_mem_nil, rfl, rfl, Nat.le_refl _, r304, fun k o z => (by cases z), ?_⟩⟩
    · have := congrArg List.length e
      rw [List.length_append] at this
      have : 0 = a.length + (b.length + 1) := this
      omega
    · have := sumF_le (f := fun v => if (fun _ : Nat => 0) v = 0 then 0 else 1) (b := 0) (n := ns) (a := 0) (fun d _ _ => by rw [if_pos rfl]; exact Nat.le_refl _)
      unfold cnt
      omega
  obtain ⟨c2, num2, low2, cu2, seen2, lp2, ord2, z1, z2, z3, z4⟩ := arr_L (N := N) hN hdn ns 0 N _ _ _ _ _ _ _ (by omega) (by omega) S0 (fun v hv => by omega)
  obtain ⟨hn2, hT, hLI, hOI, hC⟩ := z3
  have all : ∀ v, v < ns → num2 v = CL := fun v hv => by
    by_cases w : num2 v = CL
    · exact w
    · have := z4 v hv
      exact absurd ((hT.1.1 v hv).mpr ⟨by omega, w⟩) List.not_mem_nil
  refine ⟨c2, if lp2 = CL then -1 else nI lp2, ?_, e1.trans z2, ?_⟩
  · unfold fn_Order_arrange_Or_Cs
    exact y1.trans z1
  · by_cases w : lp2 = CL
    · have nc : ∀ v, v < ns → ¬ Cy (dpn len src ld) v := fun v hv q => by
        have := hLI.2.1 v hv (all v hv) q
        omega
      refine Or.inl ⟨by rw [if_pos w], nc, ord2, hC.2.2.2.2.2.2.2.2.1, hC.2.2.2.2.2.2.2.2.2.1, hOI.2.1, fun v => ?_, hOI.2.2 nc⟩
      rw [hOI.1 v]
      exact ⟨fun q => ⟨q.1, q.2.2⟩, fun q => ⟨q.1, all v q.1, q.2⟩⟩
    · obtain ⟨q1, q2⟩ := hLI.1 w
      exact Or.inr ⟨lp2, by rw [if_neg w], q1, q2, fun v hv q => hLI.2.1 v hv (all v hv) q⟩
end ORD4
