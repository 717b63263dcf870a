/-! Settling: along the order, and the class. -/
/-- settled so far -/
def PS (A : ds) (L : Nat → ly) (n : Nat) (ord : List Nat) (V V0 : Nat → Int64) (k : Nat) : Prop := (∀ x, x ∉ ord.take k → V x = V0 x) ∧ ∀ x, x ∈ ord.take k → V x = rval A L V (RS A L n x)
/-- an order of the told signals -/
def Od (A : ds) (L : Nat → ly) (n ns : Nat) (ord : List Nat) : Prop := ord.Nodup ∧ (∀ x, x ∈ ord ↔ x < ns ∧ (RS A L n x).1 ≠ 0) ∧ TO (dl A L n) (fun x => decide ((RS A L n x).1 ≠ 0)) ord
theorem two_of {k : Nat} (h : k ≤ 2) (h0 : k ≠ 0) (h1 : k ≠ 1) : k = 2 := by omega
section CSOL
variable {tk : Nat → Nat} {nt t : Nat} {A : ds} {L : Nat → ly} {n ns : Nat} {V V0 : Nat → Int64} {ord : List Nat}
theorem Od.split {k o : Nat} (hO : Od A L n ns ord) (ho : ord[k]? = some o) : ord = ord.take k ++ o :: ord.drop (k + 1) ∧ o ∉ ord.take k ∧ ord.take (k + 1) = ord.take k ++ [o] ∧ (∀ y, y ∈ dl A L n o → (RS A L n y).1 ≠ 0 → y ∈ ord.take k) ∧ o < ns ∧ (RS A L n o).1 ≠ 0 ∧ k < ord.length := by
  obtain ⟨hk, hz⟩ := List.getElem?_eq_some_iff.mp ho
  have e : ord = ord.take k ++ o :: ord.drop (k + 1) := by
    rw [← hz, List.getElem_cons_drop, List.take_append_drop]
  have nd := hO.1
  rw [e] at nd
  obtain ⟨-, -, n3⟩ := List.nodup_append.mp nd
  refine ⟨e, fun q => n3 o q o List.mem_cons_self rfl, by rw [List.take_succ, ho]; rfl, fun y hy z => hO.2.2 _ o _ e y hy (decide_eq_true z), ((hO.2.1 o).mp (List.mem_of_getElem? ho)).1, ((hO.2.1 o).mp (List.mem_of_getElem? ho)).2, hk⟩
theorem PS.next {k o : Nat} (hO : Od A L n ns ord) (ho : ord[k]? = some o) (h : PS A L n ord V V0 k) : PS A L n ord (vp_updL V o (rval A L V (RS A L n o))) V0 (k + 1) := by
  obtain ⟨e, e1, e2, e3, e4, e5, e6⟩ := hO.split ho
  -- what is settled does not need the one that comes
  have dep : ∀ x, x ∈ ord.take (k + 1) → ∀ y, y ∈ dl A L n x → y ≠ o := by
    intro x hx y hy z
    subst z
    obtain ⟨i, hi⟩ := List.getElem?_of_mem hx
    have hi2 : i < k + 1 := by
      have := (List.getElem?_eq_some_iff.mp hi).1
      rw [List.length_take] at this
      omega
    have hi3 : ord[i]? = some x := by rw [List.getElem?_take, if_pos hi2] at hi; exact hi
    obtain ⟨-, -, -, f3, -⟩ := hO.split hi3
    have : y ∈ ord.take i := f3 y hy e5
    exact e1 ((List.take_subset_take_left ord (show i ≤ k by omega)) this)
  have cong : ∀ x, x ∈ ord.take (k + 1) → rval A L (vp_updL V o (rval A L V (RS A L n o))) (RS A L n x) = rval A L V (RS A L n x) := fun x hx => by
    have hm : x ∈ ord := List.mem_of_mem_take hx
    exact rval_congr ((hO.2.1 x).mp hm).2 Ru_le (fun y hy => updL_ne (dep x hx y hy))
  refine ⟨fun x hx => ?_, fun x hx => ?_⟩
  · rw [e2] at hx
    have hx1 : x ∉ ord.take k := fun z => hx (List.mem_append_left _ z)
    have hx2 : x ≠ o := fun z => hx (List.mem_append_right _ (List.mem_singleton.mpr z))
    rw [updL_ne hx2]
    exact h.1 x hx1
  · rw [cong x hx]
    rw [e2] at hx
    rcases List.mem_append.mp hx with q | q
    · have : x ≠ o := fun z => e1 (by rw [← z]; exact q)
      rw [updL_ne this]
      exact h.2 x q
    · have : x = o := List.mem_singleton.mp q
      subst this
      rw [updL_at]
theorem PS.sol (hO : Od A L n ns ord) (h : PS A L n ord V V0 ord.length) : Sol A L n ns V V0 := fun x hx => by
  rw [PS, List.take_length] at h
  exact ⟨fun z => h.1 x (fun q => ((hO.2.1 x).mp q).2 z), fun z => h.2 x ((hO.2.1 x).mpr ⟨hx, z⟩)⟩
end CSOL
/-- the class's circuit that stands: signals, rules and their order -/
def CCs (A : ds) (L : Nat → ly) (n ns : Nat) (lit : Nat → Int64) (lc sz : Nat) (row : Nat → Int64) (ord : List Nat) (c : ms) : Prop := Cst c sz lc row lit ∧ c.1 343 0 = nI ns ∧ ns ≤ 1024 ∧ c.1 354 0 = nI ord.length ∧ (∀ k o, ord[k]? = some o → c.1 353 k = nI o) ∧ ∀ x, x < ns → ((RS A L n x).1 = 1 → c.1 352 x = -1 ∧ c.1 351 x = nI (L (RS A L n x).2.1).2.1 ∧ ∃ a, c.1 349 x = nI a ∧ c.1 350 x = nI (a + (RS A L n x).2.2.1.length) ∧ a + (RS A L n x).2.2.1.length ≤ sz ∧ cEnc row (A.1 21 (L (RS A L n x).2.1).1) lit lc a (RS A L n x).2.2.1) ∧ ((RS A L n x).1 = 2 → c.1 352 x = nI (RS A L n x).2.2.2)
section CSET
variable {tk : Nat → Nat} {nt t : Nat} {A : ds} {L : Nat → ly} {n ns N lc sz : Nat} {lit row : Nat → Int64} {V V0 : Nat → Int64} {ord : List Nat} {c c' : ms}
theorem CCs.keep {js : List Nat} {ks : List Nat} (h : CCs A L n ns lit lc sz row ord c) (e : Eb ks js c c') (hk : ∀ k, k ∈ [343, 349, 350, 351, 352, 353, 354, 387, 390] → k ∉ ks) (hj : ∀ k, k ∈ [386, 389] → k ∉ js) : CCs A L n ns lit lc sz row ord c' := by
  unfold CCs Cst at *
  rw [e.1 343 (hk _ (by decide)), e.1 349 (hk _ (by decide)), e.1 350 (hk _ (by decide)), e.1 351 (hk _ (by decide)), e.1 352 (hk _ (by decide)), e.1 353 (hk _ (by decide)), e.1 354 (hk _ (by decide)), e.1 387 (hk _ (by decide)), e.1 390 (hk _ (by decide)), e.2 386 (hj _ (by decide)), e.2 389 (hj _ (by decide))]
  exact h
/-- an exp of an instance, run -/
theorem exp_run_C {j : Nat} {l : List aop} {w a : Nat} (hN : 20000 < N) (hJ : JB A) (hL : Ly A L n ns) (hns : ns ≤ 1024) (hj : j < n) (hX : XG A (L j).1 l w) (hc : Cst c sz lc row lit) (ha : a + l.length ≤ sz) (hE : cEnc row (A.1 21 (L j).1) lit lc a l) : ∃ c', fn_Machine_run_Ma_Kc N (nI a) (nI (a + l.length)) (nI (L j).2.1) c = some (xval (ev A L (c.2 286) j) l, c') ∧ Eb [] [287, 288] c c' := by
  have hl := hL.2.2.2 j hj
  have rt : Rt (cS row (A.1 21 (L j).1) lit lc (fun d => A.1 21 (L j).1 ≤ d ∧ d - A.1 21 (L j).1 < own A (L j).1) (ev A L (c.2 286) j)) (a, [], fun d => c.2 287 ((L j).2.1 + (d - A.1 21 (L j).1))) (a + l.length, [xval (ev A L (c.2 286) j) l], fun d => c.2 287 ((L j).2.1 + (d - A.1 21 (L j).1))) :=
    hE.val hX.2 hX.1.le hX.1.ob (fun o ho k => by
      obtain ⟨i, w', q⟩ := hX.1.ld o ho k
      obtain ⟨n1, n2, -⟩ := hJ.nms hl.1 q
      exact ⟨n1, n2⟩) (Nat.zero_le _)
  obtain ⟨c', e1, e2, e3, -⟩ := run_C (N := N) (fr := (L j).2.1) hN hc (by omega) ha ⟨trivial, fun d hd => ⟨hd.1, by have := hL.lt hJ hj hd.2; omega, rfl, rfl⟩⟩ rt
  refine ⟨c', ?_, e3⟩
  rw [e1]
  congr 2
  exact e2.1.1
theorem settle_L (hN : 20000 < N) (hJ : JB A) (hWF : WF tk nt A t) (hL : Ly A L n ns) (hO : Od A L n ns ord) : ∀ (m k F : Nat) (c : ms), k + m = ord.length → m < F → CCs A L n ns lit lc sz row ord c → PS A L n ord (c.2 286) V0 k → ∃ c', hd_Machine_settle_Ma_Cc_18 N F (nI k) c = some ((), c') ∧ Eb [290] [286, 287, 288] c c' ∧ c'.1 290 0 = 1 ∧ PS A L n ord (c'.2 286) V0 ord.length := by
  intro m
  induction m with
  | zero =>
    intro k F c hk hF hC hP
    obtain ⟨F, rfl⟩ : ∃ F', F = F' + 1 := ⟨F - 1, by omega⟩
    obtain rfl : k = ord.length := by omega
    have h354 := hC.2.2.2.1
    have hlen : ord.length ≤ 1024 := by
      have := nodup_len hO.1 (fun x hx => ((hO.2.1 x).mp hx).1)
      have := hC.2.2.1
      omega
    show ∃ c', bd_Machine_settle_Ma_Cc_18 N (hd_Machine_settle_Ma_Cc_18 N F) (nI ord.length) c = _ ∧ _
    unfold bd_Machine_settle_Ma_Cc_18
    rw [h354, if_pos (nI_le (Nat.le_refl _) (by omega))]
    exact ⟨_, rfl, Eb.rfl.upI (by decide), rfl, hP⟩
  | succ m ih =>
    intro k F c hk hF hC hP
    obtain ⟨F, rfl⟩ : ∃ F', F = F' + 1 := ⟨F - 1, by omega⟩
    obtain ⟨h0, h343, hns, h354, h353, hR⟩ := id hC
    have hlen : ord.length ≤ 1024 := by
      have := nodup_len hO.1 (fun x hx => ((hO.2.1 x).mp hx).1)
      omega
    obtain ⟨o, ho⟩ : ∃ o, ord[k]? = some o := ⟨_, List.getElem?_eq_getElem (show k < ord.length by omega)⟩
    obtain ⟨-, e1, e2, e3, e4, e5, e6⟩ := hO.split ho
    have hP2 := hP.next hO ho
    obtain ⟨r1, r2, -⟩ := rule_ok hJ hWF hL e4
    have le : (RS A L n o).1 ≤ 2 := Ru_le
    obtain ⟨q1, q2⟩ := hR o e4
    show ∃ c', bd_Machine_settle_Ma_Cc_18 N (hd_Machine_settle_Ma_Cc_18 N F) (nI k) c = _ ∧ _
    unfold bd_Machine_settle_Ma_Cc_18
    rw [h354, if_neg (nI_ge (show k < ord.length by omega) (by omega)), if_neg (nI_in (show k < 1024 by omega) (by decide)), nI_clamp (show k < 2 ^ 31 by omega), h353 k o ho]
    have io : o < 1024 := by omega
    by_cases z : (RS A L n o).1 = 1
    · obtain ⟨g1, g2⟩ := r1 z
      obtain ⟨p1, p2, a, p3, p4, p5, p6⟩ := q1 z
      obtain ⟨c1, d1, d2⟩ := exp_run_C (N := N) hN hJ hL hns g1 g2 h0 p5 p6
      simp only [if_neg (nI_in io (by decide)), nI_clamp (show o < 2 ^ 31 by omega), if_neg (nI_in2 io (show 1024 < 2 ^ 31 by decide)), p1, if_true, p2, p3, p4]
      rw [d1, obind]
      dsimp only
      rw [d2.2 286 (by decide), nI_1]
      have C1 : CCs A L n ns lit lc sz row ord (upJ c1 286 (vp_updL (c.2 286) o (xval (ev A L (c.2 286) (RS A L n o).2.1) (RS A L n o).2.2.1))) := (hC.keep d2 (by decide) (by decide)).keep (Eb.rfl.upJ (ks := []) (js := [286]) (by decide)) (by decide) (by decide)
      have P1 : PS A L n ord ((upJ c1 286 (vp_updL (c.2 286) o (xval (ev A L (c.2 286) (RS A L n o).2.1) (RS A L n o).2.2.1))).2 286) V0 (k + 1) := by
        show PS A L n ord (vp_updL (c.2 286) o (xval (ev A L (c.2 286) (RS A L n o).2.1) (RS A L n o).2.2.1)) V0 (k + 1)
        unfold rval at hP2
        rw [if_pos z] at hP2
        exact hP2
      obtain ⟨c', f1, f2, f3, f4⟩ := ih (k + 1) F _ (by omega) (by omega) C1 P1
      refine ⟨c', f1, ?_, f3, f4⟩
      refine Eb.trans (Eb.upJ (d2.mono (ks' := [290]) (js' := [286, 287, 288]) (by decide) (by decide)) (by decide)) f2
    · have z2 : (RS A L n o).1 = 2 := two_of le e5 z
      have p1 := q2 z2
      have p2 := r2 z2
      have iy : (RS A L n o).2.2.2 < 1024 := by omega
      have ne : nI (RS A L n o).2.2.2 ≠ -1 := nI_no1 (by omega)
      simp only [if_neg (nI_in io (by decide)), nI_clamp (show o < 2 ^ 31 by omega), if_neg (nI_in2 io (show 1024 < 2 ^ 31 by decide)), p1, if_neg ne, if_neg (nI_in iy (by decide)), nI_clamp (show (RS A L n o).2.2.2 < 2 ^ 31 by omega), if_neg (nI_in2 iy (show 1024 < 2 ^ 31 by decide)), nI_1]
      have C1 : CCs A L n ns lit lc sz row ord (upJ c 286 (vp_updL (c.2 286) o (c.2 286 (RS A L n o).2.2.2))) := hC.keep (Eb.rfl.upJ (ks := []) (js := [286]) (by decide)) (by decide) (by decide)
      have P1 : PS A L n ord ((upJ c 286 (vp_updL (c.2 286) o (c.2 286 (RS A L n o).2.2.2))).2 286) V0 (k + 1) := by
        show PS A L n ord (vp_updL (c.2 286) o (c.2 286 (RS A L n o).2.2.2)) V0 (k + 1)
        unfold rval at hP2
        rw [if_neg z] at hP2
        exact hP2
      obtain ⟨c', f1, f2, f3, f4⟩ := ih (k + 1) F _ (by omega) (by omega) C1 P1
      exact ⟨c', f1, Eb.trans (Eb.rfl.upJ (by decide)) f2, f3, f4⟩
theorem settle_C (hN : 20000 < N) (hJ : JB A) (hWF : WF tk nt A t) (hL : Ly A L n ns) (hO : Od A L n ns ord) (hC : CCs A L n ns lit lc sz row ord c) (h0 : c.1 290 0 = 0) : ∃ c', fn_Machine_settle_Ma_Cc N c = some ((), c') ∧ Eb [290] [286, 287, 288] c c' ∧ c'.1 290 0 = 1 ∧ Sol A L n ns (c'.2 286) (c.2 286) := by
  have hlen : ord.length ≤ 1024 := by
    have := nodup_len hO.1 (fun x hx => ((hO.2.1 x).mp hx).1)
    have := hC.2.2.1
    omega
  obtain ⟨c', f1, f2, f3, f4⟩ := settle_L (N := N) (V0 := c.2 286) hN hJ hWF hL hO ord.length 0 N c (by omega) (by omega) hC ⟨fun _ _ => rfl, fun x hx => absurd hx (by simp)⟩
  refine ⟨c', ?_, f2, f3, f4.sol hO⟩
  unfold fn_Machine_settle_Ma_Cc
  rw [if_pos h0]
  exact f1
end CSET
