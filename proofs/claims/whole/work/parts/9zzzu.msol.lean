/-! Settling: the reference. -/
/-- the reference's circuit that stands -/
def MMs (A : ds) (L : Nat → ly) (n ns la nc cl nl : Nat) (ord : List Nat) (s : ms) : Prop := (s.1 91 0 = nI cl ∧ cl ≤ 200000 ∧ 3 * la ≤ cl ∧ s.1 92 0 = nI nl ∧ nc ≤ nl ∧ nl < 2 ^ 31) ∧ (s.1 63 0 = nI ns ∧ ns ≤ 1024 ∧ s.1 56 0 = nI n ∧ n ≤ 257) ∧ (s.1 71 0 = nI ord.length ∧ ∀ k o, ord[k]? = some o → s.1 70 k = nI o) ∧ MTb A la nc s ∧ Wi A L n s ∧ ∀ x, x < ns → Mr1 la nc s x (RS A L n x)
/-- what a signal that nothing tells is -/
def bas (A : ds) (L : Nat → ly) (n : Nat) (s : ms) (x : Nat) : Int64 := if A.1 2 (snm A L n x) = 0 then s.2 83 x else s.2 82 x
def lod (l : List aop) (d : Nat) : Bool := l.any (fun o => decide (o.1 = 1) && decide (o.2.1 = d))
theorem lod_iff {l : List aop} {d : Nat} : lod l d = true ↔ ∃ o, o ∈ l ∧ o.1 = 1 ∧ o.2.1 = d := by
  unfold lod
  rw [List.any_eq_true]
  constructor
  · intro h
    obtain ⟨o, h1, h2⟩ := h
    rw [Bool.and_eq_true] at h2
    exact ⟨o, h1, of_decide_eq_true h2.1, of_decide_eq_true h2.2⟩
  · intro h
    obtain ⟨o, h1, h2, h3⟩ := h
    exact ⟨o, h1, by rw [decide_eq_true h2, decide_eq_true h3]; rfl⟩
theorem nI_n0 {k : Nat} (h : ¬ k = 0) (h2 : k < 2 ^ 31) : ¬ nI k = 0 := fun q => h ((nI_eq (b := 0) h2 (by decide)).mp q)
theorem tS.res {nm nm' : Nat → Option (Nat × Nat)} {o : aop} {a b : List Nat} (h : o.1 = 1 → ∀ i w, nm i = some (o.2.1, w) → ∃ j, nm' j = some (o.2.1, w)) (g : tS nm o a b) : tS nm' o a b := by
  refine ⟨g.1, ?_⟩
  rcases g.2 with g | ⟨k, i, w, h1, h2⟩ | g
  · exact Or.inl g
  · obtain ⟨j, hj⟩ := h k i _ h1
    exact Or.inr (Or.inl ⟨k, j, w, hj, h2⟩)
  · exact Or.inr (Or.inr g)
theorem Ty.res {nm nm' : Nat → Option (Nat × Nat)} : ∀ {A : List aop} {a b : List Nat}, Ty nm A a b → (∀ o, o ∈ A → o.1 = 1 → ∀ i w, nm i = some (o.2.1, w) → ∃ j, nm' j = some (o.2.1, w)) → Ty nm' A a b
  | [], _, _, h, _ => h
  | o :: A, a, b, h, g => by
    obtain ⟨w1, h1, h2⟩ := h
    exact ⟨w1, h1.res (g o List.mem_cons_self), Ty.res h2 (fun p hp => g p (List.mem_cons_of_mem _ hp))⟩
/-- the names that an exp loads -/
def nmR (A : ds) (m : Nat) (l : List aop) (i : Nat) : Option (Nat × Nat) := (nmM A m i).bind (fun q => if lod l q.1 = true then some q else none)
theorem nmR_some {A : ds} {m : Nat} {l : List aop} {i : Nat} {q : Nat × Nat} (h : nmR A m l i = some q) : lod l q.1 = true ∧ nmM A m i = some q := by
  unfold nmR at h
  cases e : nmM A m i with
  | none => rw [e] at h; cases h
  | some q' =>
    rw [e] at h
    have h : (if lod l q'.1 = true then some q' else none) = some q := h
    split at h
    · rename_i z
      cases h
      exact ⟨z, rfl⟩
    · cases h
theorem nmR_ty {A : ds} {m : Nat} {l : List aop} {a b : List Nat} (h : Ty (nmM A m) l a b) : Ty (nmR A m l) l a b := h.res (fun o ho k i w' e => ⟨i, by
  unfold nmR
  rw [e]
  show (if lod l o.2.1 = true then _ else _) = _
  rw [if_pos (lod_iff.mpr ⟨o, ho, k, rfl⟩)]⟩)
theorem xval_fitR {A : ds} {m w : Nat} {l : List aop} {v : Nat → Int64} (hJ : JB A) (hm : m < A.1 46 0) (hX : XG A m l w) (hV : ∀ o, o ∈ l → o.1 = 1 → Fw (v o.2.1) (A.1 1 o.2.1)) : Fw (xval v l) w := by
  refine xval_fit (nm := nmR A m l) (fun i q hq => ?_) (nmR_ty hX.1) hX.2
  obtain ⟨z, e⟩ := nmR_some hq
  obtain ⟨o, o1, o2, o3⟩ := lod_iff.mp z
  rw [(hJ.nms hm e).2.2.2, ← o3]
  exact hV o o1 o2
section MSET
variable {tk : Nat → Nat} {nt t : Nat} {A : ds} {L : Nat → ly} {n ns N la nc cl nl : Nat} {V V0 : Nat → Int64} {ord : List Nat} {s s' : ms}
theorem MMs.keep {js ks : List Nat} (h : MMs A L n ns la nc cl nl ord s) (e : Eb ks js s s') (hk : ∀ k, k ∈ [12, 13, 14, 15, 16, 17, 18, 19, 20, 21, 23, 24, 25, 27, 28, 29, 30, 31, 32, 33, 34, 35, 36, 37, 38, 39, 40, 41, 56, 57, 58, 59, 60, 63, 64, 65, 66, 67, 68, 69, 70, 71, 91, 92] → k ∉ ks) (hj : ∀ k, k ∈ [22, 43, 45, 46, 47, 48] → k ∉ js) : MMs A L n ns la nc cl nl ord s' := by
  obtain ⟨h1, h2, h3, h4, h5, h6⟩ := h
  refine ⟨?_, ?_, ?_, h4.keep e (fun k q => hk k (by revert k; decide)) hj, ?_, ?_⟩
  · rw [e.1 91 (hk _ (by decide)), e.1 92 (hk _ (by decide))]; exact h1
  · rw [e.1 63 (hk _ (by decide)), e.1 56 (hk _ (by decide))]; exact h2
  · rw [e.1 70 (hk _ (by decide)), e.1 71 (hk _ (by decide))]; exact h3
  · unfold Wi at *
    rw [e.1 57 (hk _ (by decide)), e.1 58 (hk _ (by decide)), e.1 59 (hk _ (by decide)), e.1 60 (hk _ (by decide)), e.1 64 (hk _ (by decide)), e.1 65 (hk _ (by decide))]
    exact h5
  · unfold Mr1 RL at *
    rw [e.1 66 (hk _ (by decide)), e.1 67 (hk _ (by decide)), e.1 68 (hk _ (by decide)), e.1 69 (hk _ (by decide)), e.1 41 (hk _ (by decide)), e.2 43 (hj _ (by decide))]
    exact h6
theorem MMs.st (hJ : JB A) (hB : Bn A) (h : MMs A L n ns la nc cl nl ord s) (hL : Ly A L n ns) {j : Nat} (hj : j < n) : Mst s cl nl nc j (A.1 21 (L j).1) (L j).2.1 (s.1 41) (s.2 43) := by
  obtain ⟨h1, h2, h3, h4, h5, h6⟩ := h
  have hl := hL.2.2.2 j hj
  have w := h5 j hj
  have b := hB.2
  have m := h4.2.2 (L j).1 (by omega)
  have r := hJ.r21 hl.1
  exact ⟨h1.1, h1.2.1, h1.2.2.2.1, h1.2.2.2.2.1, h1.2.2.2.2.2, rfl, rfl, by omega, by omega, (L j).1, w.1, by omega, w.2.1, m.1⟩
/-- an exp of an instance, run -/
theorem exp_run_M {j : Nat} {l : List aop} {w a : Nat} (hN : 70000 < N) (hJ : JB A) (hB : Bn A) (hL : Ly A L n ns) (hj : j < n) (hX : XG A (L j).1 l w) (hM : MMs A L n ns la nc cl nl ord s) (ha : a + l.length ≤ la) (hE : rEnc (s.1 41) (s.2 43) nc a l) (h85 : s.1 85 0 = nI 0) (hV : ∀ o, o ∈ l → o.1 = 1 → Fw (ev A L (s.2 80) j o.2.1) (A.1 1 o.2.1)) : ∃ s1 s2, fn_M_run N (nI (3 * a)) (nI (3 * (a + l.length))) (nI j) s = some ((), s1) ∧ fn_M_pop N s1 = some (xval (ev A L (s.2 80) j) l, s2) ∧ Eb [85] [81, 84] s s2 ∧ s2.1 85 0 = nI 0 := by
  have hl := hL.2.2.2 j hj
  have b := hB.2
  have ld : ∀ d, lod l d = true → ∃ i w', nmM A (L j).1 i = some (d, w') := fun d hd => by
    obtain ⟨o, o1, o2, rfl⟩ := lod_iff.mp hd
    exact hX.1.ld o o1 o2
  have rt : Rt (rS (s.1 41) (s.2 43) nc (fun d => (lod l d = true, A.1 1 d)) (ev A L (s.2 80) j)) (a, [], fun d => s.2 81 ((L j).2.1 + (d - A.1 21 (L j).1))) (a + l.length, [xval (ev A L (s.2 80) j) l], fun d => s.2 81 ((L j).2.1 + (d - A.1 21 (L j).1))) := by
    refine hE.val (nm := nmR A (L j).1 l) hX.2 (nmR_ty hX.1) (fun i q hq => ?_) (fun d hd => ?_) (Nat.zero_le _)
    · obtain ⟨z, e⟩ := nmR_some hq
      exact ⟨z, ((hJ.nms hl.1 e).2.2.2).symm⟩
    · obtain ⟨o, o1, o2, rfl⟩ := lod_iff.mp hd
      exact hV o o1 o2
  have hc := hM.st hJ hB hL hj
  have h3 : 3 * la ≤ cl := hM.1.2.2.1
  have hns : ns ≤ 1024 := hM.2.1.2.1
  obtain ⟨s1, e1, e2, e3, -⟩ := run_M (N := N) hN hc (by omega) (by omega) ⟨h85, trivial, fun d hd => by
    obtain ⟨i, w', q⟩ := ld d hd
    obtain ⟨n1, n2, n3, -⟩ := hJ.nms hl.1 q
    have n1 : A.1 21 (L j).1 ≤ d := n1
    have n2 : d - A.1 21 (L j).1 < own A (L j).1 := n2
    have n3 : d < A.1 40 0 := n3
    have := hL.lt hJ hj n2
    exact ⟨n1, by omega, by omega, rfl, rfl⟩⟩ rt
  obtain ⟨s2, f1, f2, f3⟩ := pop_M (N := N) e2 (by simp)
  exact ⟨s1, s2, e1, f1, e3.trans (f3.mono (by decide) (by decide)), f2.1⟩
theorem set_L1 (hJ : JB A) (hB : Bn A) (hWF : WF tk nt A t) (hL : Ly A L n ns) : ∀ (m x F : Nat) (s : ms), x + m = ns → m < F → MMs A L n ns la nc cl nl ord s → ∃ s', hd_M_settle_82_83_2 N F (nI x) s = hd_M_settle_82_83_56 N N 0 s' ∧ Eb [] [80] s s' ∧ (∀ y, x ≤ y → y < ns → (RS A L n y).1 = 0 → s'.2 80 y = bas A L n s y) ∧ (∀ y, (y < x ∨ ns ≤ y ∨ (RS A L n y).1 ≠ 0) → s'.2 80 y = s.2 80 y) := by
  intro m
  induction m with
  | zero =>
    intro x F s hx hF hM
    obtain ⟨F, rfl⟩ : ∃ F', F = F' + 1 := ⟨F - 1, by omega⟩
    obtain rfl : x = ns := by omega
    have h63 := hM.2.1.1
    have hns := hM.2.1.2.1
    refine ⟨s, ?_, Eb.rfl, fun y h1 h2 => by omega, fun _ _ => rfl⟩
    show bd_M_settle_82_83_2 N (hd_M_settle_82_83_2 N F) (nI x) s = _
    unfold bd_M_settle_82_83_2
    rw [h63, if_pos (nI_le (Nat.le_refl _) (by omega))]
  | succ m ih =>
    intro x F s hx hF hM
    obtain ⟨F, rfl⟩ : ∃ F', F = F' + 1 := ⟨F - 1, by omega⟩
    obtain ⟨h1, ⟨h63, hns, -⟩, h3, h4, h5, h6⟩ := id hM
    have xn : x < ns := by omega
    obtain ⟨m66, -, -⟩ := h6 x xn
    have le : (RS A L n x).1 ≤ 2 := Ru_le
    show ∃ s', bd_M_settle_82_83_2 N (hd_M_settle_82_83_2 N F) (nI x) s = _ ∧ _
    unfold bd_M_settle_82_83_2
    rw [h63, if_neg (nI_ge xn (by omega)), if_neg (nI_in (show x < 1100 by omega) (by decide)), nI_clamp (show x < 2 ^ 31 by omega), m66, if_neg (nI_in2 (show x < 1100 by omega) (by decide)), if_neg (nI_in2 (show x < 1100 by omega) (by decide)), if_neg (nI_in2 (show x < 1100 by omega) (by decide))]
    have b := hB.2
    have h64 : s.1 64 x = nI (snm A L n x) ∧ snm A L n x < A.1 40 0 := by
      refine ⟨?_, (rule_ok hJ hWF hL xn).2.2.2⟩
      obtain ⟨i, q, hi, hq, rfl⟩ := hL.sig xn
      rw [(RS_at hL hi hq).2]
      exact ((h5 i hi).2.2.2.2 q hq).1
    have h21 : s.1 21 (snm A L n x) = nI (A.1 2 (snm A L n x)) := (h4.1.2.1 _ h64.2).2.2.1
    have k2le : A.1 2 (snm A L n x) ≤ 4 := (hWF.2.1 _ h64.2).2.2.2.2.1
    by_cases z : (RS A L n x).1 = 0
    · rw [z, if_pos (show nI 0 = 0 from rfl), h64.1, if_neg (nI_in (show snm A L n x < 11000 by omega) (by decide)), nI_clamp (show snm A L n x < 2 ^ 31 by omega), h21]
      have C1 : ∀ g, MMs A L n ns la nc cl nl ord (upJ s 80 g) := fun g => hM.keep (Eb.rfl.upJ (ks := []) (js := [80]) (by decide)) (by decide) (by decide)
      have e : (if nI (A.1 2 (snm A L n x)) = 0 then bk_M_settle_82_83_47 N (hd_M_settle_82_83_2 N F) (nI x) (s.2 83 x) (nI x) s else bk_M_settle_82_83_47 N (hd_M_settle_82_83_2 N F) (nI x) (s.2 82 x) (nI x) s) = hd_M_settle_82_83_2 N F (nI (x + 1)) (upJ s 80 (vp_updL (s.2 80) x (bas A L n s x))) := by
        unfold bk_M_settle_82_83_47 bas
        rw [if_neg (nI_in (show x < 1100 by omega) (by decide)), if_neg (nI_in (show x < 1100 by omega) (by decide)), nI_clamp (show x < 2 ^ 31 by omega), nI_1]
        by_cases w : A.1 2 (snm A L n x) = 0
        · rw [w, if_pos (show nI 0 = 0 from rfl), if_pos rfl]
        · rw [if_neg (nI_n0 w (by omega)), if_neg w]
      rw [e]
      obtain ⟨s', f1, f2, f3, f4⟩ := ih (x + 1) F _ (by omega) (by omega) (C1 _)
      refine ⟨s', f1, (Eb.rfl.upJ (by decide)).trans f2, fun y y1 y2 y3 => ?_, fun y hy => ?_⟩
      · by_cases w : y = x
        · subst w
          rw [f4 y (Or.inl (by omega))]
          exact updL_at _ _ _
        · rw [f3 y (by omega) y2 y3]
          rfl
      · rw [f4 y (by omega)]
        exact updL_ne (fun w => by subst w; rcases hy with w | w | w <;> omega)
    · rw [if_neg (nI_n0 z (by omega)), nI_1]
      obtain ⟨s', f1, f2, f3, f4⟩ := ih (x + 1) F s (by omega) (by omega) hM
      refine ⟨s', f1, f2, fun y y1 y2 y3 => ?_, fun y hy => ?_⟩
      · have w : x ≠ y := fun w => by rw [w] at z; exact z y3
        exact f3 y (by omega) y2 y3
      · by_cases w : y = x
        · exact f4 y (Or.inl (by omega))
        · exact f4 y (by omega)
theorem set_L2 (hN : 70000 < N) (hJ : JB A) (hB : Bn A) (hWF : WF tk nt A t) (hL : Ly A L n ns) (hO : Od A L n ns ord) : ∀ (m k F : Nat) (s : ms), k + m = ord.length → m < F → MMs A L n ns la nc cl nl ord s → s.1 85 0 = nI 0 → PS A L n ord (s.2 80) V0 k → (∀ x, x < ns → (RS A L n x).1 = 0 ∨ x ∈ ord.take k → Fw (s.2 80 x) (A.1 1 (snm A L n x))) → ∃ s', hd_M_settle_82_83_56 N F (nI k) s = some ((), s') ∧ Eb [85] [80, 81, 84] s s' ∧ s'.1 85 0 = nI 0 ∧ PS A L n ord (s'.2 80) V0 ord.length ∧ (∀ x, x < ns → (RS A L n x).1 = 0 ∨ x ∈ ord → Fw (s'.2 80 x) (A.1 1 (snm A L n x))) := by
  intro m
  induction m with
  | zero =>
    intro k F s hk hF hM h85 hP hT
    obtain ⟨F, rfl⟩ : ∃ F', F = F' + 1 := ⟨F - 1, by omega⟩
    obtain rfl : k = ord.length := by omega
    have h71 := hM.2.2.1.1
    have hlen : ord.length ≤ 1024 := by
      have := nodup_len hO.1 (fun x hx => ((hO.2.1 x).mp hx).1)
      have := hM.2.1.2.1
      omega
    refine ⟨s, ?_, Eb.rfl, h85, hP, fun x hx z => hT x hx (by rw [List.take_length]; exact z)⟩
    show bd_M_settle_82_83_56 N (hd_M_settle_82_83_56 N F) (nI ord.length) s = _
    unfold bd_M_settle_82_83_56
    rw [h71, if_pos (nI_le (Nat.le_refl _) (by omega))]
  | succ m ih =>
    intro k F s hk hF hM h85 hP hT
    obtain ⟨F, rfl⟩ : ∃ F', F = F' + 1 := ⟨F - 1, by omega⟩
    obtain ⟨h1, ⟨h63, hns, -⟩, ⟨h71, h70⟩, h4, h5, h6⟩ := id hM
    have hlen : ord.length ≤ 1024 := by
      have := nodup_len hO.1 (fun x hx => ((hO.2.1 x).mp hx).1)
      omega
    obtain ⟨o, ho⟩ : ∃ o, ord[k]? = some o := ⟨_, List.getElem?_eq_getElem (show k < ord.length by omega)⟩
    obtain ⟨-, e1, e2, e3, e4, e5, e6⟩ := hO.split ho
    have hP2 := hP.next hO ho
    obtain ⟨r1, r2, -⟩ := rule_ok hJ hWF hL e4
    have le : (RS A L n o).1 ≤ 2 := Ru_le
    obtain ⟨m66, q1, q2⟩ := h6 o e4
    have io : o < 1100 := by omega
    -- what it needs is settled
    have dep : ∀ y, y ∈ dl A L n o → Fw (s.2 80 y) (A.1 1 (snm A L n y)) := fun y hy => by
      refine hT y (dl_lt hJ hWF hL e4 hy) ?_
      by_cases z : (RS A L n y).1 = 0
      · exact Or.inl z
      · exact Or.inr (e3 y hy z)
    have fin : ∀ g : Int64, Fw g (A.1 1 (snm A L n o)) → ∀ x, x < ns → (RS A L n x).1 = 0 ∨ x ∈ ord.take (k + 1) → Fw (vp_updL (s.2 80) o g x) (A.1 1 (snm A L n x)) := fun g hg x hx z => by
      by_cases w : x = o
      · subst w
        rw [updL_at]
        exact hg
      · rw [updL_ne w]
        refine hT x hx (z.elim Or.inl (fun z => ?_))
        rw [e2] at z
        rcases List.mem_append.mp z with z | z
        · exact Or.inr z
        · exact absurd (List.mem_singleton.mp z) w
    show ∃ s', bd_M_settle_82_83_56 N (hd_M_settle_82_83_56 N F) (nI k) s = _ ∧ _
    unfold bd_M_settle_82_83_56
    rw [h71, if_neg (nI_ge (show k < ord.length by omega) (by omega)), if_neg (nI_in (show k < 1100 by omega) (by decide)), nI_clamp (show k < 2 ^ 31 by omega), h70 k o ho]
    by_cases z : (RS A L n o).1 = 1
    · obtain ⟨g1, g2⟩ := r1 z
      obtain ⟨⟨a, p3, p4, p5, p6⟩, p2⟩ := q1 z
      have ldf : ∀ o', o' ∈ (RS A L n o).2.2.1 → o'.1 = 1 → Fw (ev A L (s.2 80) (RS A L n o).2.1 o'.2.1) (A.1 1 o'.2.1) := fun o' ho' k' => by
        obtain ⟨i, w', e⟩ := g2.1.ld o' ho' k'
        have hl := hL.2.2.2 _ g1
        obtain ⟨n1, n2, n3, n4⟩ := hJ.nms hl.1 e
        have n1 : A.1 21 (L (RS A L n o).2.1).1 ≤ o'.2.1 := n1
        have n2 : o'.2.1 - A.1 21 (L (RS A L n o).2.1).1 < own A (L (RS A L n o).2.1).1 := n2
        have := dep ((L (RS A L n o).2.1).2.1 + (o'.2.1 - A.1 21 (L (RS A L n o).2.1).1)) (by unfold dl dpl; rw [if_pos z]; exact mem_lds ho' k')
        rw [(RS_at hL g1 n2).2, show A.1 21 (L (RS A L n o).2.1).1 + (o'.2.1 - A.1 21 (L (RS A L n o).2.1).1) = o'.2.1 by omega] at this
        exact this
      obtain ⟨s1, s2, d1, d2, d3, d4⟩ := exp_run_M (N := N) hN hJ hB hL g1 g2 hM p5 p6 h85 ldf
      have ne : ¬ nI (1 : Nat) = 2 := by decide
      have hrv : rval A L (s.2 80) (RS A L n o) = xval (ev A L (s.2 80) (RS A L n o).2.1) (RS A L n o).2.2.1 := by unfold rval; rw [if_pos z]
      rw [z] at m66
      simp only [if_neg (nI_in io (by decide)), nI_clamp (show o < 2 ^ 31 by omega), if_neg (nI_in2 io (show 1100 < 2 ^ 31 by decide)), m66, if_neg ne, p2, p3, p4]
      rw [d1, obind]
      dsimp only
      rw [d2, obind]
      dsimp only
      rw [d3.2 80 (by decide), nI_1]
      have C1 : MMs A L n ns la nc cl nl ord (upJ s2 80 (vp_updL (s.2 80) o (xval (ev A L (s.2 80) (RS A L n o).2.1) (RS A L n o).2.2.1))) := (hM.keep d3 (by decide) (by decide)).keep (Eb.rfl.upJ (ks := []) (js := [80]) (by decide)) (by decide) (by decide)
      rw [hrv] at hP2
      obtain ⟨s', f1, f2, f3, f4, f5⟩ := ih (k + 1) F _ (by omega) (by omega) C1 d4 hP2 (fin _ (xval_fitR hJ (hL.2.2.2 _ g1).1 g2 ldf))
      exact ⟨s', f1, Eb.trans (Eb.upJ (d3.mono (by decide) (by decide)) (by decide)) f2, f3, f4, f5⟩
    · have z2 : (RS A L n o).1 = 2 := two_of le e5 z
      have p1 := q2 z2
      have p2 := r2 z2
      have iy : (RS A L n o).2.2.2 < 1100 := by omega
      have hrv : rval A L (s.2 80) (RS A L n o) = s.2 80 (RS A L n o).2.2.2 := by unfold rval; rw [if_neg z]
      rw [z2] at m66
      simp only [if_neg (nI_in io (by decide)), nI_clamp (show o < 2 ^ 31 by omega), if_neg (nI_in2 io (show 1100 < 2 ^ 31 by decide)), m66, if_pos (show nI 2 = 2 from rfl), p1, if_neg (nI_in iy (by decide)), nI_clamp (show (RS A L n o).2.2.2 < 2 ^ 31 by omega), if_neg (nI_in2 iy (show 1100 < 2 ^ 31 by decide)), nI_1]
      have C1 : MMs A L n ns la nc cl nl ord (upJ s 80 (vp_updL (s.2 80) o (s.2 80 (RS A L n o).2.2.2))) := hM.keep (Eb.rfl.upJ (ks := []) (js := [80]) (by decide)) (by decide) (by decide)
      rw [hrv] at hP2
      have fo : Fw (s.2 80 (RS A L n o).2.2.2) (A.1 1 (snm A L n o)) := by
        rw [src_w hJ hL e4 z2]
        exact dep _ (by unfold dl dpl; rw [if_neg z, if_pos z2]; exact List.mem_singleton.mpr rfl)
      obtain ⟨s', f1, f2, f3, f4, f5⟩ := ih (k + 1) F _ (by omega) (by omega) C1 h85 hP2 (fin _ fo)
      exact ⟨s', f1, Eb.trans (Eb.rfl.upJ (by decide)) f2, f3, f4, f5⟩
theorem settle_M (hN : 70000 < N) (hJ : JB A) (hB : Bn A) (hWF : WF tk nt A t) (hL : Ly A L n ns) (hO : Od A L n ns ord) (hM : MMs A L n ns la nc cl nl ord s) (h85 : s.1 85 0 = nI 0) (hF : ∀ x, x < ns → (RS A L n x).1 = 0 → Fw (bas A L n s x) (A.1 1 (snm A L n x))) : ∃ s', fn_M_settle_82_83 N s = some ((), s') ∧ Eb [85] [80, 81, 84] s s' ∧ s'.1 85 0 = nI 0 ∧ Sol A L n ns (s'.2 80) (bas A L n s) ∧ Vt A L n ns (s'.2 80) := by
  have hns := hM.2.1.2.1
  have hlen : ord.length ≤ 1024 := by
    have := nodup_len hO.1 (fun x hx => ((hO.2.1 x).mp hx).1)
    omega
  obtain ⟨s1, a1, a2, a3, a4⟩ := set_L1 (N := N) hJ hB hWF hL ns 0 N s (by omega) (by omega) hM
  obtain ⟨s2, b1, b2, b3, b4, b5⟩ := set_L2 (N := N) (V0 := s1.2 80) hN hJ hB hWF hL hO ord.length 0 N s1 (by omega) (by omega) (hM.keep a2 (by decide) (by decide)) (by rw [a2.1 85 (by decide)]; exact h85) ⟨fun _ _ => rfl, fun x hx => absurd hx (by simp)⟩ (fun x hx z => by
    rcases z with z | z
    · rw [a3 x (Nat.zero_le _) hx z]
      exact hF x hx z
    · exact absurd z (by simp))
  refine ⟨s2, ?_, (a2.mono (by decide) (by decide)).trans b2, b3, fun x hx => ?_, fun x hx => ?_⟩
  · unfold fn_M_settle_82_83
    exact a1.trans b1
  · obtain ⟨c1, c2⟩ := b4.sol hO x hx
    exact ⟨fun z => by rw [c1 z]; exact a3 x (Nat.zero_le _) hx z, c2⟩
  · refine b5 x hx ?_
    by_cases z : (RS A L n x).1 = 0
    · exact Or.inl z
    · exact Or.inr ((hO.2.1 x).mpr ⟨hx, z⟩)
end MSET
