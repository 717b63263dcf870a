/-! The reference: items that are modules. -/
section MINS
variable {tk pl vl wi wd : Nat → Nat} {nt N N0 : Nat} {s0 s s' : ms} {A : ds} {t la nc : Nat}
/-- behind a fault: to the end of the item -/
def Zi (s s' : ms) (it f p : Nat) : Prop := Eb [8, 9, 10, 23, 24, 25, 26, 27, 30, 31, 32, 33, 34, 41, 42, 44, 49, 50, 51, 52, 53, 87, 91, 92] [43, 45] s s' ∧ 0 < f ∧ (f < 100 ∧ Lk s') ∧ s'.1 9 0 = nI f ∧ s'.1 10 0 = nI p ∧ (∃ x, x < 40000 ∧ s'.1 8 0 = nI x) ∧ s'.1 27 0 = nI (it + 1)
theorem z254 {it f p : Nat} (h27 : s.1 27 0 = nI it) (hi : it < 10000) (h : Zk s s' f p) : ∃ s2, bk_M_instance_254 N s' = some ((), s2) ∧ Zi s s2 it f p := by
  obtain ⟨h1, h2, h3, h4, h5, x, h6, h7⟩ := h
  have e27 : s'.1 27 0 = nI it := by rw [h1.1 27 (by decide)]; exact h27
  unfold bk_M_instance_254
  rw [e27, nI_1, if_neg (nI_in (show it + 1 < 11001 by omega) (by decide))]
  exact ⟨_, rfl, (((h1.mono (by decide) (by decide)).upI (by decide)).upI (by decide)).upI (by decide), h2, h3, h4, h5, ⟨x + 1, by omega, by show s'.1 8 0 + 1 = _; rw [h7, nI_1]⟩, rfl⟩
theorem z191 {m it f p n : Nat} {x2 x3 : Int32} (hm : m < 3500) (h27 : s.1 27 0 = nI it) (hi : it < 10000) (h : Zk s s' f p) : ∃ s2, hd_M_instance_191 N (n + 1) (nI m) x2 x3 s' = some ((), s2) ∧ Zi s s2 it f p := by
  show ∃ s2, bd_M_instance_191 N (hd_M_instance_191 N n) (nI m) x2 x3 s' = _ ∧ _
  unfold bd_M_instance_191
  rw [nI_1, if_neg (nI_in (show m + 1 < 3601 by omega) (by decide)), if_neg h.nine, ite_self]
  exact z254 h27 hi h
theorem z131 {m it f p n : Nat} {x2 : Int32} (hN : 0 < N) (hm : m < 3500) (h27 : s.1 27 0 = nI it) (hi : it < 10000) (h : Zk s s' f p) : ∃ s2, hd_M_instance_131 N (n + 1) (nI m) x2 s' = some ((), s2) ∧ Zi s s2 it f p := by
  show ∃ s2, bd_M_instance_131 N (hd_M_instance_131 N n) (nI m) x2 s' = _ ∧ _
  obtain ⟨N', rfl⟩ : ∃ k, N = k + 1 := ⟨N - 1, by omega⟩
  unfold bd_M_instance_131
  rw [isZ9 h.nine, obind]
  dsimp only
  rw [if_pos rfl, if_neg (nI_in (show m < 3601 by omega) (by decide))]
  obtain ⟨h1, h2, h3, h4, h5, x, h6, h7⟩ := h
  by_cases hx : x < 38999
  · exact z191 (s := s) hm h27 hi ⟨h1.upI (by decide), h2, h3, h4, h5, x + 1, by omega, by show s'.1 8 0 + 1 = _; rw [h7, nI_1]⟩
  · have h' : Zk s (upI s' 8 (fun _ => s'.1 8 0 + 1)) f p → ∃ s2, hd_M_instance_191 (N' + 1) (N' + 1) (nI m) x2 (s'.1 14 (nI m).toNatClampNeg) (upI s' 8 (fun _ => s'.1 8 0 + 1)) = some ((), s2) ∧ Zi s s2 it f p := fun z => z191 (s := s) hm h27 hi z
    have e27 : s'.1 27 0 = nI it := by rw [h1.1 27 (by decide)]; exact h27
    show ∃ s2, bd_M_instance_191 (N' + 1) (hd_M_instance_191 (N' + 1) N') (nI m) x2 _ (upI s' 8 (fun _ => s'.1 8 0 + 1)) = _ ∧ _
    unfold bd_M_instance_191
    have n9 : ¬ (upI s' 8 (fun _ => s'.1 8 0 + 1)).1 9 0 = 0 := by
      show ¬ s'.1 9 0 = 0
      rw [h4]; exact nI_ne0 h2 (by omega)
    have e27' : (upI s' 8 (fun _ => s'.1 8 0 + 1)).1 27 0 = nI it := e27
    rw [nI_1, if_neg (nI_in (show m + 1 < 3601 by omega) (by decide)), if_neg n9, ite_self]
    unfold bk_M_instance_254
    rw [e27', nI_1, if_neg (nI_in (show it + 1 < 11001 by omega) (by decide))]
    refine ⟨_, rfl, ((((h1.mono (by decide) (by decide)).upI (by decide)).upI (by decide)).upI (by decide)).upI (by decide), h2, h3, h4, h5, ⟨x + 2, by omega, ?_⟩, rfl⟩
    show s'.1 8 0 + 1 + 1 = _
    rw [h7, nI_1, nI_1]
theorem z145 {m it f p n : Nat} {x2 : Int32} (hN : 0 < N) (hm : m < 3500) (h27 : s.1 27 0 = nI it) (hi : it < 10000) (h : Zk s s' f p) : ∃ s2, bk_M_instance_145 N (hd_M_instance_131 N (n + 1)) (nI m) x2 s' = some ((), s2) ∧ Zi s s2 it f p := by
  obtain ⟨h1, h2, h3, h4, h5, x, h6, h7⟩ := h
  have e27 : s'.1 27 0 = nI it := by rw [h1.1 27 (by decide)]; exact h27
  unfold bk_M_instance_145 fn_M_kind
  rw [h7, if_neg (nI_in (show x < 65540 by omega) (by decide)), obind]
  dsimp only
  have go : ∀ y, y < 39001 → ∃ s2, bk_M_instance_168 N (hd_M_instance_131 N (n + 1)) (nI m) x2 (nI y) s' = some ((), s2) ∧ Zi s s2 it f p := fun y hy => by
    unfold bk_M_instance_168
    show ∃ s2, bd_M_instance_131 N (hd_M_instance_131 N n) (nI m) x2 (upI s' 8 (fun _ => nI y)) = _ ∧ _
    obtain ⟨N', rfl⟩ : ∃ k, N = k + 1 := ⟨N - 1, by omega⟩
    have n9 : ¬ (upI s' 8 (fun _ => nI y)).1 9 0 = 0 := by
      show ¬ s'.1 9 0 = 0
      rw [h4]; exact nI_ne0 h2 (by omega)
    unfold bd_M_instance_131
    rw [isZ9 n9, obind]
    dsimp only
    rw [if_pos rfl, if_neg (nI_in (show m < 3601 by omega) (by decide))]
    show ∃ s2, bd_M_instance_191 (N' + 1) (hd_M_instance_191 (N' + 1) N') (nI m) x2 _ (upI (upI s' 8 (fun _ => nI y)) 8 (fun _ => nI y + 1)) = _ ∧ _
    unfold bd_M_instance_191
    have n9' : ¬ (upI (upI s' 8 (fun _ => nI y)) 8 (fun _ => nI y + 1)).1 9 0 = 0 := n9
    have e27' : (upI (upI s' 8 (fun _ => nI y)) 8 (fun _ => nI y + 1)).1 27 0 = nI it := e27
    rw [nI_1 m, if_neg (nI_in (show m + 1 < 3601 by omega) (by decide)), if_neg n9', ite_self]
    unfold bk_M_instance_254
    rw [e27', nI_1 it, if_neg (nI_in (show it + 1 < 11001 by omega) (by decide))]
    refine ⟨_, rfl, (((((h1.mono (by decide) (by decide)).upI (by decide)).upI (by decide)).upI (by decide)).upI (by decide)).upI (by decide), h2, h3, h4, h5, ⟨y + 2, by omega, ?_⟩, rfl⟩
    show nI y + 1 + 1 = _
    rw [nI_1, nI_1]
  by_cases c : s'.1 4 (nI x).toNatClampNeg = 44
  · rw [if_pos c, h7, nI_1]
    exact go (x + 1) (by omega)
  · rw [if_neg c, h7]
    exact go x (by omega)
theorem links_M {m : Nat} {x2 : Int32} (hN : 13002 < N) (hN0 : N = N0 + 1) (T : Tv tk pl nt) (hS : SD tk pl vl wi wd nt N s0) (hV : Vb tk vl wi) : ∀ (n t : Nat) (A : ds) (la nc : Nat) (s : ms), WF tk nt A t → m < A.1 46 0 → DM nt s0 A t la nc s → ∀ q, dLinks tk pl vl wi wd nt N0 m n t A = some q → (∀ f p, q = .inl (f, p) → ∃ s', hd_M_instance_131 N (n + 1) (nI m) x2 s = some ((), s') ∧ Zi s s' (A.1 41 0) f p) ∧ (∀ t1 A1, q = .inr (t1, A1) → ∃ s' la' nc', hd_M_instance_131 N (n + 1) (nI m) x2 s = hd_M_instance_191 N N (nI m) x2 (nI (A.1 21 m)) (upI s' 8 (fun _ => nI (t1 + 1))) ∧ DM nt s0 A1 t1 la' nc' s' ∧ LKE s s' ∧ t1 < nt) := by
  have hnt := T.2.1
  intro n
  induction n with
  | zero => intro t A la nc s hW hm h q hq; cases hq
  | succ n ih =>
    intro t A la nc s hW hm h q hq
    unfold dLinks at hq
    by_cases c0 : nt ≤ t
    · rw [if_pos c0] at hq; cases hq
    rw [if_neg c0] at hq
    have cnt := hW.1
    have st : hd_M_instance_131 N (n + 1 + 1) (nI m) x2 s = bd_M_instance_131 N (hd_M_instance_131 N (n + 1)) (nI m) x2 s := rfl
    rw [st]
    unfold bd_M_instance_131
    rw [lit_nI 46, isD hS T h.1 h.nine h.eight (by omega) (by decide), obind]
    dsimp only
    by_cases c1 : tk t = 46
    · rw [if_pos c1] at hq
      rw [if_neg (fun z => (b01_dec0.mp z) c1)]
      match er : dLink tk pl vl wi wd nt N0 m t A with
      | none => rw [er] at hq; cases hq
      | some (.inl (f, p)) =>
        rw [er] at hq
        cases hq
        obtain ⟨s1, a1, a2, -⟩ := link_M hN hN0 T hS hV hW hm h (by omega) _ er
        rw [a1, obind]
        dsimp only
        refine ⟨fun f p z => ?_, fun _ _ z => (by cases z)⟩
        cases z
        exact z145 (by omega) (by omega) h.2.2.2.1.1.2.2.1 (by omega) (a2 f p rfl)
      | some (.inr (t1, A1)) =>
        rw [er, db_inr] at hq
        obtain ⟨s1, a1, -, a3⟩ := link_M hN hN0 T hS hV hW hm h (by omega) _ er
        obtain ⟨b1, la1, nc1, b2⟩ := a3 t1 A1 rfl
        obtain ⟨w1, w2⟩ := dLink_wo hW hm t1 A1 er
        have it := dLink_it er
        by_cases c2 : nt ≤ t1
        · rw [if_pos c2] at hq; cases hq
        rw [if_neg c2] at hq
        have kl : tk t1 < 405 := T.lt (by omega)
        rw [a1, obind]
        dsimp only
        unfold bk_M_instance_145
        rw [kindD hS hnt b2.1 b2.eight (by omega), obind]
        dsimp only
        unfold bk_M_instance_168
        have go : ∀ u, t1 ≤ u → u ≤ nt + 1 → dLinks tk pl vl wi wd nt N0 m n u A1 = some q → (∀ f p, q = .inl (f, p) → ∃ s', hd_M_instance_131 N (n + 1) (nI m) x2 (upI s1 8 (fun _ => nI u)) = some ((), s') ∧ Zi s s' (A.1 41 0) f p) ∧ (∀ t1 A1, q = .inr (t1, A1) → ∃ s' la' nc', hd_M_instance_131 N (n + 1) (nI m) x2 (upI s1 8 (fun _ => nI u)) = hd_M_instance_191 N N (nI m) x2 (nI (A.1 21 m)) (upI s' 8 (fun _ => nI (t1 + 1))) ∧ DM nt s0 A1 t1 la' nc' s' ∧ LKE s s' ∧ t1 < nt) := by
          intro u u1 u2 hq'
          have D2 : DM nt s0 A1 u la1 nc1 (upI s1 8 (fun _ => nI u)) := b2.tset (Eb.rfl.upI (by decide)) rfl u1 u2 hnt
          obtain ⟨p1, p2⟩ := ih u A1 la1 nc1 _ (w1.later u1) (by rw [it 46 (by decide)]; exact hm) D2 q hq'
          have eL : LKE s (upI s1 8 (fun _ => nI u)) := b1.upI (by decide)
          refine ⟨fun f p z => ?_, fun t2 A2 z => ?_⟩
          · obtain ⟨s', y1, y2⟩ := p1 f p z
            obtain ⟨z1, z2⟩ := y2
            rw [it 41 (by decide)] at z2
            exact ⟨s', y1, (eL.mono (by decide) (by decide)).trans z1, z2⟩
          · obtain ⟨s', la', nc', y1, y2, y3, y4⟩ := p2 t2 A2 z
            rw [it 21 (by decide)] at y1
            exact ⟨s', la', nc', y1, y2, eL.trans y3, y4⟩
        by_cases c3 : tk t1 = 44
        · rw [if_pos c3] at hq
          rw [if_pos (show nI (tk t1) = 44 by rw [c3]; rfl), b2.eight, nI_1]
          exact go (t1 + 1) (by omega) (by omega) hq
        · rw [if_neg c3] at hq
          rw [if_neg (show ¬ nI (tk t1) = 44 from fun z => c3 ((nI_eq (b := 44) (by omega) (by omega)).mp z)), b2.eight]
          exact go t1 (Nat.le_refl _) (by omega) hq
    · rw [if_neg c1] at hq
      cases hq
      rw [if_pos (b01_dec0.mpr c1), if_neg (nI_in (show m < 3601 by omega) (by decide)), nI_clamp (by omega), (h.2.2.2.2.2.2.1 m (by omega)).1, h.eight, nI_1]
      refine ⟨fun _ _ z => (by cases z), fun t1 A1 z => ?_⟩
      cases z
      exact ⟨s, la, nc, rfl, h, Eb.rfl, by omega⟩
/-- ports without a link -/
theorem open_M {m own : Nat} (hnt : nt ≤ 12001) (hS : SD tk pl vl wi wd nt N s0) (hW : WF tk nt A t) (ht : t ≤ nt + 1) (hN : 13002 < N) (hm : m < A.1 46 0) (h : DM nt s0 A t la nc s) (ho : own < nt) : ∀ (j k n : Nat), k + j = A.1 21 (m + 1) → j < n → hd_M_instance_191 N n (nI m) (nI own) (nI k) s = match fnd (fun d => decide (A.1 2 d < 3 ∧ dLkd A d = none)) j k with
    | none => bk_M_instance_254 N s
    | some _ => bk_M_instance_254 N (upI (upI s 9 (fun _ => 24)) 10 (fun _ => nI (pl own))) := by
  have cnt := hW.1
  have e14 : s.1 14 (m + 1) = nI (A.1 21 (m + 1)) := (h.2.2.2.2.2.2.1 (m + 1) (by omega)).1
  have w3 := (hW.2.2.1 (m + 1) (by omega)).1
  intro j
  induction j with
  | zero =>
    intro k n hk hn
    obtain ⟨n, rfl⟩ : ∃ n', n = n' + 1 := ⟨n - 1, by omega⟩
    show bd_M_instance_191 N (hd_M_instance_191 N n) (nI m) (nI own) (nI k) s = _
    unfold bd_M_instance_191
    rw [nI_1, if_neg (nI_in (show m + 1 < 3601 by omega) (by decide)), nI_clamp (by omega), e14, if_pos (nI_le (by omega) (by omega))]
    rfl
  | succ j ih =>
    intro k n hk hn
    obtain ⟨n, rfl⟩ : ∃ n', n = n' + 1 := ⟨n - 1, by omega⟩
    show bd_M_instance_191 N (hd_M_instance_191 N n) (nI m) (nI own) (nI k) s = _
    unfold bd_M_instance_191
    have kl : k < A.1 40 0 := by omega
    have tb := h.2.2.2.1.2.1 k kl
    have wk := hW.2.1 k kl
    rw [nI_1, if_neg (nI_in (show m + 1 < 3601 by omega) (by decide)), nI_clamp (by omega), e14, if_neg (nI_ge (by omega) (by omega)), if_pos h.nine, if_neg (nI_in (show k < 11000 by omega) (by decide)), nI_clamp (by omega), tb.2.2.1]
    unfold fnd
    by_cases c1 : A.1 2 k < 3
    · rw [if_neg (show ¬ (3 : Int32) ≤ nI (A.1 2 k) from nI_ge (a := A.1 2 k) (b := 3) c1 (by omega))]
      have e27 : s.1 27 0 = nI (A.1 41 0) := h.2.2.2.1.1.2.2.1
      have e31 : s.1 31 0 = nI (A.1 42 0) := h.2.2.2.1.1.2.2.2.1
      have w12 := hW.2.2.2.2.2.1 (A.1 41 0) (Nat.le_refl _)
      have lo : fn_M_linkOf N (s.1 27 0) (s.1 31 0) (nI k) s = some (oI (dLkd A k), s) := by
        unfold fn_M_linkOf
        rw [e27, e31, if_neg (nI_in (show A.1 41 0 < 11001 by omega) (by decide)), nI_clamp (by omega), h.2.2.2.1.2.2.2.1 (A.1 41 0) (Nat.le_refl _)]
        exact linkOf_M (g := A.1 13) (by omega) (by omega) (A.1 42 0 - A.1 12 (A.1 41 0)) (A.1 12 (A.1 41 0)) N (by omega) (by omega) (fun d d1 d2 => ⟨h.2.2.2.1.2.2.2.2.1 d d2, by have := hW.2.2.2.2.2.2 d d2; omega⟩)
      have ll : ∀ d, dLkd A k = some d → d < 2 ^ 31 := fun d e => by
        have := (fnd_some e).2.1
        omega
      rw [lo, obind]
      dsimp only
      by_cases c2 : dLkd A k = none
      · rw [if_neg (fun z => ((oI_nn ll).mp z) c2), if_neg (nI_in (show own < 65540 by omega) (by decide)), nI_clamp (by omega), five hS h.1 ho, if_pos (decide_eq_true ⟨c1, c2⟩)]
        unfold fn_M_fail
        rw [if_pos h.nine, obind]
        dsimp only
        obtain ⟨n, rfl⟩ : ∃ n', n = n' + 1 := ⟨n - 1, by omega⟩
        show bd_M_instance_191 N (hd_M_instance_191 N n) (nI m) (nI own) _ _ = _
        unfold bd_M_instance_191
        rw [nI_1, if_neg (nI_in (show m + 1 < 3601 by omega) (by decide)), if_neg (show ¬ (upI (upI s 9 (fun _ => 24)) 10 (fun _ => nI (pl own))).1 9 0 = 0 from show ¬ (24 : Int32) = 0 by decide), ite_self]
      · rw [if_pos ((oI_nn ll).mpr c2), if_neg (fun z => c2 (of_decide_eq_true z).2), nI_1]
        exact ih (k + 1) n (by omega) (by omega)
    · rw [if_pos (show (3 : Int32) ≤ nI (A.1 2 k) from nI_le (a := 3) (by omega) (by omega)), if_neg (fun z => c1 (of_decide_eq_true z).1), nI_1]
      exact ih (k + 1) n (by omega) (by omega)
end MINS
