/-! The reference: a module. -/
section MMOD2
variable {tk pl vl wi wd : Nat → Nat} {nt N N0 : Nat} {s0 s s' : ms} {A : ds} {t la nc : Nat}
/-- items leave what is told of modules -/
def mKs : List Nat := [20, 21, 22, 23, 24, 25, 26, 27, 28, 29, 30, 31, 46]
theorem mKs_or {k : Nat} (h : k ∈ mKs) : k = 20 ∨ k = 21 ∨ k = 22 ∨ k = 23 ∨ k = 24 ∨ k = 25 ∨ k = 26 ∨ k = 27 ∨ k = 28 ∨ k = 29 ∨ k = 30 ∨ k = 31 ∨ k = 46 := by simpa [mKs] using h
theorem dAdd_mk {u w x : Nat} : ∀ k, k ∈ mKs → (dAdd A u w x).1 k = A.1 k := by
  intro k hk
  funext i
  unfold dAdd
  rcases mKs_or hk with rfl | rfl | rfl | rfl | rfl | rfl | rfl | rfl | rfl | rfl | rfl | rfl | rfl <;> simp only [tu1, tu2, uu1, uu2, uu3, vu1, vu2, vu3, su1, su2, Nat.reduceEqDiff, false_and, true_and, reduceIte, Bool.false_eq_true, if_true, if_false]
theorem dDecl_mk {x u t' : Nat} {A' : ds} (e : dDecl tk pl vl wi wd nt x u A = some (.inr (t', A'))) : ∀ k, k ∈ mKs → A'.1 k = A.1 k := by
  have t3 : ∀ (B : ds) (i y k : Nat), k ∈ mKs → (tu B 3 i y).1 k = B.1 k := by
    intro B i y k hk
    funext j
    rcases mKs_or hk with rfl | rfl | rfl | rfl | rfl | rfl | rfl | rfl | rfl | rfl | rfl | rfl | rfl <;> simp only [tu1, tu2, uu1, uu2, uu3, vu1, vu2, vu3, su1, su2, Nat.reduceEqDiff, false_and, true_and, reduceIte, Bool.false_eq_true, if_true, if_false]
  have go : ∀ v w, dDec tk pl vl wi wd nt x v w A = some (.inr (t', A')) → ∀ k, k ∈ mKs → A'.1 k = A.1 k := by
    intro v w e
    unfold dDec at e
    split at e
    · cases e
    · split at e
      · cases e
      · split at e
        · split at e
          · cases e
          · split at e
            · cases e
              intro k hk
              rw [t3 _ _ _ k hk, dAdd_mk k hk]
            · cases e
        · cases e
          exact dAdd_mk
  unfold dDecl at e
  split at e
  · cases e
  · split at e
    · cases e
    · cases e
    · exact go _ _ e
theorem dPort_mk {t' : Nat} {A' : ds} (e : dPort tk pl vl wi wd nt t A = some (.inr (t', A'))) : ∀ k, k ∈ mKs → A'.1 k = A.1 k := by
  unfold dPort at e
  split at e
  · cases e
  · split at e
    · exact dDecl_mk e
    · split at e
      · exact dDecl_mk e
      · exact dDecl_mk e
theorem dItem_mk {t' : Nat} {A' : ds} (e : dItem tk pl vl wi wd nt N0 t A = some (.inr (t', A'))) : ∀ k, k ∈ mKs → A'.1 k = A.1 k := by
  have dc : ∀ x, db (dDecl tk pl vl wi wd nt x (t + 1) A) (fun t1 A1 => if nt ≤ t1 then none else dok (t1 + 1) A1) = some (.inr (t', A')) → ∀ k, k ∈ mKs → A'.1 k = A.1 k := by
    intro x e
    match er : dDecl tk pl vl wi wd nt x (t + 1) A with
    | none => rw [er] at e; cases e
    | some (.inl f) => rw [er] at e; cases e
    | some (.inr (t1, A1)) =>
      rw [er, db_inr] at e
      split at e
      · cases e
      · cases e
        exact dDecl_mk er
  unfold dItem at e
  split at e
  · cases e
  · split at e
    · exact dc 3 e
    · split at e
      · exact dc 4 e
      · split at e
        · unfold dAssign at e
          split at e
          · cases e
          · split at e
            · cases e
            · split at e
              · cases e
              · split at e
                · cases e
                · split at e
                  · cases e
                  · cases e
                  · split at e
                    · cases e
                      intro k hk
                      funext j
                      rcases mKs_or hk with rfl | rfl | rfl | rfl | rfl | rfl | rfl | rfl | rfl | rfl | rfl | rfl | rfl <;> simp only [tu1, tu2, uu1, uu2, uu3, vu1, vu2, vu3, su1, su2, Nat.reduceEqDiff, false_and, true_and, reduceIte, Bool.false_eq_true, if_true, if_false]
                    · cases e
        · split at e
          · unfold dAlways at e
            split at e
            · cases e
            · split at e
              · cases e
              · cases e
              · split at e
                · cases e
                · cases e
                  intro k hk
                  funext j
                  unfold dAlw
                  split
                  · rcases mKs_or hk with rfl | rfl | rfl | rfl | rfl | rfl | rfl | rfl | rfl | rfl | rfl | rfl | rfl <;> simp only [tu1, tu2, uu1, uu2, uu3, vu1, vu2, vu3, su1, su2, Nat.reduceEqDiff, false_and, true_and, reduceIte, Bool.false_eq_true, if_true, if_false]
                  · rcases mKs_or hk with rfl | rfl | rfl | rfl | rfl | rfl | rfl | rfl | rfl | rfl | rfl | rfl | rfl <;> simp only [tu1, tu2, uu1, uu2, uu3, vu1, vu2, vu3, su1, su2, Nat.reduceEqDiff, false_and, true_and, reduceIte, Bool.false_eq_true, if_true, if_false]
          · split at e
            · unfold dAssert at e
              split at e
              · cases e
              · split at e
                · cases e
                · cases e
                · cases e
                  intro k hk
                  funext j
                  unfold dAss
                  rcases mKs_or hk with rfl | rfl | rfl | rfl | rfl | rfl | rfl | rfl | rfl | rfl | rfl | rfl | rfl <;> simp only [tu1, tu2, uu1, uu2, uu3, vu1, vu2, vu3, su1, su2, Nat.reduceEqDiff, false_and, true_and, reduceIte, Bool.false_eq_true, if_true, if_false]
            · unfold dInstance at e
              split at e
              · cases e
              · split at e
                · cases e
                · rename_i m hm
                  split at e
                  · cases e
                  · match er : dLinks tk pl vl wi wd nt N0 m N0 (t + 3) (dIt A m (t + 1)) with
                    | none => rw [er] at e; cases e
                    | some (.inl f) => rw [er] at e; cases e
                    | some (.inr (t1, A1)) =>
                      rw [er, db_inr] at e
                      have it := dLinks_it N0 (t + 3) (dIt A m (t + 1)) t1 A1 er
                      split at e
                      · cases e
                      · split at e
                        · cases e
                        · cases e
                          intro k hk
                          have h1 : (dItE A1).1 k = A1.1 k := by
                            funext j
                            unfold dItE
                            rcases mKs_or hk with rfl | rfl | rfl | rfl | rfl | rfl | rfl | rfl | rfl | rfl | rfl | rfl | rfl <;> simp only [tu1, tu2, uu1, uu2, uu3, vu1, vu2, vu3, su1, su2, Nat.reduceEqDiff, false_and, true_and, reduceIte, Bool.false_eq_true, if_true, if_false]
                          have h2 : (dIt A m (t + 1)).1 k = A.1 k := by
                            funext j
                            unfold dIt
                            rcases mKs_or hk with rfl | rfl | rfl | rfl | rfl | rfl | rfl | rfl | rfl | rfl | rfl | rfl | rfl <;> simp only [tu1, tu2, uu1, uu2, uu3, vu1, vu2, vu3, su1, su2, Nat.reduceEqDiff, false_and, true_and, reduceIte, Bool.false_eq_true, if_true, if_false]
                          have h3 : A1.1 k = (dIt A m (t + 1)).1 k := by
                            rcases mKs_or hk with rfl | rfl | rfl | rfl | rfl | rfl | rfl | rfl | rfl | rfl | rfl | rfl | rfl <;> exact it _ (by decide)
                          rw [h1, h3, h2]
/-- between modules -/
def DN (nt : Nat) (s0 : ms) (A : ds) (t la nc : Nat) (s : ms) : Prop :=
  DE s0 s ∧ Xm s 0 t la nc 0 0 ∧ (t ≤ nt + 1 ∧ la ≤ t ∧ nc ≤ t) ∧ Dtb A s ∧ (∀ d, A.1 5 d ≤ 20000) ∧ Dcd A s la nc ∧ (∀ m, m ≤ A.1 46 0 → 0 < A.1 46 0 → s.1 14 m = nI (A.1 21 m) ∧ s.1 15 m = nI (A.1 22 m) ∧ s.1 16 m = nI (A.1 23 m) ∧ s.1 17 m = nI (A.1 24 m))
theorem Zd.at8 {B B' f p y : Nat} (h : Zd B s0 s f p) (hy : y < B') : Zd B' s0 (upI s 8 (fun _ => nI y)) f p := by
  obtain ⟨h1, h2, h3, h4, h5, -, h7⟩ := h
  exact ⟨h1.upI (by decide), h2, h3, h4, h5, ⟨y, hy, rfl⟩, h7⟩
theorem Zd.nine {B f p : Nat} (h : Zd B s0 s f p) : ¬ s.1 9 0 = 0 := by
  rw [h.2.2.2.1]; exact nI_ne0 h.2.1 (by have := h.2.2.1; omega)
theorem Zd.r188 {B f p n : Nat} (hN : 13002 < N) (h : Zd B s0 s f p) : ∃ s', hd_M_module_188 N (n + 1) s = some ((), s') ∧ Zm s0 s' f p := by
  show ∃ s', bd_M_module_188 N (hd_M_module_188 N n) s = _ ∧ _
  unfold bd_M_module_188
  rw [if_neg h.nine]
  exact h.rest hN
theorem Zd.r125 {B f p n : Nat} (hN : 13002 < N) (h : Zd B s0 s f p) (hB : B < 60000) : ∃ s', hd_M_module_125 N (n + 1) s = some ((), s') ∧ Zm s0 s' f p := by
  show ∃ s', bd_M_module_125 N (hd_M_module_125 N n) s = _ ∧ _
  unfold bd_M_module_125
  rw [isZ9 h.nine, obind]
  dsimp only
  rw [if_pos rfl, isZ9 h.nine, obind]
  dsimp only
  rw [if_pos rfl]
  obtain ⟨x, x1, x2⟩ := h.2.2.2.2.2.1
  obtain ⟨N', hN'⟩ : ∃ k, N = k + 1 := ⟨N - 1, by omega⟩
  have ff : hd_M_module_188 N N = hd_M_module_188 N (N' + 1) := by rw [hN']
  rw [x2, lit_nI 2, nI_add, ff]
  exact (h.at8 (B' := 65000) (y := x + 2) (by omega)).r188 hN
theorem ports_M (hN : 13002 < N) (T : Tv tk pl nt) (hS : SD tk pl vl wi wd nt N s0) (hV : Vb tk vl wi) : ∀ (n t : Nat) (A : ds) (la nc : Nat) (s : ms), WF tk nt A t → DM nt s0 A t la nc s → ∀ q, dPorts tk pl vl wi wd nt n t A = some q → (∀ f p, q = .inl (f, p) → ∃ s', hd_M_module_125 N (n + 1) s = some ((), s') ∧ Zm s0 s' f p) ∧ (∀ t1 A1, q = .inr (t1, A1) → (∃ s' la' nc', hd_M_module_125 N (n + 1) s = hd_M_module_188 N N (upI s' 8 (fun _ => nI (t1 + 2))) ∧ DM nt s0 A1 t1 la' nc' s') ∧ t1 < nt ∧ ∀ k, k ∈ mKs → A1.1 k = A.1 k) := by
  have hnt := T.2.1
  intro n
  induction n with
  | zero => intro t A la nc s hW h q hq; cases hq
  | succ n ih =>
    intro t A la nc s hW h q hq
    unfold dPorts at hq
    by_cases c0 : nt ≤ t
    · rw [if_pos c0] at hq; cases hq
    rw [if_neg c0] at hq
    have st : hd_M_module_125 N (n + 1 + 1) s = bd_M_module_125 N (hd_M_module_125 N (n + 1)) s := rfl
    rw [st]
    unfold bd_M_module_125
    rw [lit_nI 302, isD hS T h.1 h.nine h.eight (by omega) (by decide), obind]
    dsimp only
    have go : tk t = 302 ∨ tk t = 303 → (∀ f p, q = .inl (f, p) → ∃ s', bk_M_module_145 N (hd_M_module_125 N (n + 1)) s = some ((), s') ∧ Zm s0 s' f p) ∧ (∀ t1 A1, q = .inr (t1, A1) → (∃ s' la' nc', bk_M_module_145 N (hd_M_module_125 N (n + 1)) s = hd_M_module_188 N N (upI s' 8 (fun _ => nI (t1 + 2))) ∧ DM nt s0 A1 t1 la' nc' s') ∧ t1 < nt ∧ ∀ k, k ∈ mKs → A1.1 k = A.1 k) := by
      intro c1
      rw [if_pos c1] at hq
      have pm := port_M hN T hS hV hW h (by omega)
      unfold bk_M_module_145
      match er : dPort tk pl vl wi wd nt t A with
      | none => rw [er] at hq; cases hq
      | some (.inl (f, p)) =>
        rw [er] at hq
        cases hq
        obtain ⟨s1, a1, a2, -⟩ := pm _ er
        have z := a2 f p rfl
        rw [a1, obind]
        dsimp only
        refine ⟨fun f p e => ?_, fun _ _ e => (by cases e)⟩
        cases e
        obtain ⟨x, x1, x2⟩ := z.2.2.2.2.2.1
        unfold fn_M_kind
        rw [x2, if_neg (nI_in (show x < 65540 by omega) (by decide)), obind]
        dsimp only
        unfold bk_M_module_172
        by_cases c : s1.1 4 (nI x).toNatClampNeg = 44
        · rw [if_pos c, x2, nI_1]
          exact (z.at8 (B' := 30000) (y := x + 1) (by omega)).r125 hN (by omega)
        · rw [if_neg c, x2]
          exact (z.at8 (B' := 30000) (y := x) (by omega)).r125 hN (by omega)
      | some (.inr (t1, A1)) =>
        rw [er, db_inr] at hq
        obtain ⟨s1, a1, -, a3⟩ := pm _ er
        obtain ⟨la1, nc1, b1⟩ := a3 t1 A1 rfl
        obtain ⟨w1, w2⟩ := dPort_wo hV hW t1 A1 er
        have mk := dPort_mk er
        by_cases c2 : nt ≤ t1
        · rw [if_pos c2] at hq; cases hq
        rw [if_neg c2] at hq
        have kl : tk t1 < 405 := T.lt (by omega)
        rw [a1, obind]
        dsimp only
        rw [kindD hS hnt b1.1 b1.eight (by omega), obind]
        dsimp only
        unfold bk_M_module_172
        have go2 : ∀ u, t1 ≤ u → u ≤ nt + 1 → dPorts tk pl vl wi wd nt n u A1 = some q → (∀ f p, q = .inl (f, p) → ∃ s', hd_M_module_125 N (n + 1) (upI s1 8 (fun _ => nI u)) = some ((), s') ∧ Zm s0 s' f p) ∧ (∀ t1 A1, q = .inr (t1, A1) → (∃ s' la' nc', hd_M_module_125 N (n + 1) (upI s1 8 (fun _ => nI u)) = hd_M_module_188 N N (upI s' 8 (fun _ => nI (t1 + 2))) ∧ DM nt s0 A1 t1 la' nc' s') ∧ t1 < nt ∧ ∀ k, k ∈ mKs → A1.1 k = A.1 k) := by
          intro u u1 u2 hq'
          obtain ⟨p1, p2⟩ := ih u A1 la1 nc1 _ (w1.later u1) (b1.tset (s' := upI s1 8 (fun _ => nI u)) (Eb.rfl.upI (by decide)) rfl u1 u2 hnt) q hq'
          refine ⟨p1, fun t2 A2 e => ?_⟩
          obtain ⟨y1, y2, y3⟩ := p2 t2 A2 e
          exact ⟨y1, y2, fun k hk => (y3 k hk).trans (mk k hk)⟩
        by_cases c3 : tk t1 = 44
        · rw [if_pos c3] at hq
          rw [if_pos (show nI (tk t1) = 44 by rw [c3]; rfl), b1.eight, nI_1]
          exact go2 (t1 + 1) (by omega) (by omega) hq
        · rw [if_neg c3] at hq
          rw [if_neg (show ¬ nI (tk t1) = 44 from fun z => c3 ((nI_eq (b := 44) (by omega) (by omega)).mp z)), b1.eight]
          exact go2 t1 (Nat.le_refl _) (by omega) hq
    by_cases c1 : tk t = 302
    · rw [if_neg (fun z => (b01_dec0.mp z) c1)]
      exact go (Or.inl c1)
    · rw [if_pos (b01_dec0.mpr c1), lit_nI 303, isD hS T h.1 h.nine h.eight (by omega) (by decide), obind]
      dsimp only
      by_cases c2 : tk t = 303
      · rw [if_neg (fun z => (b01_dec0.mp z) c2)]
        exact go (Or.inr c2)
      · rw [if_pos (b01_dec0.mpr c2), h.eight, lit_nI 2, nI_add]
        rw [if_neg (fun z => by rcases z with z | z; exact c1 z; exact c2 z)] at hq
        cases hq
        refine ⟨fun _ _ z => (by cases z), fun t1 A1 z => ?_⟩
        cases z
        exact ⟨⟨s, la, nc, rfl, h⟩, by omega, fun _ _ => rfl⟩
theorem items_M (hN : 13002 < N) (hN0 : N = N0 + 1) (T : Tv tk pl nt) (hS : SD tk pl vl wi wd nt N s0) (hV : Vb tk vl wi) : ∀ (n t : Nat) (A : ds) (la nc : Nat) (s : ms), WF tk nt A t → DM nt s0 A t la nc s → ∀ q, dItems tk pl vl wi wd nt N0 n t A = some q → (∀ f p, q = .inl (f, p) → ∃ s', hd_M_module_188 N (n + 1) s = some ((), s') ∧ Zm s0 s' f p) ∧ (∀ t1 A1, q = .inr (t1, A1) → (∃ s' la' nc', hd_M_module_188 N (n + 1) s = bk_M_module_212 N s' ∧ DM nt s0 A1 t1 la' nc' s') ∧ t1 < nt ∧ t ≤ t1 ∧ WF tk nt A1 t1 ∧ ∀ k, k ∈ mKs → A1.1 k = A.1 k) := by
  have hnt := T.2.1
  intro n
  induction n with
  | zero => intro t A la nc s hW h q hq; cases hq
  | succ n ih =>
    intro t A la nc s hW h q hq
    unfold dItems at hq
    by_cases c0 : nt ≤ t
    · rw [if_pos c0] at hq; cases hq
    rw [if_neg c0] at hq
    have kl : tk t < 405 := T.lt (by omega)
    have st : hd_M_module_188 N (n + 1 + 1) s = bd_M_module_188 N (hd_M_module_188 N (n + 1)) s := rfl
    rw [st]
    unfold bd_M_module_188
    rw [if_pos h.nine, kindD hS hnt h.1 h.eight (by omega), obind]
    dsimp only
    by_cases c1 : tk t = 301
    · rw [if_pos c1] at hq
      cases hq
      rw [if_pos (show nI (tk t) = 301 by rw [c1]; rfl)]
      refine ⟨fun _ _ z => (by cases z), fun t1 A1 z => ?_⟩
      cases z
      exact ⟨⟨s, la, nc, rfl, h⟩, by omega, Nat.le_refl _, hW, fun _ _ => rfl⟩
    · rw [if_neg c1] at hq
      rw [if_neg (show ¬ nI (tk t) = 301 from fun z => c1 ((nI_eq (b := 301) (by omega) (by omega)).mp z))]
      have im := item_M hN hN0 T hS hV hW h (by omega)
      match er : dItem tk pl vl wi wd nt N0 t A with
      | none => rw [er] at hq; cases hq
      | some (.inl (f, p)) =>
        rw [er] at hq
        cases hq
        obtain ⟨s1, a1, a2, -⟩ := im _ er
        rw [a1, obind]
        refine ⟨fun f p e => ?_, fun _ _ e => (by cases e)⟩
        cases e
        exact (a2 f p rfl).r188 hN
      | some (.inr (t1, A1)) =>
        rw [er, db_inr] at hq
        obtain ⟨s1, a1, -, a3⟩ := im _ er
        obtain ⟨la1, nc1, b1⟩ := a3 t1 A1 rfl
        obtain ⟨w1, w2⟩ := dItem_wo hV hW t1 A1 er
        have mk := dItem_mk er
        rw [a1, obind]
        obtain ⟨p1, p2⟩ := ih t1 A1 la1 nc1 s1 w1 b1 q hq
        refine ⟨p1, fun t2 A2 e => ?_⟩
        obtain ⟨y1, y2, y3, y4, y5⟩ := p2 t2 A2 e
        exact ⟨y1, y2, by omega, y4, fun k hk => (y5 k hk).trans (mk k hk)⟩
end MMOD2
