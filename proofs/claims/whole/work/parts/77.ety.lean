/-! Exps are typed: widths of what lies on the stack. -/
section ETY
variable {tk pl vl wi : Nat → Nat} {nm : Nat → Option (Nat × Nat)} {nt N0 : Nat}
def tS0 (nm : Nat → Option (Nat × Nat)) (o : aop) (ws ws' : List Nat) : Prop :=
  (o.1 = 0 ∧ ∃ w, o.2.1 < 2 ^ w ∧ ws' = w :: ws) ∨ (o.1 = 1 ∧ ∃ i w, nm i = some (o.2.1, w) ∧ ws' = w :: ws) ∨
  (o.1 = 2 ∧ ∃ w r, ws = w :: r ∧ o.2.2 ≤ o.2.1 ∧ o.2.1 < w ∧ ws' = (o.2.1 - o.2.2 + 1) :: r) ∨ (o.1 = 3 ∧ ∃ b r, ws = b :: o.2.1 :: r ∧ ws' = 1 :: r) ∨
  (o.1 = 4 ∧ ∃ r, ws = o.2.2 :: r ∧ isU o.2.1 = true ∧ ws' = (if o.2.1 = 126 ∨ o.2.1 = 45 then o.2.2 else 1) :: r) ∨
  (o.1 = 5 ∧ ∃ b r, ws = b :: o.2.2 :: r ∧ (bAny o.2.1 = true ∨ o.2.2 = b) ∧ isB o.2.1 ∧ ws' = bMade o.2.1 o.2.2 :: r) ∨
  (o.1 = 6 ∧ ∃ a c r, ws = a :: a :: c :: r ∧ ws' = a :: r) ∨ (o.1 = 7 ∧ ∃ u r, ws = o.2.1 :: u :: r ∧ u + o.2.1 ≤ 64 ∧ ws' = (u + o.2.1) :: r) ∨
  (o.1 = 8 ∧ ∃ r, ws = o.2.2 :: r ∧ o.2.1 ≠ 0 ∧ o.2.1 * o.2.2 ≤ 64 ∧ ws' = (o.2.1 * o.2.2) :: r)
theorem tS0.frame {o : aop} {ws ws' f : List Nat} (h : tS0 nm o ws ws') : tS0 nm o (ws ++ f) (ws' ++ f) := by
  rcases h with ⟨k, w, h1, rfl⟩ | ⟨k, i, w, h1, rfl⟩ | ⟨k, w, r, rfl, h2, h3, rfl⟩ | ⟨k, b, r, rfl, rfl⟩ | ⟨k, r, rfl, h2, rfl⟩ | ⟨k, b, r, rfl, h2, h3, rfl⟩ | ⟨k, a, c, r, rfl, rfl⟩ | ⟨k, u, r, rfl, h2, rfl⟩ | ⟨k, r, rfl, h2, h3, rfl⟩
  · exact Or.inl ⟨k, w, h1, rfl⟩
  · exact Or.inr (Or.inl ⟨k, i, w, h1, rfl⟩)
  · exact Or.inr (Or.inr (Or.inl ⟨k, w, r ++ f, rfl, h2, h3, rfl⟩))
  · exact Or.inr (Or.inr (Or.inr (Or.inl ⟨k, b, r ++ f, rfl, rfl⟩)))
  · exact Or.inr (Or.inr (Or.inr (Or.inr (Or.inl ⟨k, r ++ f, rfl, h2, rfl⟩))))
  · exact Or.inr (Or.inr (Or.inr (Or.inr (Or.inr (Or.inl ⟨k, b, r ++ f, rfl, h2, h3, rfl⟩)))))
  · exact Or.inr (Or.inr (Or.inr (Or.inr (Or.inr (Or.inr (Or.inl ⟨k, a, c, r ++ f, rfl, rfl⟩))))))
  · exact Or.inr (Or.inr (Or.inr (Or.inr (Or.inr (Or.inr (Or.inr (Or.inl ⟨k, u, r ++ f, rfl, h2, rfl⟩)))))))
  · exact Or.inr (Or.inr (Or.inr (Or.inr (Or.inr (Or.inr (Or.inr (Or.inr ⟨k, r ++ f, rfl, h2, h3, rfl⟩)))))))
theorem tS0.le {o : aop} {ws ws' : List Nat} (h : tS0 nm o ws ws') : o.1 ≤ 8 := by
  rcases h with ⟨k, _⟩ | ⟨k, _⟩ | ⟨k, _⟩ | ⟨k, _⟩ | ⟨k, _⟩ | ⟨k, _⟩ | ⟨k, _⟩ | ⟨k, _⟩ | ⟨k, _⟩ <;> omega
/-- bounds of an op -/
def ob (o : aop) : Prop := (o.1 = 2 → o.2.2 ≤ o.2.1 ∧ o.2.1 < 64) ∧ (o.1 = 3 → o.2.1 ≤ 64) ∧ (o.1 = 4 → 1 ≤ o.2.2 ∧ o.2.2 ≤ 64 ∧ isU o.2.1 = true) ∧ (o.1 = 5 → 1 ≤ o.2.2 ∧ o.2.2 ≤ 64 ∧ isB o.2.1) ∧ (o.1 = 7 → o.2.1 ≤ 64) ∧ (o.1 = 8 → 1 ≤ o.2.1 ∧ 1 ≤ o.2.2 ∧ o.2.1 * o.2.2 ≤ 64)
theorem ob0 {x y : Nat} : ob (0, x, y) := ⟨fun z => absurd z (show ¬ 0 = 2 by decide), fun z => absurd z (show ¬ 0 = 3 by decide), fun z => absurd z (show ¬ 0 = 4 by decide), fun z => absurd z (show ¬ 0 = 5 by decide), fun z => absurd z (show ¬ 0 = 7 by decide), fun z => absurd z (show ¬ 0 = 8 by decide)⟩
theorem ob1 {x y : Nat} : ob (1, x, y) := ⟨fun z => absurd z (show ¬ 1 = 2 by decide), fun z => absurd z (show ¬ 1 = 3 by decide), fun z => absurd z (show ¬ 1 = 4 by decide), fun z => absurd z (show ¬ 1 = 5 by decide), fun z => absurd z (show ¬ 1 = 7 by decide), fun z => absurd z (show ¬ 1 = 8 by decide)⟩
theorem ob2 {x y : Nat} (h : y ≤ x ∧ x < 64) : ob (2, x, y) := ⟨fun _ => h, fun z => absurd z (show ¬ 2 = 3 by decide), fun z => absurd z (show ¬ 2 = 4 by decide), fun z => absurd z (show ¬ 2 = 5 by decide), fun z => absurd z (show ¬ 2 = 7 by decide), fun z => absurd z (show ¬ 2 = 8 by decide)⟩
theorem ob3 {x y : Nat} (h : x ≤ 64) : ob (3, x, y) := ⟨fun z => absurd z (show ¬ 3 = 2 by decide), fun _ => h, fun z => absurd z (show ¬ 3 = 4 by decide), fun z => absurd z (show ¬ 3 = 5 by decide), fun z => absurd z (show ¬ 3 = 7 by decide), fun z => absurd z (show ¬ 3 = 8 by decide)⟩
theorem ob4 {x y : Nat} (h : 1 ≤ y ∧ y ≤ 64 ∧ isU x = true) : ob (4, x, y) := ⟨fun z => absurd z (show ¬ 4 = 2 by decide), fun z => absurd z (show ¬ 4 = 3 by decide), fun _ => h, fun z => absurd z (show ¬ 4 = 5 by decide), fun z => absurd z (show ¬ 4 = 7 by decide), fun z => absurd z (show ¬ 4 = 8 by decide)⟩
theorem ob5 {x y : Nat} (h : 1 ≤ y ∧ y ≤ 64 ∧ isB x) : ob (5, x, y) := ⟨fun z => absurd z (show ¬ 5 = 2 by decide), fun z => absurd z (show ¬ 5 = 3 by decide), fun z => absurd z (show ¬ 5 = 4 by decide), fun _ => h, fun z => absurd z (show ¬ 5 = 7 by decide), fun z => absurd z (show ¬ 5 = 8 by decide)⟩
theorem ob6 {x y : Nat} : ob (6, x, y) := ⟨fun z => absurd z (show ¬ 6 = 2 by decide), fun z => absurd z (show ¬ 6 = 3 by decide), fun z => absurd z (show ¬ 6 = 4 by decide), fun z => absurd z (show ¬ 6 = 5 by decide), fun z => absurd z (show ¬ 6 = 7 by decide), fun z => absurd z (show ¬ 6 = 8 by decide)⟩
theorem ob7 {x y : Nat} (h : x ≤ 64) : ob (7, x, y) := ⟨fun z => absurd z (show ¬ 7 = 2 by decide), fun z => absurd z (show ¬ 7 = 3 by decide), fun z => absurd z (show ¬ 7 = 4 by decide), fun z => absurd z (show ¬ 7 = 5 by decide), fun _ => h, fun z => absurd z (show ¬ 7 = 8 by decide)⟩
theorem ob8 {x y : Nat} (h : 1 ≤ x ∧ 1 ≤ y ∧ x * y ≤ 64) : ob (8, x, y) := ⟨fun z => absurd z (show ¬ 8 = 2 by decide), fun z => absurd z (show ¬ 8 = 3 by decide), fun z => absurd z (show ¬ 8 = 4 by decide), fun z => absurd z (show ¬ 8 = 5 by decide), fun z => absurd z (show ¬ 8 = 7 by decide), fun _ => h⟩
def tS (nm : Nat → Option (Nat × Nat)) (o : aop) (ws ws' : List Nat) : Prop := ob o ∧ tS0 nm o ws ws'
theorem tS.frame {o : aop} {ws ws' f : List Nat} (h : tS nm o ws ws') : tS nm o (ws ++ f) (ws' ++ f) := ⟨h.1, h.2.frame⟩
theorem tS.le {o : aop} {ws ws' : List Nat} (h : tS nm o ws ws') : o.1 ≤ 8 := h.2.le
def Ty (nm : Nat → Option (Nat × Nat)) : List aop → List Nat → List Nat → Prop
  | [], ws, ws' => ws = ws'
  | o :: L, ws, ws' => ∃ w1, tS nm o ws w1 ∧ Ty nm L w1 ws'
theorem Ty.app : ∀ {A B : List aop} {a b c : List Nat}, Ty nm A a b → Ty nm B b c → Ty nm (A ++ B) a c
  | [], B, a, b, c, h, g => by have h : a = b := h; rw [h]; exact g
  | o :: A, B, a, b, c, h, g => by
    obtain ⟨w1, h1, h2⟩ := h
    exact ⟨w1, h1, Ty.app h2 g⟩
theorem Ty.frame : ∀ {A : List aop} {a b f : List Nat}, Ty nm A a b → Ty nm A (a ++ f) (b ++ f)
  | [], a, b, f, h => by have h : a = b := h; rw [h]; rfl
  | o :: A, a, b, f, h => by
    obtain ⟨w1, h1, h2⟩ := h
    exact ⟨w1 ++ f, h1.frame, Ty.frame h2⟩
theorem Ty.one {o : aop} {a b : List Nat} (h : tS nm o a b) : Ty nm [o] a b := ⟨b, h, rfl⟩
theorem Ty.le : ∀ {A : List aop} {a b : List Nat}, Ty nm A a b → ∀ o, o ∈ A → o.1 ≤ 8
  | [], _, _, _, o, ho => by simp at ho
  | o :: A, a, b, h, p, hp => by
    obtain ⟨w1, h1, h2⟩ := h
    rcases List.mem_cons.mp hp with rfl | hp
    · exact h1.le
    · exact Ty.le h2 p hp
theorem Ty.ld : ∀ {A : List aop} {a b : List Nat}, Ty nm A a b → ∀ o, o ∈ A → o.1 = 1 → ∃ i w, nm i = some (o.2.1, w)
  | [], _, _, _, o, ho, _ => by simp at ho
  | o :: A, a, b, h, p, hp, k => by
    obtain ⟨w1, h1, h2⟩ := h
    rcases List.mem_cons.mp hp with rfl | hp
    · rcases h1.2 with ⟨q, _⟩ | ⟨_, i, w, q, _⟩ | ⟨q, _⟩ | ⟨q, _⟩ | ⟨q, _⟩ | ⟨q, _⟩ | ⟨q, _⟩ | ⟨q, _⟩ | ⟨q, _⟩
      · omega
      · exact ⟨i, w, q⟩
      all_goals omega
    · exact Ty.ld h2 p hp k
theorem Ty.ob : ∀ {A : List aop} {a b : List Nat}, Ty nm A a b → ∀ o, o ∈ A → ob o
  | [], _, _, _, o, ho => by simp at ho
  | o :: A, a, b, h, p, hp => by
    obtain ⟨w1, h1, h2⟩ := h
    rcases List.mem_cons.mp hp with rfl | hp
    · exact h1.1
    · exact Ty.ob h2 p hp
/-- an exp's result is typed -/
def XT (nm : Nat → Option (Nat × Nat)) (r : xr) : Prop := ∀ w t' L C, r = some (.inr (w, t', L, C)) → 1 ≤ w ∧ w ≤ 64 ∧ Ty nm L [] [w]
theorem XT.nono : XT nm none := fun _ _ _ _ h => by cases h
theorem XT.fault {f p : Nat} : XT nm (xno f p) := fun _ _ _ _ h => by cases h
theorem XT.ok {w t : Nat} {L : List aop} {C : Nat} (h1 : 1 ≤ w) (h2 : w ≤ 64) (h : Ty nm L [] [w]) : XT nm (xok w t L C) := fun _ _ _ _ e => by cases e; exact ⟨h1, h2, h⟩
theorem XT.bind {r : xr} {k : Nat → Nat → List aop → Nat → xr} (h : XT nm r) (g : ∀ w t L C, 1 ≤ w → w ≤ 64 → Ty nm L [] [w] → XT nm (k w t L C)) : XT nm (xb r k) := by
  match r, h with
  | none, _ => exact XT.nono
  | some (.inl f), _ => exact fun _ _ _ _ e => by cases e
  | some (.inr (w, t, L, C)), h =>
    obtain ⟨a, b, c⟩ := h _ _ _ _ rfl
    exact g w t L C a b c
theorem eRed_ty {r : Nat} : ∀ (ops : List (Nat × Nat)) (ws : List Nat) (L : List aop) (C : Nat) (ops' : List (Nat × Nat)) (ws' : List Nat) (L' : List aop) (C' : Nat), eRed r ops ws L C = some (.inr (ops', ws', L', C')) → (∀ o, o ∈ ops → isB o.1) → (∀ w, w ∈ ws → 1 ≤ w ∧ w ≤ 64) → Ty nm L [] ws → (∀ o, o ∈ ops' → isB o.1) ∧ (∀ w, w ∈ ws' → 1 ≤ w ∧ w ≤ 64) ∧ Ty nm L' [] ws' := by
  intro ops
  induction ops with
  | nil => intro ws L C ops' ws' L' C' e h1 h2 h3; cases e; exact ⟨h1, h2, h3⟩
  | cons o ops ih =>
    intro ws L C ops' ws' L' C' e h1 h2 h3
    obtain ⟨k, p⟩ := o
    unfold eRed at e
    split at e
    · match ws, e, h2, h3 with
      | b :: a :: ws, e, h2, h3 =>
        dsimp only at e
        split at e
        · rename_i g
          have ha := h2 a (by simp)
          have kb : isB k := h1 (k, p) (by simp)
          refine ih _ _ _ _ _ _ _ e (fun o ho => h1 o (by simp [ho])) (fun w hw => ?_) (h3.app (Ty.one ⟨ob5 ⟨ha.1, ha.2, kb⟩, Or.inr (Or.inr (Or.inr (Or.inr (Or.inr (Or.inl ⟨rfl, b, ws, rfl, g, kb, rfl⟩)))))⟩))
          rcases List.mem_cons.mp hw with rfl | hw
          · exact bMade_in ha.1 ha.2
          · exact h2 w (by simp [hw])
        · cases e
      | [], e, _, _ => cases e
      | [w], e, _, _ => cases e
    · cases e; exact ⟨h1, h2, h3⟩
theorem eBl_ty {eO : Nat → xr} (hO : ∀ t, XT nm (eO t)) : ∀ (n : Nat) (ops : List (Nat × Nat)) (ws : List Nat) (L : List aop) (C t : Nat), (∀ o, o ∈ ops → isB o.1) → (∀ w, w ∈ ws → 1 ≤ w ∧ w ≤ 64) → Ty nm L [] ws → XT nm (eBl tk pl nt eO n ops ws L C t) := by
  intro n
  induction n with
  | zero => intro ops ws L C t _ _ _; exact XT.nono
  | succ n ih =>
    intro ops ws L C t h1 h2 h3
    unfold eBl
    by_cases c : nt ≤ t
    · rw [if_pos c]; exact XT.nono
    rw [if_neg c]
    by_cases z : 0 < rk (tk t)
    · rw [if_pos z]
      match e : eRed (rk (tk t)) ops ws L C with
      | none => exact XT.nono
      | some (.inl f) => exact fun _ _ _ _ e => by cases e
      | some (.inr (ops', ws', L', C')) =>
        obtain ⟨a1, a2, a3⟩ := eRed_ty (nm := nm) ops ws L C ops' ws' L' C' e h1 h2 h3
        refine (hO (t + 1)).bind (fun w t2 L2 C2 w1 w2 hT => ih _ _ _ _ _ (fun o ho => ?_) (fun x hx => ?_) (a3.app (hT.frame (f := ws'))))
        · rcases List.mem_cons.mp ho with rfl | ho
          · exact isB_of z
          · exact a1 o ho
        · rcases List.mem_cons.mp hx with rfl | hx
          · exact ⟨w1, w2⟩
          · exact a2 x hx
    · rw [if_neg z]
      match e : eRed 1 ops ws L C with
      | none => exact XT.nono
      | some (.inl f) => exact fun _ _ _ _ e => by cases e
      | some (.inr (ops', ws', L', C')) =>
        obtain ⟨a1, a2, a3⟩ := eRed_ty (nm := nm) ops ws L C ops' ws' L' C' e h1 h2 h3
        match ws', a2, a3 with
        | [w], a2, a3 => have := a2 w (by simp); exact XT.ok this.1 this.2 a3
        | [], _, _ => exact XT.nono
        | _ :: _ :: _, _, _ => exact XT.nono
theorem eUa_ty (t0 : Nat) : ∀ (n w : Nat) (L : List aop) (C : Nat), 1 ≤ w → w ≤ 64 → (∀ i, i < n → isU (tk (t0 + i)) = true) → Ty nm L [] [w] → Ty nm (eUa tk t0 n w L C).2.1 [] [(eUa tk t0 n w L C).1]
  | 0, w, L, C, _, _, _, h => h
  | n + 1, w, L, C, a, b, u, h => eUa_ty t0 n _ _ _ (by split <;> omega) (by split <;> omega) (fun i hi => u i (by omega)) (h.app (Ty.one ⟨ob4 ⟨a, b, u n (by omega)⟩, Or.inr (Or.inr (Or.inr (Or.inr (Or.inl ⟨rfl, [], rfl, u n (by omega), rfl⟩))))⟩))
theorem eOl_ty {eP : Nat → xr} (hP : ∀ t, XT nm (eP t)) (t0 : Nat) : ∀ (n t : Nat), t0 ≤ t → (∀ i, i < t - t0 → isU (tk (t0 + i)) = true) → XT nm (eOl tk nt eP t0 n t) := by
  intro n
  induction n with
  | zero => intro t _ _; exact XT.nono
  | succ n ih =>
    intro t h1 h2
    unfold eOl
    by_cases c : nt ≤ t
    · rw [if_pos c]; exact XT.nono
    rw [if_neg c]
    by_cases z : isU (tk t) = true
    · rw [if_pos z]
      refine ih (t + 1) (by omega) (fun i hi => ?_)
      by_cases q : i < t - t0
      · exact h2 i q
      · rw [show t0 + i = t by omega]; exact z
    · rw [if_neg z]
      refine (hP t).bind (fun w t2 L C w1 w2 hT => ?_)
      have := eUa_len (tk := tk) t0 (t - t0) w L C w1 w2
      exact XT.ok this.2.1 this.2.2 (eUa_ty t0 _ _ _ _ w1 w2 h2 hT)
theorem eJl_le {eE : Nat → xr} {p : Nat} : ∀ (n u t : Nat) (L : List aop) (C w t' : Nat) (L' : List aop) (C' : Nat), eJl tk nt eE p n u t L C = some (.inr (w, t', L', C')) → u ≤ w ∧ w ≤ 64 := by
  intro n
  induction n with
  | zero => intro u t L C w t' L' C' h; cases h
  | succ n ih =>
    intro u t L C w t' L' C' h
    unfold eJl at h
    split at h
    · cases h
    · split at h
      · rcases xb_some h with ⟨f, q, r1, e⟩ | ⟨w2, t2, L2, C2, r1, h⟩
        · cases e
        · have := ih _ _ _ _ _ _ _ _ h; omega
      · split at h
        · cases h
        · unfold xok at h; cases h; omega
theorem eJl_ty {eE : Nat → xr} {p : Nat} (hE : ∀ t, XT nm (eE t)) : ∀ (n u t : Nat) (L : List aop) (C : Nat), 1 ≤ u → Ty nm L [] [u] → XT nm (eJl tk nt eE p n u t L C) := by
  intro n
  induction n with
  | zero => intro u t L C _ _; exact XT.nono
  | succ n ih =>
    intro u t L C h1 h2 w t' L' C' e
    have le := eJl_le _ _ _ _ _ _ _ _ _ e
    unfold eJl at e
    split at e
    · cases e
    · split at e
      · rcases xb_some e with ⟨f, q, r1, e'⟩ | ⟨w2, t2, L2, C2, r1, e'⟩
        · cases e'
        · have le2 := eJl_le _ _ _ _ _ _ _ _ _ e'
          obtain ⟨x1, x2, x3⟩ := hE _ _ _ _ _ r1
          exact ih _ _ _ _ (by omega) ((h2.app (x3.frame (f := [u]))).app (Ty.one (o := (7, w2, 0)) ⟨ob7 (by omega), Or.inr (Or.inr (Or.inr (Or.inr (Or.inr (Or.inr (Or.inr (Or.inl ⟨rfl, u, [], rfl, by show u + w2 ≤ 64; omega, rfl⟩)))))))⟩)) _ _ _ _ e'
      · split at e
        · cases e
        · unfold xok at e; cases e; exact ⟨h1, by omega, h2⟩
/-- typed: exp, binary, operand, primary, braces -/
theorem eG_ty (hl : ∀ i, tk i = 402 → vl i < 2 ^ wi i ∧ 1 ≤ wi i ∧ wi i ≤ 64) (hn : ∀ i q, nm i = some q → 1 ≤ q.2 ∧ q.2 ≤ 64) : ∀ d, (∀ t, XT nm ((eG tk pl vl wi nm nt N0 d).1 t)) ∧ (∀ t, XT nm ((eG tk pl vl wi nm nt N0 d).2.1 t)) ∧ (∀ t, XT nm ((eG tk pl vl wi nm nt N0 d).2.2.1 t)) ∧ (∀ t, XT nm ((eG tk pl vl wi nm nt N0 d).2.2.2.1 t)) ∧ (∀ p t, XT nm ((eG tk pl vl wi nm nt N0 d).2.2.2.2 p t)) := by
  intro d
  induction d with
  | zero => exact ⟨fun _ => XT.nono, fun _ => XT.nono, fun _ => XT.nono, fun _ => XT.nono, fun _ _ => XT.nono⟩
  | succ d ih =>
    obtain ⟨i1, i2, i3, i4, i5⟩ := ih
    refine ⟨fun t => ?_, fun t => ?_, fun t => ?_, fun t => ?_, fun p t => ?_⟩
    · show XT nm (eX1 tk pl _ _ t)
      unfold eX1
      refine (i2 t).bind (fun c t1 L C c1 c2 hc => ?_)
      by_cases q : tk t1 = 63
      · rw [if_pos q]
        refine (i1 _).bind (fun a t2 L2 C2 a1 a2 ha => (i1 _).bind (fun b t3 L3 C3 b1 b2 hb => ?_))
        by_cases z : a = b
        · rw [if_pos z]
          subst z
          exact XT.ok a1 a2 (((hc.app (ha.frame (f := [c]))).app (hb.frame (f := [a, c]))).app (Ty.one ⟨ob6, Or.inr (Or.inr (Or.inr (Or.inr (Or.inr (Or.inr (Or.inl ⟨rfl, a, c, [], rfl, rfl⟩))))))⟩))
        · rw [if_neg z]; exact XT.fault
      · rw [if_neg q]; exact XT.ok c1 c2 hc
    · show XT nm (eBin tk pl nt N0 _ t)
      unfold eBin
      exact (i3 t).bind (fun w t2 L C w1 w2 hT => eBl_ty i3 _ _ _ _ _ _ (fun o ho => by simp at ho) (fun x hx => by simp at hx; subst hx; exact ⟨w1, w2⟩) hT)
    · exact eOl_ty i4 t N0 t (Nat.le_refl _) (fun i hi => by omega)
    · show XT nm (eP1 tk pl vl wi nm nt _ _ t)
      unfold eP1
      by_cases k2 : tk t = 402
      · rw [if_pos k2]
        have := hl t k2
        exact XT.ok this.2.1 this.2.2 (Ty.one ⟨ob0, Or.inl ⟨rfl, _, this.1, rfl⟩⟩)
      rw [if_neg k2]
      by_cases k40 : tk t = 40
      · rw [if_pos k40]; exact (i1 _).bind (fun w t2 L C w1 w2 hT => XT.ok w1 w2 hT)
      rw [if_neg k40]
      by_cases k123 : tk t = 123
      · rw [if_pos k123]; exact i5 _ _
      rw [if_neg k123]
      by_cases k400 : tk t = 400
      · rw [if_pos k400]
        match e : nm t with
        | none => exact XT.fault
        | some (q, wq) =>
          have hq := hn t _ e
          dsimp only at hq ⊢
          have ld : Ty nm [(1, q, 0)] [] [wq] := Ty.one ⟨ob1, Or.inr (Or.inl ⟨rfl, t, wq, e, rfl⟩)⟩
          by_cases k91 : tk (t + 1) = 91
          · rw [if_pos k91]
            by_cases k401 : tk (t + 2) = 401
            · rw [if_pos k401]
              by_cases k58 : tk (t + 3) = 58
              · rw [if_pos k58]
                split
                · exact XT.nono
                split
                · exact XT.fault
                · rename_i z
                  exact XT.ok (by omega) (by omega) (Ty.app (A := [(1, q, 0)]) ld (Ty.one ⟨ob2 ⟨by omega, by omega⟩, Or.inr (Or.inr (Or.inl ⟨rfl, wq, [], rfl, by show vl (t + 4) ≤ vl (t + 2); omega, by show vl (t + 2) < wq; omega, rfl⟩))⟩))
              · rw [if_neg k58]
                split
                · exact XT.fault
                · rename_i z
                  refine XT.ok (by omega) (by omega) (Ty.app (A := [(1, q, 0)]) ld (Ty.one ⟨ob2 ⟨Nat.le_refl _, by omega⟩, Or.inr (Or.inr (Or.inl ⟨rfl, wq, [], rfl, Nat.le_refl _, by show vl (t + 2) < wq; omega, by show [1] = [vl (t + 2) - vl (t + 2) + 1]; rw [Nat.sub_self]⟩))⟩))
            · rw [if_neg k401]
              exact (i1 _).bind (fun w t2 L C w1 w2 hT => XT.ok (by omega) (by omega) ((ld.app (hT.frame (f := [wq]))).app (Ty.one ⟨ob3 (by omega), Or.inr (Or.inr (Or.inr (Or.inl ⟨rfl, w, [], rfl, rfl⟩)))⟩)))
          · rw [if_neg k91]
            exact XT.ok hq.1 hq.2 ld
      · rw [if_neg k400]; exact XT.nono
    · show XT nm (eBr1 tk vl nt N0 _ p t)
      unfold eBr1
      by_cases c : nt ≤ t
      · rw [if_pos c]; exact XT.nono
      rw [if_neg c]
      by_cases k : tk t = 401
      · rw [if_pos k]
        refine (i1 _).bind (fun w t2 L C w1 w2 hT => ?_)
        by_cases z : vl t = 0 ∨ 64 < vl t * w
        · rw [if_pos z]; exact XT.fault
        · rw [if_neg z]
          have z1 : vl t ≠ 0 := fun q => z (Or.inl q)
          have z2 : vl t * w ≤ 64 := by have : ¬ 64 < vl t * w := fun q => z (Or.inr q); omega
          exact XT.ok (Nat.mul_pos (by omega) w1) z2 (hT.app (Ty.one ⟨ob8 ⟨by omega, w1, z2⟩, Or.inr (Or.inr (Or.inr (Or.inr (Or.inr (Or.inr (Or.inr (Or.inr ⟨rfl, [], rfl, z1, z2, rfl⟩)))))))⟩))
      · rw [if_neg k]
        exact (i1 _).bind (fun w t2 L C w1 w2 hT => eJl_ty i1 _ _ _ _ _ w1 hT)
end ETY
