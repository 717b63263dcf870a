/-! The reference's exps are the meaning's. -/
section MEX
variable {tk pl vl wi : Nat → Nat} {nm : Nat → Option (Nat × Nat)} {nt m N N0 : Nat}
/-- an op in the reference's code, at j -/
def rop (code : Nat → Int32) (nums : Nat → Int64) (nc j : Nat) (o : aop) : Prop :=
  code (3 * j) = nI o.1 ∧ (o.1 = 0 → ∃ n, n < nc ∧ code (3 * j + 1) = nI n ∧ nums n = lN o.2.1) ∧ (o.1 = 1 → code (3 * j + 1) = nI o.2.1) ∧ (o.1 = 2 → code (3 * j + 1) = nI o.2.1 ∧ code (3 * j + 2) = nI o.2.2) ∧ (o.1 = 3 → code (3 * j + 1) = nI o.2.1) ∧ (o.1 = 4 → code (3 * j + 1) = nI o.2.1 ∧ code (3 * j + 2) = nI o.2.2) ∧ (o.1 = 5 → code (3 * j + 1) = nI o.2.1 ∧ code (3 * j + 2) = nI (bMade o.2.1 o.2.2)) ∧ (o.1 = 7 → code (3 * j + 1) = nI o.2.1) ∧ (o.1 = 8 → code (3 * j + 1) = nI o.2.1 ∧ code (3 * j + 2) = nI o.2.2)
def rEnc (code : Nat → Int32) (nums : Nat → Int64) (nc la : Nat) (L : List aop) : Prop := ∀ i o, L[i]? = some o → rop code nums nc (la + i) o
theorem rop.mono {code code' : Nat → Int32} {nums nums' : Nat → Int64} {nc nc' j : Nat} {o : aop} (h : rop code nums nc j o) (h1 : ∀ k, k < 3 * j + 3 → code' k = code k) (h2 : ∀ k, k < nc → nums' k = nums k) (h3 : nc ≤ nc') : rop code' nums' nc' j o := by
  unfold rop at *
  rw [h1 _ (by omega), h1 _ (by omega), h1 _ (by omega)]
  refine ⟨h.1, fun z => ?_, h.2.2⟩
  obtain ⟨n, n1, n2, n3⟩ := h.2.1 z
  exact ⟨n, by omega, n2, by rw [h2 n n1]; exact n3⟩
theorem rEnc.mono {code code' : Nat → Int32} {nums nums' : Nat → Int64} {nc nc' la : Nat} {L : List aop} (h : rEnc code nums nc la L) (h1 : ∀ k, k < 3 * (la + L.length) → code' k = code k) (h2 : ∀ k, k < nc → nums' k = nums k) (h3 : nc ≤ nc') : rEnc code' nums' nc' la L := fun i o hi => by
  have : i < L.length := (List.getElem?_eq_some_iff.mp hi).1
  exact (h i o hi).mono (fun k hk => h1 k (by omega)) h2 h3
theorem rEnc.nil {code : Nat → Int32} {nums : Nat → Int64} {nc la : Nat} : rEnc code nums nc la [] := fun i o hi => by simp at hi
theorem rEnc.app {code : Nat → Int32} {nums : Nat → Int64} {nc la : Nat} {A B : List aop} (h : rEnc code nums nc la A) (g : rEnc code nums nc (la + A.length) B) : rEnc code nums nc la (A ++ B) := fun i o hi => by
  by_cases c : i < A.length
  · rw [List.getElem?_append_left c] at hi; exact h i o hi
  · rw [List.getElem?_append_right (by omega)] at hi
    have := g _ o hi
    rw [show la + A.length + (i - A.length) = la + i by omega] at this; exact this
theorem rEnc.one {code : Nat → Int32} {nums : Nat → Int64} {nc la : Nat} {o : aop} (h : rop code nums nc la o) : rEnc code nums nc la [o] := fun i x hi => by
  cases i with
  | zero => cases hi; exact h
  | succ i => simp at hi
theorem rop_0 {code : Nat → Int32} {nums : Nat → Int64} {nc j v n : Nat} (h : code (3 * j) = 0) (h1 : code (3 * j + 1) = nI n) (h2 : n < nc) (h3 : nums n = lN v) : rop code nums nc j (0, v, 0) := ⟨h, fun _ => ⟨n, h2, h1, h3⟩, (fun z => absurd z (by simp)), (fun z => absurd z (by simp)), (fun z => absurd z (by simp)), (fun z => absurd z (by simp)), (fun z => absurd z (by simp)), (fun z => absurd z (by simp)), (fun z => absurd z (by simp))⟩
theorem rop_1 {code : Nat → Int32} {nums : Nat → Int64} {nc j d : Nat} (h : code (3 * j) = 1) (h1 : code (3 * j + 1) = nI d) : rop code nums nc j (1, d, 0) := ⟨h, (fun z => absurd z (by simp)), fun _ => h1, (fun z => absurd z (by simp)), (fun z => absurd z (by simp)), (fun z => absurd z (by simp)), (fun z => absurd z (by simp)), (fun z => absurd z (by simp)), (fun z => absurd z (by simp))⟩
theorem rop_2 {code : Nat → Int32} {nums : Nat → Int64} {nc j a b : Nat} (h : code (3 * j) = 2) (h1 : code (3 * j + 1) = nI a) (h2 : code (3 * j + 2) = nI b) : rop code nums nc j (2, a, b) := ⟨h, (fun z => absurd z (by simp)), (fun z => absurd z (by simp)), fun _ => ⟨h1, h2⟩, (fun z => absurd z (by simp)), (fun z => absurd z (by simp)), (fun z => absurd z (by simp)), (fun z => absurd z (by simp)), (fun z => absurd z (by simp))⟩
theorem rop_3 {code : Nat → Int32} {nums : Nat → Int64} {nc j d : Nat} (h : code (3 * j) = 3) (h1 : code (3 * j + 1) = nI d) : rop code nums nc j (3, d, 0) := ⟨h, (fun z => absurd z (by simp)), (fun z => absurd z (by simp)), (fun z => absurd z (by simp)), fun _ => h1, (fun z => absurd z (by simp)), (fun z => absurd z (by simp)), (fun z => absurd z (by simp)), (fun z => absurd z (by simp))⟩
theorem rop_4 {code : Nat → Int32} {nums : Nat → Int64} {nc j a b : Nat} (h : code (3 * j) = 4) (h1 : code (3 * j + 1) = nI a) (h2 : code (3 * j + 2) = nI b) : rop code nums nc j (4, a, b) := ⟨h, (fun z => absurd z (by simp)), (fun z => absurd z (by simp)), (fun z => absurd z (by simp)), (fun z => absurd z (by simp)), fun _ => ⟨h1, h2⟩, (fun z => absurd z (by simp)), (fun z => absurd z (by simp)), (fun z => absurd z (by simp))⟩
theorem rop_5 {code : Nat → Int32} {nums : Nat → Int64} {nc j a b : Nat} (h : code (3 * j) = 5) (h1 : code (3 * j + 1) = nI a) (h2 : code (3 * j + 2) = nI (bMade a b)) : rop code nums nc j (5, a, b) := ⟨h, (fun z => absurd z (by simp)), (fun z => absurd z (by simp)), (fun z => absurd z (by simp)), (fun z => absurd z (by simp)), (fun z => absurd z (by simp)), fun _ => ⟨h1, h2⟩, (fun z => absurd z (by simp)), (fun z => absurd z (by simp))⟩
theorem rop_6 {code : Nat → Int32} {nums : Nat → Int64} {nc j : Nat} (h : code (3 * j) = 6) : rop code nums nc j (6, 0, 0) := ⟨h, (fun z => absurd z (by simp)), (fun z => absurd z (by simp)), (fun z => absurd z (by simp)), (fun z => absurd z (by simp)), (fun z => absurd z (by simp)), (fun z => absurd z (by simp)), (fun z => absurd z (by simp)), (fun z => absurd z (by simp))⟩
theorem rop_7 {code : Nat → Int32} {nums : Nat → Int64} {nc j d : Nat} (h : code (3 * j) = 7) (h1 : code (3 * j + 1) = nI d) : rop code nums nc j (7, d, 0) := ⟨h, (fun z => absurd z (by simp)), (fun z => absurd z (by simp)), (fun z => absurd z (by simp)), (fun z => absurd z (by simp)), (fun z => absurd z (by simp)), (fun z => absurd z (by simp)), fun _ => h1, (fun z => absurd z (by simp))⟩
theorem rop_8 {code : Nat → Int32} {nums : Nat → Int64} {nc j a b : Nat} (h : code (3 * j) = 8) (h1 : code (3 * j + 1) = nI a) (h2 : code (3 * j + 2) = nI b) : rop code nums nc j (8, a, b) := ⟨h, (fun z => absurd z (by simp)), (fun z => absurd z (by simp)), (fun z => absurd z (by simp)), (fun z => absurd z (by simp)), (fun z => absurd z (by simp)), (fun z => absurd z (by simp)), (fun z => absurd z (by simp)), fun _ => ⟨h1, h2⟩⟩
/-- where an exp of the reference ends -/
def XPo (m nt b : Nat) (t la nc W F C : Nat) (v : Int32) (s' : ms) (q : Sum (Nat × Nat) (Nat × Nat × List aop × Nat)) : Prop :=
  (∀ f p, q = .inl (f, p) → 0 < f ∧ s'.1 10 0 = nI p ∧ ∃ t' la' nc', Xm s' f t' la' nc' W F ∧ t' ≤ b ∧ la' ≤ b ∧ nc' ≤ b ∧ la ≤ la' ∧ nc ≤ nc') ∧
  (∀ w t' L CC, q = .inr (w, t', L, CC) → v = nI w ∧ 1 ≤ w ∧ w ≤ 64 ∧ t + L.length ≤ t' ∧ t < t' ∧ t' ≤ nt + 1 ∧ CC + 5000 * t ≤ 5000 * t' ∧ s'.2 45 m = lN (C + CC) ∧ ∃ nc', nc ≤ nc' ∧ nc' ≤ nc + L.length ∧ Xm s' 0 t' (la + L.length) nc' W F ∧ rEnc (s'.1 41) (s'.2 43) nc' la L)
def Ex (m nt b : Nat) (s0 s : ms) (t la nc W F C : Nat) (o : Option (Int32 × ms)) (r : xr) : Prop := ∀ q, r = some q → ∃ v s', o = some (v, s') ∧ SE s0 s' ∧ Lo m s s' la nc W F ∧ XPo m nt b t la nc W F C v s' q
theorem Ex.no {b : Nat} {s0 s : ms} {t la nc W F C : Nat} {o : Option (Int32 × ms)} : Ex m nt b s0 s t la nc W F C o none := fun q h => by cases h
theorem xb_some {r : xr} {k : Nat → Nat → List aop → Nat → xr} {q : Sum (Nat × Nat) (Nat × Nat × List aop × Nat)} (h : xb r k = some q) : (∃ f p, r = some (.inl (f, p)) ∧ q = .inl (f, p)) ∨ ∃ w t L C, r = some (.inr (w, t, L, C)) ∧ k w t L C = some q := by
  unfold xb at h
  match r with
  | none => cases h
  | some (.inl f) => exact Or.inl ⟨f.1, f.2, rfl, by cases h; rfl⟩
  | some (.inr q) => exact Or.inr ⟨q.1, q.2.1, q.2.2.1, q.2.2.2, rfl, h⟩
/-- bounds: ops, numbers, cost against tokens -/
def Bd (nt t la nc C : Nat) : Prop := t ≤ nt + 1 ∧ nt ≤ 12001 ∧ la ≤ t ∧ nc ≤ t ∧ C ≤ 5000 * t
theorem XPo.fault {b b' t t0 la la0 nc nc0 W F C C0 : Nat} {v v' : Int32} {s' : ms} {f p : Nat} (h : XPo m nt b t la nc W F C v s' (.inl (f, p))) (hb : b ≤ b') (h1 : la0 ≤ la) (h2 : nc0 ≤ nc) : XPo m nt b' t0 la0 nc0 W F C0 v' s' (.inl (f, p)) := by
  refine ⟨fun f' p' e => ?_, fun _ _ _ _ e => by cases e⟩
  cases e
  obtain ⟨a1, a2, t', la', nc', a3, a4, a5, a6, a7, a8⟩ := h.1 f p rfl
  exact ⟨a1, a2, t', la', nc', a3, by omega, by omega, by omega, by omega, by omega⟩
/-- a fault is made -/
theorem XPo.mk {b t la nc W F C t' la' nc' : Nat} {v : Int32} {s' : ms} {f p : Nat} (h : Xm s' f t' la' nc' W F) (hf : 0 < f) (hp : s'.1 10 0 = nI p) (h1 : t' ≤ b) (h2 : la' ≤ b) (h3 : nc' ≤ b) (h4 : la ≤ la') (h5 : nc ≤ nc') : XPo m nt b t la nc W F C v s' (.inl (f, p)) :=
  ⟨fun f' p' e => by cases e; exact ⟨hf, hp, t', la', nc', h, h1, h2, h3, h4, h5⟩, fun _ _ _ _ e => by cases e⟩
theorem XPo.ok {b t la nc W F C w t' CC nc' : Nat} {L : List aop} {s' : ms} (h0 : 1 ≤ w) (h1 : w ≤ 64) (h2 : t + L.length ≤ t') (h3 : t < t') (h4 : t' ≤ nt + 1) (h5 : CC + 5000 * t ≤ 5000 * t') (h6 : s'.2 45 m = lN (C + CC)) (h7 : nc ≤ nc') (h8 : nc' ≤ nc + L.length) (h9 : Xm s' 0 t' (la + L.length) nc' W F) (h10 : rEnc (s'.1 41) (s'.2 43) nc' la L) : XPo m nt b t la nc W F C (nI w) s' (.inr (w, t', L, CC)) :=
  ⟨fun _ _ e => (by cases e), fun w' t2 L2 C2 e => by cases e; exact ⟨rfl, h0, h1, h2, h3, h4, h5, h6, nc', h7, h8, h9, h10⟩⟩
theorem is_M {s : ms} {t la nc W F k : Nat} (hS : SM tk pl vl wi nm nt m N s) (h : Xm s 0 t la nc W F) (ht : t < nt) (hk : k < 1000) (hv : tk t < 1000) : fn_M_is N (nI k) s = some (b01 (decide (tk t = k)), s) := by
  obtain ⟨h1, h2, h3, h4, -⟩ := h
  have e := (hS.2.2.1 t ht).1
  unfold fn_M_is
  by_cases c : tk t = k
  · simp (disch := omega) only [h1, h3, e, lit_nI, gdF, gdG, gdH, nltT, nltF, nleT, nleF, neqT, neqF, nm1F, nm1F', m1lt, m1gt, m1le, m1ge, nI_clamp, nI_add, nI_sub, obind, if_true, if_false, reduceIte, ite_true, ite_false]; simp [c, b01]; rfl
  · simp (disch := omega) only [h1, h3, e, lit_nI, gdF, gdG, gdH, nltT, nltF, nleT, nleF, neqT, neqF, nm1F, nm1F', m1lt, m1gt, m1le, m1ge, nI_clamp, nI_add, nI_sub, obind, if_true, if_false, reduceIte, ite_true, ite_false]; simp [c, b01]; rfl
theorem kind_M {s : ms} {f t la nc W F : Nat} (hS : SM tk pl vl wi nm nt m N s) (h : Xm s f t la nc W F) (ht : t < nt) : fn_M_kind N s = some (nI (tk t), s) := by
  rw [kindZ h, (hS.2.2.1 t ht).1]
/-- exps and their binaries end before the row of tokens does -/
theorem eBl_lt {eO : Nat → xr} : ∀ n ops ws L C t w t' L' C', eBl tk pl nt eO n ops ws L C t = some (.inr (w, t', L', C')) → t' < nt := by
  intro n
  induction n with
  | zero => intro ops ws L C t w t' L' C' h; cases h
  | succ n ih =>
    intro ops ws L C t w t' L' C' h
    unfold eBl at h
    by_cases c : nt ≤ t
    · rw [if_pos c] at h; cases h
    · rw [if_neg c] at h
      split at h
      · split at h
        · cases h
        · cases h
        · rcases xb_some h with ⟨f, p, r1, e⟩ | ⟨w2, t2, L2, C2, r1, h⟩
          · cases e
          · exact ih _ _ _ _ _ _ _ _ _ h
      · split at h
        · cases h
        · cases h
        · split at h
          · unfold xok at h; cases h; omega
          · cases h
theorem eG_lt : ∀ d t w t' L C, ((eG tk pl vl wi nm nt N0 d).1 t = some (.inr (w, t', L, C)) → t' < nt) ∧ ((eG tk pl vl wi nm nt N0 d).2.1 t = some (.inr (w, t', L, C)) → t' < nt) := by
  intro d
  induction d with
  | zero => intro t w t' L C; exact ⟨fun h => (by cases h), fun h => (by cases h)⟩
  | succ d ih =>
    intro t w t' L C
    constructor
    · intro h
      have h : eX1 tk pl (eG tk pl vl wi nm nt N0 d).1 (eG tk pl vl wi nm nt N0 d).2.1 t = _ := h
      unfold eX1 at h
      rcases xb_some h with ⟨f, p, r1, e⟩ | ⟨w2, t2, L2, C2, r1, h⟩
      · cases e
      · split at h
        · rcases xb_some h with ⟨f, p, r2, e⟩ | ⟨w3, t3, L3, C3, r2, h⟩
          · cases e
          · rcases xb_some h with ⟨f, p, r3, e⟩ | ⟨w4, t4, L4, C4, r3, h⟩
            · cases e
            · split at h
              · unfold xok at h; cases h; exact (ih _ _ _ _ _).1 r3
              · unfold xno at h; cases h
        · unfold xok at h; cases h; exact (ih _ _ _ _ _).2 r1
    · intro h
      have h : eBin tk pl nt N0 (eG tk pl vl wi nm nt N0 d).2.2.1 t = _ := h
      unfold eBin at h
      rcases xb_some h with ⟨f, p, r1, e⟩ | ⟨w2, t2, L2, C2, r1, h⟩
      · cases e
      · exact eBl_lt _ _ _ _ _ _ _ _ _ _ h
/-- exp: at one level more -/
theorem exp_M {s0 : ms} {d : Nat} (T : Tv tk pl nt) (hS : SM tk pl vl wi nm nt m N s0) (hN : 13002 < N)
    (iE : ∀ s t la nc W F C, SE s0 s → Xm s 0 t la nc W F → s.2 45 m = lN C → Bd nt t la nc C → W + 3 * d ≤ 1500 → F + 3 * d ≤ 1500 → Ex m nt (13000 + 20 * d) s0 s t la nc W F C ((sg_M_exp N d).1 s) ((eG tk pl vl wi nm nt N0 d).1 t))
    (iB : ∀ s t la nc W F C, SE s0 s → Xm s 0 t la nc W F → s.2 45 m = lN C → Bd nt t la nc C → W + 3 * d + 3 ≤ 1500 → F + 3 * d + 3 ≤ 1500 → Ex m nt (13000 + 20 * d + 15) s0 s t la nc W F C ((sg_M_exp N d).2.1 s) ((eG tk pl vl wi nm nt N0 d).2.1 t))
    (hd4 : ∀ t q, (eG tk pl vl wi nm nt N0 d).1 t = some q → 4 ≤ d) (hd : d ≤ 400) :
    ∀ s t la nc W F C, SE s0 s → Xm s 0 t la nc W F → s.2 45 m = lN C → Bd nt t la nc C → W + 3 * (d + 1) ≤ 1500 → F + 3 * (d + 1) ≤ 1500 → Ex m nt (13000 + 20 * (d + 1)) s0 s t la nc W F C ((sg_M_exp N (d + 1)).1 s) ((eG tk pl vl wi nm nt N0 (d + 1)).1 t) := by
  intro s t la nc W F C e hX hC hB hW hF q hq
  have iB1 := iB s t la nc W F C e hX hC hB (by omega) (by omega)
  have hq : eX1 tk pl (eG tk pl vl wi nm nt N0 d).1 (eG tk pl vl wi nm nt N0 d).2.1 t = some q := hq
  unfold eX1 at hq
  show ∃ v s', fb_M_exp N _ _ _ _ _ s = _ ∧ _
  unfold fb_M_exp
  rcases xb_some hq with ⟨f, p, r1, rfl⟩ | ⟨c, t1, L1, C1, r1, hq⟩
  · obtain ⟨v, s1, a1, a2, a3, a4⟩ := iB1 _ r1
    obtain ⟨f1, f2, t', la', nc', f3, -⟩ := a4.1 f p rfl
    rw [a1, obind]
    unfold bk_M_exp_4
    dsimp only
    rw [show fn_M_is N 63 s1 = some (0, s1) from isZ f3 f1, obind, if_pos rfl]
    exact ⟨v, s1, rfl, a2, a3, a4.fault (by omega) (Nat.le_refl _) (Nat.le_refl _)⟩
  · obtain ⟨v, s1, a1, a2, a3, a4⟩ := iB1 _ r1
    obtain ⟨rfl, w1, w2, w3, w4, w5, w6, w7, nc1, w8, w9, w10, w11⟩ := a4.2 _ _ _ _ rfl
    have lt := (eG_lt _ _ _ _ _ _).2 r1
    have l1 := T.2.1
    have kv := T.lt lt
    obtain ⟨g1, g2, g3, g4, g5⟩ := hB
    rw [a1, obind]
    unfold bk_M_exp_4
    dsimp only
    rw [show fn_M_is N 63 s1 = _ from is_M (k := 63) (hS.mono a2) w10 lt (by decide) (by omega), obind]
    by_cases k : tk t1 = 63
    · rw [if_pos k] at hq
      rw [if_neg (by simp [k, b01])]
      dsimp only
      have e8 : s1.1 8 0 = nI t1 := w10.2.2.1
      have e5 : s1.1 5 t1 = nI (pl t1) := by rw [a2.1 5 (by decide)]; exact (hS.2.2.1 _ lt).2
      rw [e8, if_neg (nI_in (show t1 < 65540 by omega) (by decide)), nI_clamp (by omega), e5, nI_1]
      have X1 : Xm (upI s1 8 (fun _ => nI (t1 + 1))) 0 (t1 + 1) (la + L1.length) nc1 W F := w10.tset rfl (by omega)
      have E1 : SE s0 (upI s1 8 (fun _ => nI (t1 + 1))) := a2.upI (by decide)
      have H2 := iE _ (t1 + 1) (la + L1.length) nc1 W F (C + C1) E1 X1 w7 ⟨by omega, by omega, by omega, by omega, by omega⟩ (by omega) (by omega)
      have lo1 : Lo m s (upI s1 8 (fun _ => nI (t1 + 1))) la nc W F := a3.trans (la' := la) (nc' := nc) (W' := W) (F' := F) (Lo.of (ks := [8]) (Eb.rfl.upI (by decide)) (by decide)) (Nat.le_refl _) (Nat.le_refl _) (Nat.le_refl _) (Nat.le_refl _)
      -- the end of the way behind a fault
      have zend : ∀ (S : ms) (f p t' la' nc' b : Nat) (x1 x3 : Int32), 0 < f → SE s0 S → Xm S f t' la' nc' W F → S.1 10 0 = nI p → t' ≤ b → la' + 1 ≤ b → nc' ≤ b → b < 33000 → la ≤ la' → nc ≤ nc' → Lo m s S la nc W F → ∃ v s', bk_M_exp_77 N (sg_M_exp N d).1 (sg_M_exp N d).2.1 (sg_M_exp N d).2.2.1 (sg_M_exp N d).2.2.2.1 (sg_M_exp N d).2.2.2.2 x1 x3 S = some (v, s') ∧ SE s0 s' ∧ Lo m s s' la nc W F ∧ XPo m nt b t la nc W F C v s' (.inl (f, p)) := by
        intro S f p t' la' nc' b x1 x3 hf eS hXS hp b1 b2 b3 b4 b5 b6 lo
        have c12 : S.1 12 0 = nI m := by rw [eS.1 12 (by decide)]; exact hS.1
        have go : ∀ n : Int64, ∃ v s', bk_M_exp_90 N (sg_M_exp N d).1 (sg_M_exp N d).2.1 (sg_M_exp N d).2.2.1 (sg_M_exp N d).2.2.2.1 (sg_M_exp N d).2.2.2.2 x3 n S = some (v, s') ∧ SE s0 s' ∧ Lo m s s' la nc W F ∧ XPo m nt b t la nc W F C v s' (.inl (f, p)) := by
          intro n
          unfold bk_M_exp_90 bk_M_exp_101
          rw [cost_M c12 hS.2.1, obind]
          dsimp only
          have hXc : Xm (upJ S 45 (vp_updL (S.2 45) m (S.2 45 m + n))) f t' la' nc' W F := hXS.any (Eb.rfl.upJ (by decide))
          obtain ⟨S2, z1, z2, z3, z4⟩ := lay_M (N := N) (a := 6) (b := 0) (c := 0) hXc (by omega)
          rw [z1, obind]
          refine ⟨_, S2, rfl, (eS.upJ (by decide)).trans (z4.mono (by decide) (by decide)), ?_, XPo.mk z2 hf (by rw [z4.1 10 (by decide)]; exact hp) b1 b2 b3 (by omega) b6⟩
          refine (lo.trans (la' := la) (nc' := nc) (W' := W) (F' := F) (⟨fun _ _ => rfl, fun _ _ => rfl, fun _ _ => ⟨rfl, rfl⟩, fun _ _ => rfl, fun k hk => updL_ne hk⟩ : Lo m S (upJ S 45 (vp_updL (S.2 45) m (S.2 45 m + n))) la nc W F) (Nat.le_refl _) (Nat.le_refl _) (Nat.le_refl _) (Nat.le_refl _)).trans (Lo.op (js := []) (nc := nc) (W := W) (F := F) z3 z4) b5 (Nat.le_refl _) (Nat.le_refl _) (Nat.le_refl _)
        unfold bk_M_exp_77
        by_cases c1 : x3 ≤ x1
        · rw [if_pos c1]; exact go _
        · rw [if_neg c1]; exact go _
      rcases xb_some hq with ⟨f, p, r2, rfl⟩ | ⟨a, t2, L2, C2, r2, hq⟩
      · -- the second exp has a fault
        obtain ⟨v2, s2, b1, b2, b3, b4⟩ := H2 _ r2
        obtain ⟨f1, f2, t', la', nc', f3, f4, f5, f6, f7, f8⟩ := b4.1 f p rfl
        have d4 := hd4 _ _ r2
        rw [b1, obind]
        unfold bk_M_exp_40
        dsimp only
        have e82 : s2.1 8 0 = nI t' := f3.2.2.1
        rw [e82, nI_1]
        have X2 : Xm (upI s2 8 (fun _ => nI (t' + 1))) f (t' + 1) la' nc' W F := f3.tset rfl (by omega)
        obtain ⟨v3, s3, t3, c1, c2, c3, c4, c5, c6⟩ := expZ4 d4 hS hN (b2.upI (k := 8) (g := fun _ => nI (t' + 1)) (by decide)) X2 f1 (by omega)
        rw [c1, obind]
        unfold bk_M_exp_55
        dsimp only
        rw [if_neg (show ¬ s3.1 9 0 = 0 by rw [c2.1]; exact fun z => by have := (nI_eq (b := 0) (by have := c2.2.1; omega) (by omega)).mp z; omega)]
        have lo3 : Lo m s s3 la nc W F := (((lo1.trans b3 (by omega) (by omega) (Nat.le_refl _) (Nat.le_refl _)).trans (la' := la) (nc' := nc) (W' := W) (F' := F) (Lo.of (ks := [8]) (Eb.rfl.upI (by decide)) (by decide)) (Nat.le_refl _) (Nat.le_refl _) (Nat.le_refl _) (Nat.le_refl _)).trans c6 (by omega) (by omega) (Nat.le_refl _) (Nat.le_refl _))
        obtain ⟨v4, s4, z1, z2, z3, z4⟩ := zend s3 f p t3 la' nc' (13000 + 20 * (d + 1)) (nI c) v2 f1 c5 c2 (by rw [c4]; exact f2) (by omega) (by omega) (by omega) (by omega) (by omega) (by omega) lo3
        exact ⟨v4, s4, z1, z2, z3, z4⟩
      · obtain ⟨v2, s2, b1, b2, b3, b4⟩ := H2 _ r2
        obtain ⟨rfl, u1, u2, u3, u4, u5, u6, u7, nc2, u8, u9, u10, u11⟩ := b4.2 _ _ _ _ rfl
        rw [b1, obind]
        unfold bk_M_exp_40
        dsimp only
        have e82 : s2.1 8 0 = nI t2 := u10.2.2.1
        rw [e82, nI_1]
        have X2 : Xm (upI s2 8 (fun _ => nI (t2 + 1))) 0 (t2 + 1) (la + L1.length + L2.length) nc2 W F := u10.tset rfl (by omega)
        have E2 : SE s0 (upI s2 8 (fun _ => nI (t2 + 1))) := b2.upI (by decide)
        have lo2 : Lo m s (upI s2 8 (fun _ => nI (t2 + 1))) la nc W F := (lo1.trans b3 (by omega) (by omega) (Nat.le_refl _) (Nat.le_refl _)).trans (la' := la) (nc' := nc) (W' := W) (F' := F) (Lo.of (ks := [8]) (Eb.rfl.upI (by decide)) (by decide)) (Nat.le_refl _) (Nat.le_refl _) (Nat.le_refl _) (Nat.le_refl _)
        have t2n := (eG_lt _ _ _ _ _ _).1 r2
        have H3 := iE _ (t2 + 1) (la + L1.length + L2.length) nc2 W F (C + C1 + C2) E2 X2 u7 ⟨by omega, by omega, by omega, by omega, by omega⟩ (by omega) (by omega)
        rcases xb_some hq with ⟨f, p, r3, rfl⟩ | ⟨b, t3, L3, C3, r3, hq⟩
        · obtain ⟨v3, s3, c1, c2, c3, c4⟩ := H3 _ r3
          obtain ⟨f1, f2, t', la', nc', f3, f4, f5, f6, f7, f8⟩ := c4.1 f p rfl
          rw [c1, obind]
          unfold bk_M_exp_55
          dsimp only
          rw [if_neg (show ¬ s3.1 9 0 = 0 by rw [f3.1]; exact fun z => by have := (nI_eq (b := 0) (by have := f3.2.1; omega) (by omega)).mp z; omega)]
          obtain ⟨v4, s4, z1, z2, z3, z4⟩ := zend s3 f p t' la' nc' (13000 + 20 * (d + 1)) (nI c) (nI a) f1 c2 f3 f2 (by omega) (by omega) (by omega) (by omega) (by omega) (by omega) (lo2.trans c3 (by omega) (by omega) (Nat.le_refl _) (Nat.le_refl _))
          exact ⟨v4, s4, z1, z2, z3, z4⟩
        · obtain ⟨v3, s3, c1, c2, c3, c4⟩ := H3 _ r3
          obtain ⟨rfl, y1, y2, y3, y4, y5, y6, y7, nc3, y8, y9, y10, y11⟩ := c4.2 _ _ _ _ rfl
          rw [c1, obind]
          unfold bk_M_exp_55
          dsimp only
          rw [if_pos (show s3.1 9 0 = 0 from y10.1)]
          have lo3 := lo2.trans c3 (by omega) (by omega) (Nat.le_refl _) (Nat.le_refl _)
          by_cases ab : a = b
          · rw [if_pos ab] at hq
            rw [if_pos (by rw [ab])]
            have c12 : s3.1 12 0 = nI m := by rw [c2.1 12 (by decide)]; exact hS.1
            have em : bk_M_exp_77 N (sg_M_exp N d).1 (sg_M_exp N d).2.1 (sg_M_exp N d).2.2.1 (sg_M_exp N d).2.2.2.1 (sg_M_exp N d).2.2.2.2 (nI c) (nI a) s3 = bk_M_exp_90 N (sg_M_exp N d).1 (sg_M_exp N d).2.1 (sg_M_exp N d).2.2.1 (sg_M_exp N d).2.2.2.1 (sg_M_exp N d).2.2.2.2 (nI a) (lN (max c a)) s3 := by
              unfold bk_M_exp_77
              by_cases z : a ≤ c
              · rw [if_pos (nI_le z (by omega)), nI_l (by omega), show max c a = c by omega]
              · rw [if_neg (nI_ge (by omega) (by omega)), nI_l (by omega), show max c a = a by omega]
            rw [em]
            unfold bk_M_exp_90 bk_M_exp_101
            rw [cost_M c12 hS.2.1, obind]
            dsimp only
            have hXc : Xm (upJ s3 45 (vp_updL (s3.2 45) m (s3.2 45 m + lN (max c a)))) 0 t3 (la + L1.length + L2.length + L3.length) nc3 W F := y10.any (Eb.rfl.upJ (by decide))
            obtain ⟨s4, z1, z2, z3, z4⟩ := lay_M (N := N) (a := 6) (b := 0) (c := 0) hXc (by omega)
            rw [z1, obind]
            unfold xok at hq
            cases hq
            refine ⟨_, s4, rfl, (c2.upJ (by decide)).trans (z4.mono (by decide) (by decide)), ?_, ?_⟩
            · exact (lo3.trans (la' := la) (nc' := nc) (W' := W) (F' := F) (⟨fun _ _ => rfl, fun _ _ => rfl, fun _ _ => ⟨rfl, rfl⟩, fun _ _ => rfl, fun k hk => updL_ne hk⟩ : Lo m s3 (upJ s3 45 (vp_updL (s3.2 45) m (s3.2 45 m + lN (max c a)))) la nc W F) (Nat.le_refl _) (Nat.le_refl _) (Nat.le_refl _) (Nat.le_refl _)).trans (Lo.op (js := []) (nc := nc) (W := W) (F := F) z3 z4) (by omega) (Nat.le_refl _) (Nat.le_refl _) (Nat.le_refl _)
            · have len : (L1 ++ L2 ++ L3 ++ [(6, 0, 0)] : List aop).length = L1.length + L2.length + L3.length + 1 := by simp; omega
              refine XPo.ok (nc' := nc3) u1 u2 (by rw [len]; omega) (by omega) (by omega) (by omega) ?_ (by omega) (by rw [len]; omega) ?_ ?_
              · rw [z4.2 45 (by decide)]
                show vp_updL (s3.2 45) m (s3.2 45 m + lN (max c a)) m = _
                rw [updL_at, y7, lN_add]
                congr 1; omega
              · rw [len]
                have : la + (L1.length + L2.length + L3.length + 1) = la + L1.length + L2.length + L3.length + 1 := by omega
                rw [this]; exact z2
              · have en : ∀ k, k < nc3 → s4.2 43 k = s3.2 43 k := fun k _ => by rw [z4.2 43 (by decide)]; rfl
                have ec : ∀ k, k < 3 * (la + L1.length + L2.length + L3.length) → s4.1 41 k = s3.1 41 k := fun k hk => z3.1 k hk
                refine rEnc.app (rEnc.app (rEnc.app (w11.mono ?_ ?_ (by omega)) ?_) ?_) (rEnc.one ?_)
                · intro k hk
                  rw [ec k (by omega), c3.1 k (by omega)]
                  show s2.1 41 k = _
                  rw [b3.1 k (by omega)]; rfl
                · intro k hk
                  rw [en k (by omega), c3.2.1 k (by omega)]
                  show s2.2 43 k = _
                  rw [b3.2.1 k (by omega)]; rfl
                · refine u11.mono ?_ ?_ (by omega)
                  · intro k hk
                    rw [ec k (by omega), c3.1 k (by omega)]; rfl
                  · intro k hk
                    rw [en k (by omega), c3.2.1 k (by omega)]; rfl
                · have : la + (L1 ++ L2).length = la + L1.length + L2.length := by simp; omega
                  rw [this]
                  exact y11.mono (fun k hk => ec k (by omega)) en (Nat.le_refl _)
                · have : la + (L1 ++ L2 ++ L3).length = la + L1.length + L2.length + L3.length := by simp; omega
                  rw [this]
                  exact rop_6 z3.2.1
          · rw [if_neg ab] at hq
            unfold xno at hq
            cases hq
            rw [if_neg (fun z => ab ((nI_eq (by omega) (by omega)).mp z))]
            obtain ⟨s4, z1, z2, z3, z4⟩ := fail_M (N := N) (w := 30) (y := nI (pl t1)) y10 (by decide)
            rw [show (30 : Int32) = nI 30 from rfl, z1, obind]
            obtain ⟨v5, s5, x1, x2, x3, x4⟩ := zend s4 30 (pl t1) t3 (la + L1.length + L2.length + L3.length) nc3 (13000 + 20 * (d + 1)) (nI c) (nI a) (by decide) (c2.trans (z4.mono (by decide) (by decide))) z2 z3 (by omega) (by omega) (by omega) (by omega) (by omega) (by omega) (lo3.trans (la' := la) (nc' := nc) (W' := W) (F' := F) (Lo.of z4 (by decide)) (Nat.le_refl _) (Nat.le_refl _) (Nat.le_refl _) (Nat.le_refl _))
            exact ⟨v5, s5, x1, x2, x3, x4⟩
    · rw [if_neg k] at hq
      unfold xok at hq
      cases hq
      rw [if_pos (by simp [k, b01])]
      exact ⟨_, s1, rfl, a2, a3, XPo.ok w1 w2 w3 w4 w5 w6 w7 w8 w9 w10 w11⟩
end MEX
