/-! Values: what an op makes of a stack; what a statement makes of the next values. -/
def amk (w : Nat) : Int64 := if w < 64 then ((1 : Int64) <<< ((Int32.toInt64 (nI w)) &&& 63)) - 1 else -1
def ash (l : Nat) : Int64 := (Int32.toInt64 (nI l)) &&& 63
def b01L (b : Bool) : Int64 := if b then 1 else 0
def aur (a : Int64) (n : UInt64) : Int64 := (Int64.toUInt64 a >>> n).toInt64
/-- whether a, as 64 bits, is below b -/
def abel (a b : Int64) : Bool := decide (¬ 0 ≤ lg_cmp (a ^^^ (-9223372036854775808)) (b ^^^ (-9223372036854775808)))
def apar (a : Int64) : Nat → Int64 → Int64
  | 0, r => r
  | n + 1, r => apar a n (r ^^^ ((a >>> ash (63 - n)) &&& 1))
def aun (op w : Nat) (a : Int64) : Int64 :=
  if op = 33 then b01L (decide (a = 0)) else if op = 38 then b01L (decide (a = amk w)) else if op = 45 then (-a) &&& amk w else if op = 124 then b01L (decide (¬ a = 0)) else if op = 126 then (a ^^^ (-1)) &&& amk w else apar a 64 0
def abi (k w : Nat) (a b : Int64) : Int64 :=
  if k = 38 then a &&& b else if k = 43 then (a + b) &&& amk w else if k = 45 then (a - b) &&& amk w else if k = 60 then b01L (abel a b) else if k = 62 then b01L (abel b a) else if k = 94 then a ^^^ b else if k = 124 then a ||| b
  else if k = 256 then b01L (decide (¬ a = 0 ∧ ¬ b = 0)) else if k = 257 then b01L (decide (¬ a = 0 ∨ ¬ b = 0)) else if k = 258 then b01L (decide (a = b)) else if k = 259 then b01L (decide (¬ a = b)) else if k = 260 then b01L (!abel b a) else if k = 261 then b01L (!abel a b)
  else if k = 262 then (if lg_cmp b 0 < 0 then 0 else if lg_cmp b 63 ≤ 0 then ((a <<< ((Int32.toInt64 (Int64.toInt32 b)) &&& 63)) &&& amk w) else 0)
  else if k = 263 then (if lg_cmp b 0 < 0 then 0 else if lg_cmp b 63 ≤ 0 then aur a (Int64.toUInt64 (Int32.toInt64 (Int64.toInt32 b)) &&& Int64.toUInt64 63) else 0)
  else (a * b) &&& amk w
def arep (w : Nat) (a : Int64) : Nat → Int64 → Int64
  | 0, r => r
  | n + 1, r => arep w a n ((r <<< ash w) ||| a)
def aex (v : Nat → Int64) (o : aop) (st : List Int64) : Option (List Int64) :=
  if o.1 = 0 then some (lN o.2.1 :: st) else if o.1 = 1 then some (v o.2.1 :: st)
  else if o.1 = 2 then (match st with | a :: st => some ((aur a (Int64.toUInt64 (Int32.toInt64 (nI o.2.2)) &&& Int64.toUInt64 63) &&& amk (o.2.1 - o.2.2 + 1)) :: st) | _ => none)
  else if o.1 = 3 then (match st with | b :: a :: st => some ((if lg_cmp b 0 < 0 then 0 else if lg_cmp b 64 < 0 then aur a (Int64.toUInt64 (Int32.toInt64 (Int64.toInt32 b)) &&& Int64.toUInt64 63) &&& 1 else 0) :: st) | _ => none)
  else if o.1 = 4 then (match st with | a :: st => some (aun o.2.1 o.2.2 a :: st) | _ => none)
  else if o.1 = 5 then (match st with | b :: a :: st => some (abi o.2.1 o.2.2 a b :: st) | _ => none)
  else if o.1 = 6 then (match st with | b :: a :: x :: st => some ((if x = 0 then b else a) :: st) | _ => none)
  else if o.1 = 7 then (match st with | b :: a :: st => some (((a <<< ash o.2.1) ||| b) :: st) | _ => none)
  else (match st with | a :: st => some (arep o.2.2 a (o.2.1 - 1) a :: st) | _ => none)
def xrun (v : Nat → Int64) : List aop → List Int64 → Option (List Int64)
  | [], st => some st
  | o :: L, st => (aex v o st).bind (xrun v L)
def xval (v : Nat → Int64) (L : List aop) : Int64 :=
  match xrun v L [] with
  | some [x] => x
  | _ => 0
theorem xrun_app (v : Nat → Int64) : ∀ (A B : List aop) (st : List Int64), xrun v (A ++ B) st = (xrun v A st).bind (xrun v B)
  | [], B, st => rfl
  | o :: A, B, st => by
    show (aex v o st).bind (xrun v (A ++ B)) = ((aex v o st).bind (xrun v A)).bind (xrun v B)
    cases aex v o st with
    | none => rfl
    | some s => exact xrun_app v A B s
/-- heights suffice: an op finds its operands -/
theorem aex_ok (v : Nat → Int64) (o : aop) (st : List Int64) (h : nd o.1 ≤ st.length) (h8 : o.1 ≤ 8) : ∃ x st0, aex v o st = some (x :: st0.drop 0) ∧ st0 = st.drop (nd o.1) := by
  obtain ⟨k, a, b⟩ := o
  dsimp only at h h8
  refine Exists.imp (fun x hx => ⟨st.drop (nd k), hx, rfl⟩) ?_
  rw [List.drop_zero]
  unfold aex
  dsimp only
  by_cases k0 : k = 0
  · subst k0; rw [if_pos rfl]; exact ⟨_, rfl⟩
  rw [if_neg k0]
  by_cases k1 : k = 1
  · subst k1; rw [if_pos rfl]; exact ⟨_, rfl⟩
  rw [if_neg k1]
  have n1 : k = 2 ∨ k = 4 ∨ k = 8 → nd k = 1 := fun z => by unfold nd; rw [if_neg (by omega), if_pos z]
  have n2 : k = 3 ∨ k = 5 ∨ k = 7 → nd k = 2 := fun z => by unfold nd; rw [if_neg (by omega), if_neg (by omega), if_neg (by omega)]
  have n3 : k = 6 → nd k = 3 := fun z => by unfold nd; rw [if_neg (by omega), if_neg (by omega), if_pos z]
  have c1 : k = 2 ∨ k = 4 ∨ k = 8 → ∃ x s, st = x :: s ∧ st.drop (nd k) = s := fun z => by
    rw [n1 z] at h ⊢
    match st, h with
    | x :: s, _ => exact ⟨x, s, rfl, rfl⟩
  have c2 : k = 3 ∨ k = 5 ∨ k = 7 → ∃ x y s, st = x :: y :: s ∧ st.drop (nd k) = s := fun z => by
    rw [n2 z] at h ⊢
    match st, h with
    | [x], h => simp at h
    | x :: y :: s, _ => exact ⟨x, y, s, rfl, rfl⟩
  by_cases k2 : k = 2
  · obtain ⟨x, s, e, e2⟩ := c1 (by omega); rw [if_pos k2, e2, e]; exact ⟨_, rfl⟩
  rw [if_neg k2]
  by_cases k3 : k = 3
  · obtain ⟨x, y, s, e, e2⟩ := c2 (by omega); rw [if_pos k3, e2, e]; exact ⟨_, rfl⟩
  rw [if_neg k3]
  by_cases k4 : k = 4
  · obtain ⟨x, s, e, e2⟩ := c1 (by omega); rw [if_pos k4, e2, e]; exact ⟨_, rfl⟩
  rw [if_neg k4]
  by_cases k5 : k = 5
  · obtain ⟨x, y, s, e, e2⟩ := c2 (by omega); rw [if_pos k5, e2, e]; exact ⟨_, rfl⟩
  rw [if_neg k5]
  by_cases k6 : k = 6
  · rw [if_pos k6]
    rw [n3 k6] at h ⊢
    match st, h with
    | [x], h => simp at h
    | [x, y], h => simp at h
    | x :: y :: z :: s, _ => exact ⟨_, rfl⟩
  rw [if_neg k6]
  by_cases k7 : k = 7
  · obtain ⟨x, y, s, e, e2⟩ := c2 (by omega); rw [if_pos k7, e2, e]; exact ⟨_, rfl⟩
  rw [if_neg k7]
  obtain ⟨x, s, e, e2⟩ := c1 (by omega); rw [e2, e]; exact ⟨_, rfl⟩
/-- an op doesn't look below its operands -/
theorem aex_frame (v : Nat → Int64) (o : aop) (st st' f : List Int64) (h : aex v o st = some st') : aex v o (st ++ f) = some (st' ++ f) := by
  unfold aex at h ⊢
  split at h
  · rename_i z; cases h; rw [if_pos z]; rfl
  rename_i z0; rw [if_neg z0]
  split at h
  · rename_i z; cases h; rw [if_pos z]; rfl
  rename_i z1; rw [if_neg z1]
  split at h
  · rename_i z; rw [if_pos z]; split at h <;> first | (cases h; rfl) | cases h
  rename_i z2; rw [if_neg z2]
  split at h
  · rename_i z; rw [if_pos z]; split at h <;> first | (cases h; rfl) | cases h
  rename_i z3; rw [if_neg z3]
  split at h
  · rename_i z; rw [if_pos z]; split at h <;> first | (cases h; rfl) | cases h
  rename_i z4; rw [if_neg z4]
  split at h
  · rename_i z; rw [if_pos z]; split at h <;> first | (cases h; rfl) | cases h
  rename_i z5; rw [if_neg z5]
  split at h
  · rename_i z; rw [if_pos z]; split at h <;> first | (cases h; rfl) | cases h
  rename_i z6; rw [if_neg z6]
  split at h
  · rename_i z; rw [if_pos z]; split at h <;> first | (cases h; rfl) | cases h
  rename_i z7; rw [if_neg z7]
  split at h <;> first | (cases h; rfl) | cases h
theorem xrun_frame (v : Nat → Int64) : ∀ (L : List aop) (st st' f : List Int64), xrun v L st = some st' → xrun v L (st ++ f) = some (st' ++ f)
  | [], st, st', f, h => by cases h; rfl
  | o :: L, st, st', f, h => by
    have h : (aex v o st).bind (xrun v L) = some st' := h
    show (aex v o (st ++ f)).bind (xrun v L) = some (st' ++ f)
    cases e : aex v o st with
    | none => rw [e] at h; cases h
    | some s =>
      rw [e] at h
      rw [aex_frame v o st s f e]
      exact xrun_frame v L s st' f h
/-- an exp by its heights -/
theorem xrun_ok (v : Nat → Int64) {M : Nat} : ∀ (L : List aop) (h h' : Nat) (st : List Int64), Hk M L h h' → st.length = h → (∀ o, o ∈ L → o.1 ≤ 8) → ∃ st', xrun v L st = some st' ∧ st'.length = h'
  | [], h, h', st, q, e, _ => ⟨st, rfl, e.trans q⟩
  | o :: L, h, h', st, q, e, q8 => by
    obtain ⟨x, s0, e1, e2⟩ := aex_ok v o st (by rw [e]; exact q.1) (q8 o List.mem_cons_self)
    obtain ⟨st', e3, e4⟩ := xrun_ok v L (h - nd o.1 + 1) h' (x :: s0.drop 0) q.2.2 (by rw [List.drop_zero, List.length_cons, e2, List.length_drop, e]) (fun o ho => q8 o (List.mem_cons_of_mem _ ho))
    exact ⟨st', by show (aex v o st).bind (xrun v L) = _; rw [e1]; exact e3, e4⟩
theorem xval_ok (v : Nat → Int64) {M : Nat} (L : List aop) (h : Hk M L 0 1) (h8 : ∀ o, o ∈ L → o.1 ≤ 8) (st : List Int64) : xrun v L st = some (xval v L :: st) := by
  obtain ⟨st', e1, e2⟩ := xrun_ok v L 0 1 [] h rfl h8
  match st', e2 with
  | [x], _ =>
    have : xval v L = x := by unfold xval; rw [e1]
    rw [this]
    exact xrun_frame v L [] [x] st e1
/-- the meaning of statements: the token behind it, which registers are set by now, whether it sets one, what it makes of the next values, its cost -/
abbrev DT : Type := (Nat → Int64) → (Nat → Int64) → Nat → Int64
abbrev sr : Type := Option (Sum (Nat × Nat) (Nat × (Nat → Nat) × Bool × DT × Nat))
def sb (r : sr) (k : Nat → (Nat → Nat) → Bool → DT → Nat → sr) : sr :=
  match r with
  | none => none
  | some (.inl f) => some (.inl f)
  | some (.inr q) => k q.1 q.2.1 q.2.2.1 q.2.2.2.1 q.2.2.2.2
def sx (r : xr) (k : Nat → Nat → List aop → Nat → sr) : sr :=
  match r with
  | none => none
  | some (.inl f) => some (.inl f)
  | some (.inr q) => k q.1 q.2.1 q.2.2.1 q.2.2.2
def sok (t : Nat) (S : Nat → Nat) (b : Bool) (D : DT) (C : Nat) : sr := some (.inr (t, S, b, D, C))
def sno (f p : Nat) : sr := some (.inl (f, p))
def aSt (h l : Nat) (n x : Int64) : Int64 := (n &&& ((amk (h - l + 1) <<< ash l) ^^^ (-1))) ||| (x <<< ash l)
def updN (f : Nat → Nat) (i x : Nat) : Nat → Nat := fun j => if j = i then x else f j
/-- heights, as a test -/
def hkB (M : Nat) : List aop → Nat → Nat → Bool
  | [], h, h' => decide (h = h')
  | o :: L, h, h' => decide (nd o.1 ≤ h) && (decide (h - nd o.1 + 1 ≤ M) && hkB M L (h - nd o.1 + 1) h')
theorem hkB_iff {M : Nat} : ∀ {L : List aop} {h h' : Nat}, hkB M L h h' = true ↔ Hk M L h h'
  | [], h, h' => by unfold hkB Hk; exact decide_eq_true_iff
  | o :: L, h, h' => by
    unfold hkB Hk
    rw [Bool.and_eq_true, Bool.and_eq_true, decide_eq_true_iff, decide_eq_true_iff, hkB_iff]
section SS
variable (tk pl vl wi : Nat → Nat) (nm : Nat → Option (Nat × Nat)) (nt : Nat) (rg : Nat → Bool) (N an : Nat)
/-- an exp whose stack isn't too high -/
def eF (t : Nat) : xr :=
  match eE tk pl vl wi nm nt N t with
  | some (.inr q) => if hkB 900 q.2.2.1 0 1 = true then some (.inr q) else none
  | some (.inl f) => some (.inl f)
  | none => none
def sSe (d h l t : Nat) (S : Nat → Nat) : sr :=
  if nt ≤ t then none else sx (eF tk pl vl wi nm nt N (t + 1)) (fun w t2 L C => if w = h - l + 1 then sok (t2 + 1) (updN S d an) true (fun v n => vp_updL n d (aSt h l (n d) (xval v L))) (C + w) else sno 30 (pl t))
def sSet (t : Nat) (S : Nat → Nat) : sr :=
  if tk t ≠ 400 ∨ (tk (t + 1) = 91 ∧ (tk (t + 2) ≠ 401 ∨ ptw tk vl nt (t + 1) = none)) then none else match nm t with
  | none => sno 22 (pl t)
  | some q => if rg q.1 = false then sno 22 (pl t) else if S q.1 ≠ 0 ∧ S q.1 ≠ an then sno 32 (pl t) else if tk (t + 1) = 91 then
      (match ptw tk vl nt (t + 1) with
      | none => none
      | some p => if p.1 < p.2.1 ∨ q.2 ≤ p.1 then sno 30 (pl (t + 1)) else sSe tk pl vl wi nm nt N an q.1 p.1 p.2.1 p.2.2 S)
    else sSe tk pl vl wi nm nt N an q.1 (q.2 - 1) 0 (t + 1) S
def sBl (sS : Nat → (Nat → Nat) → sr) : Nat → Nat → (Nat → Nat) → sr
  | 0, _, _ => none
  | n + 1, t, S => if nt ≤ t then none else if tk t = 311 then sok (t + 1) S false (fun _ n => n) 0 else sb (sS t S) (fun t1 S1 b1 D1 C1 => sb (sBl sS n t1 S1) (fun t2 S2 b2 D2 C2 => sok t2 S2 (b1 || b2) (fun v n => D2 v (D1 v n)) (C1 + C2)))
def sIf (sS : Nat → (Nat → Nat) → sr) (t : Nat) (S : Nat → Nat) : sr :=
  sx (eF tk pl vl wi nm nt N (t + 2)) (fun w t1 L C => sb (sS (t1 + 1) S) (fun t2 S2 b2 D2 C2 => if nt ≤ t2 then none else if tk t2 = 313 then sb (sS (t2 + 1) S2) (fun t3 S3 b3 D3 C3 => sok t3 S3 (b2 || b3) (fun v n => if xval v L = 0 then D3 v n else D2 v n) (C + w + C2 + C3)) else sok t2 S2 b2 (fun v n => if xval v L = 0 then n else D2 v n) (C + w + C2)))
/-- labels: those met, the token behind them -/
def sLl (w : Nat) : Nat → Nat → List Nat → Option (Sum (Nat × Nat) (Nat × List Nat))
  | 0, _, _ => none
  | n + 1, t, ls => if nt ≤ t + 1 ∨ tk t ≠ 402 then none else if wi t = w then (if tk (t + 1) = 44 then sLl w n (t + 2) (ls ++ [vl t]) else some (.inr (t + 2, ls ++ [vl t]))) else some (.inl (30, pl t))
abbrev cr : Type := Option (Sum (Nat × Nat) (Nat × (Nat → Nat) × Bool × (Int64 → DT) × Nat))
def sCl (sS : Nat → (Nat → Nat) → sr) (w : Nat) : Nat → Nat → (Nat → Nat) → cr
  | 0, _, _ => none
  | n + 1, t, S => if nt ≤ t then none else if tk t = 402 then
      (match sLl tk pl vl wi nt w N t [] with
      | none => none
      | some (.inl f) => some (.inl f)
      | some (.inr (t1, ls)) => (match sS t1 S with
        | none => none
        | some (.inl f) => some (.inl f)
        | some (.inr (t2, S2, b2, D2, C2)) => (match sCl sS w n t2 S2 with
          | none => none
          | some (.inl f) => some (.inl f)
          | some (.inr (t3, S3, b3, F, C3)) => some (.inr (t3, S3, b2 || b3, fun x v n => if x ∈ ls.map lN then D2 v n else F x v n, w * ls.length + C2 + C3)))))
    else if tk t = 316 then (match sS (t + 2) S with
      | none => none
      | some (.inl f) => some (.inl f)
      | some (.inr (t2, S2, b2, D2, C2)) => if nt ≤ t2 then none else some (.inr (t2 + 1, S2, b2, fun _ => D2, C2)))
    else some (.inr (t + 1, S, false, fun _ _ n => n, 0))
def sCa (sS : Nat → (Nat → Nat) → sr) (t : Nat) (S : Nat → Nat) : sr :=
  sx (eF tk pl vl wi nm nt N (t + 2)) (fun w t1 L C => match sCl tk pl vl wi nt N sS w N (t1 + 1) S with
    | none => none
    | some (.inl f) => some (.inl f)
    | some (.inr (t2, S2, b2, F, C2)) => sok t2 S2 b2 (fun v n => F (xval v L) v n) (C + C2))
def sS1 (sS sC : Nat → (Nat → Nat) → sr) (t : Nat) (S : Nat → Nat) : sr :=
  if nt ≤ t then none else if tk t = 310 then sBl tk nt sS N (t + 1) S else if tk t = 312 then sIf tk pl vl wi nm nt N sS t S else if tk t = 314 then sC t S else sSet tk pl vl wi nm nt rg N an t S
/-- statement, case -/
def sT : Nat → (Nat → (Nat → Nat) → sr) × (Nat → (Nat → Nat) → sr)
  | 0 => (fun _ _ => none, fun _ _ => none)
  | d + 1 => (sS1 tk pl vl wi nm nt rg N an (sT d).1 (sT d).2, sCa tk pl vl wi nm nt N (sT d).1)
end SS
