/-! What designs mean: tables.
Of a name: 0 its token, 1 width, 2 kind, 3 first value, 4 what drives it, 5 which always sets it, 6 and 7 of a link that drives it: its item, the port; 8 its module, 35 that one's first name.
Of an item: 9 where it is, 10 module, 11 name, 12 first link. Of a link: 13 port, 14 what it drives (one more). Of a piece: 15 whether an assert, 16 which.
Of a link: 18 its item, 36 the first name where it is, 37 the first one of its item's module. Of an always: 17 whether it sets, 32 where it is, 33 and 34 how many names there are and the first one. Of an assert: 19 where it is, 38 the first name there. Of a module: 20 name, first 21 name 22 item 23 assert 24 always 25 piece, 26 ports, 27 cost 28 bits 29 names 30 items 31 asserts, with all in it.
How many: 40 names 41 items 42 links 43 asserts 44 always 45 pieces 46 modules; 47 the cost so far. -/
abbrev ds : Type := (Nat → Nat → Nat) × (Nat → Nat → List aop) × (Nat → DT)
def tu (A : ds) (k i x : Nat) : ds := (fun a b => if a = k ∧ b = i then x else A.1 a b, A.2)
def uu (A : ds) (k i : Nat) (L : List aop) : ds := (A.1, fun a b => if a = k ∧ b = i then L else A.2.1 a b, A.2.2)
def vu (A : ds) (i : Nat) (D : DT) : ds := (A.1, A.2.1, fun a => if a = i then D else A.2.2 a)
def su (A : ds) (S : Nat → Nat) : ds := (fun a b => if a = 5 then S b else A.1 a b, A.2)
theorem tu1 {A : ds} {k i x a b : Nat} : (tu A k i x).1 a b = if a = k ∧ b = i then x else A.1 a b := rfl
theorem tu2 {A : ds} {k i x : Nat} : (tu A k i x).2 = A.2 := rfl
theorem uu1 {A : ds} {k i : Nat} {L : List aop} : (uu A k i L).1 = A.1 := rfl
theorem uu2 {A : ds} {k i a b : Nat} {L : List aop} : (uu A k i L).2.1 a b = if a = k ∧ b = i then L else A.2.1 a b := rfl
theorem uu3 {A : ds} {k i : Nat} {L : List aop} : (uu A k i L).2.2 = A.2.2 := rfl
theorem vu1 {A : ds} {i : Nat} {D : DT} : (vu A i D).1 = A.1 := rfl
theorem vu2 {A : ds} {i : Nat} {D : DT} : (vu A i D).2.1 = A.2.1 := rfl
theorem vu3 {A : ds} {i a : Nat} {D : DT} : (vu A i D).2.2 a = if a = i then D else A.2.2 a := rfl
theorem su1 {A : ds} {S : Nat → Nat} {a b : Nat} : (su A S).1 a b = if a = 5 then S b else A.1 a b := rfl
theorem su2 {A : ds} {S : Nat → Nat} : (su A S).2 = A.2 := rfl
/-- the first one of n from a on -/
def fnd (p : Nat → Bool) : Nat → Nat → Option Nat
  | 0, _ => none
  | n + 1, a => if p a = true then some a else fnd p n (a + 1)
theorem fnd_some {p : Nat → Bool} : ∀ {n a d : Nat}, fnd p n a = some d → a ≤ d ∧ d < a + n ∧ p d = true ∧ ∀ k, a ≤ k → k < d → p k = false
  | 0, a, d, h => by cases h
  | n + 1, a, d, h => by
    unfold fnd at h
    by_cases c : p a = true
    · rw [if_pos c] at h
      cases h
      exact ⟨Nat.le_refl _, by omega, c, fun k h1 h2 => by omega⟩
    · rw [if_neg c] at h
      obtain ⟨h1, h2, h3, h4⟩ := fnd_some h
      refine ⟨by omega, by omega, h3, fun k k1 k2 => ?_⟩
      by_cases e : k = a
      · rw [e]; exact Bool.eq_false_iff.mpr c
      · exact h4 k (by omega) k2
theorem fnd_none {p : Nat → Bool} : ∀ {n a : Nat}, fnd p n a = none → ∀ k, a ≤ k → k < a + n → p k = false
  | 0, a, h, k, h1, h2 => by omega
  | n + 1, a, h, k, h1, h2 => by
    unfold fnd at h
    by_cases c : p a = true
    · rw [if_pos c] at h; cases h
    · rw [if_neg c] at h
      by_cases e : k = a
      · rw [e]; exact Bool.eq_false_iff.mpr c
      · exact fnd_none h k (by omega) (by omega)
theorem fnd_congr {p q : Nat → Bool} : ∀ {n a : Nat}, (∀ k, a ≤ k → k < a + n → p k = q k) → fnd p n a = fnd q n a
  | 0, a, _ => rfl
  | n + 1, a, h => by
    unfold fnd
    rw [h a (Nat.le_refl _) (by omega), fnd_congr (fun k h1 h2 => h k (by omega) (by omega))]
abbrev dr : Type := Option (Sum (Nat × Nat) (Nat × ds))
def db (r : dr) (k : Nat → ds → dr) : dr :=
  match r with
  | none => none
  | some (.inl f) => some (.inl f)
  | some (.inr q) => k q.1 q.2
theorem db_inr {t : Nat} {A : ds} {k : Nat → ds → dr} : db (some (.inr (t, A))) k = k t A := rfl
def dok (t : Nat) (A : ds) : dr := some (.inr (t, A))
def dno (f p : Nat) : dr := some (.inl (f, p))
section DS
variable (tk pl vl wi wd : Nat → Nat) (nt N : Nat)
/-- the name that a token means in this module -/
def dHere (A : ds) (t : Nat) : Option Nat := fnd (fun d => decide (wd (A.1 0 d) = wd t)) (A.1 40 0 - A.1 21 (A.1 46 0)) (A.1 21 (A.1 46 0))
def dNm (A : ds) (t : Nat) : Option (Nat × Nat) := (dHere wd A t).map (fun d => (d, A.1 1 d))
def dInst (A : ds) (t : Nat) : Option Nat := fnd (fun i => decide (wd (A.1 11 i) = wd t)) (A.1 41 0 - A.1 22 (A.1 46 0)) (A.1 22 (A.1 46 0))
def dMod (A : ds) (t : Nat) : Option Nat := fnd (fun m => decide (wd (A.1 20 m) = wd t)) (A.1 46 0) 0
/-- a port of a module -/
def dPrt (A : ds) (m t : Nat) : Option Nat := fnd (fun d => decide (wd (A.1 0 d) = wd t)) (A.1 21 (m + 1) - A.1 21 m) (A.1 21 m)
/-- the link of the latest item that has this port -/
def dLkd (A : ds) (p : Nat) : Option Nat := fnd (fun k => decide (A.1 13 k = p)) (A.1 42 0 - A.1 12 (A.1 41 0)) (A.1 12 (A.1 41 0))
def dRg (A : ds) (d : Nat) : Bool := decide (A.1 2 d = 2 ∨ A.1 2 d = 4)
def dRf (A : ds) (d : Nat) : Bool := dRg A d || decide (d = 99999)
def dDrv (A : ds) (d : Nat) : Bool := decide (A.1 2 d = 1 ∨ A.1 2 d = 3)
def dAdd (A : ds) (t w k : Nat) : ds := tu (tu (tu (tu (tu (tu (tu (tu (tu A 0 (A.1 40 0) t) 1 (A.1 40 0) w) 2 (A.1 40 0) k) 3 (A.1 40 0) 0) 4 (A.1 40 0) 0) 5 (A.1 40 0) 0) 8 (A.1 40 0) (A.1 46 0)) 35 (A.1 40 0) (A.1 21 (A.1 46 0))) 40 0 (A.1 40 0 + 1)
def dRng (t : Nat) : Option (Sum (Nat × Nat) (Nat × Nat)) :=
  if tk t = 91 then (if nt ≤ t + 5 ∨ tk (t + 1) ≠ 401 ∨ tk (t + 3) ≠ 401 then none else if 63 < vl (t + 1) ∨ vl (t + 3) ≠ 0 then some (.inl (30, pl t)) else some (.inr (t + 5, vl (t + 1) + 1))) else some (.inr (t, 1))
/-- a declaration, behind its range -/
def dDec (k t w : Nat) (A : ds) : dr :=
  if nt ≤ t + 1 ∨ tk t ≠ 400 then none else if dHere wd A t ≠ none ∨ dInst wd A t ≠ none then dno 21 (pl t)
  else if tk (t + 1) = 61 then (if nt ≤ t + 3 ∨ tk (t + 2) ≠ 402 ∨ (k ≠ 2 ∧ k ≠ 4) then none else if wi (t + 2) = w then dok (t + 3) (tu (dAdd A t w k) 3 (A.1 40 0) (vl (t + 2))) else dno 30 (pl (t + 2)))
  else dok (t + 1) (dAdd A t w k)
def dDecl (k t : Nat) (A : ds) : dr :=
  if nt ≤ t then none else match dRng tk pl vl nt t with
  | none => none
  | some (.inl f) => some (.inl f)
  | some (.inr q) => dDec tk pl vl wi wd nt k q.1 q.2 A
def dPort (t : Nat) (A : ds) : dr := if nt ≤ t + 1 then none else if tk t = 302 then dDecl tk pl vl wi wd nt 0 (t + 1) A else if tk (t + 1) = 305 then dDecl tk pl vl wi wd nt 2 (t + 2) A else dDecl tk pl vl wi wd nt 1 (t + 1) A
def dPorts : Nat → Nat → ds → dr
  | 0, _, _ => none
  | n + 1, t, A => if nt ≤ t then none else if tk t = 302 ∨ tk t = 303 then db (dPort tk pl vl wi wd nt t A) (fun t1 A1 => if nt ≤ t1 then none else dPorts n (if tk t1 = 44 then t1 + 1 else t1) A1) else dok t A
def dX (A : ds) (t : Nat) : xr :=
  match eF tk pl vl wi (dNm wd A) nt N t with
  | none => none
  | some (.inl f) => some (.inl f)
  | some (.inr (w, t1, L, C)) => if nt ≤ t1 + 1 ∨ t1 ≤ t ∨ w = 0 ∨ 64 < w then none else some (.inr (w, t1, L, C))
def dAssign (t : Nat) (A : ds) : dr :=
  if nt ≤ t + 3 ∨ tk (t + 1) ≠ 400 then none else match dHere wd A (t + 1) with
  | none => dno 22 (pl (t + 1))
  | some d => if dDrv A d = false then dno 22 (pl (t + 1)) else if A.1 4 d ≠ 0 then dno 31 (pl (t + 1)) else match dX tk pl vl wi wd nt N A (t + 3) with
    | none => none
    | some (.inl f) => some (.inl f)
    | some (.inr (w, t1, L, C)) => if w = A.1 1 d then dok (t1 + 1) (tu (uu (tu A 4 d 1) 0 d L) 47 0 (A.1 47 0 + C)) else dno 30 (pl (t + 2))
def dAlw (A : ds) (S : Nat → Nat) (b : Bool) (D : DT) (C : Nat) : ds :=
  if b = true then tu (tu (tu (tu (tu (tu (tu (tu (tu (vu (su A S) (A.1 44 0) D) 33 (A.1 44 0) (A.1 40 0)) 34 (A.1 44 0) (A.1 21 (A.1 46 0))) 32 (A.1 44 0) (A.1 46 0)) 17 (A.1 44 0) 1) 44 0 (A.1 44 0 + 1)) 47 0 (A.1 47 0 + C)) 15 (A.1 45 0) 0) 16 (A.1 45 0) (A.1 44 0)) 45 0 (A.1 45 0 + 1)
  else tu (tu (tu (tu (tu (tu (vu (su A S) (A.1 44 0) D) 33 (A.1 44 0) (A.1 40 0)) 34 (A.1 44 0) (A.1 21 (A.1 46 0))) 32 (A.1 44 0) (A.1 46 0)) 17 (A.1 44 0) 0) 44 0 (A.1 44 0 + 1)) 47 0 (A.1 47 0 + C)
def dAlways (t : Nat) (A : ds) : dr :=
  if nt ≤ t + 6 then none else match (sT tk pl vl wi (dNm wd A) nt (dRf A) N (A.1 44 0 + 1) 399).1 (t + 6) (A.1 5) with
  | none => none
  | some (.inl f) => some (.inl f)
  | some (.inr (t1, S, b, D, C)) => if nt ≤ t1 ∨ t1 ≤ t + 6 then none else dok t1 (dAlw A S b D C)
def dAss (A : ds) (L : List aop) (C : Nat) : ds := tu (tu (tu (tu (tu (tu (tu (uu A 2 (A.1 43 0) L) 38 (A.1 43 0) (A.1 21 (A.1 46 0))) 19 (A.1 43 0) (A.1 46 0)) 43 0 (A.1 43 0 + 1)) 47 0 (A.1 47 0 + C)) 15 (A.1 45 0) 1) 16 (A.1 45 0) (A.1 43 0)) 45 0 (A.1 45 0 + 1)
def dAssert (t : Nat) (A : ds) : dr :=
  if nt ≤ t + 2 then none else match dX tk pl vl wi wd nt N A (t + 2) with
  | none => none
  | some (.inl f) => some (.inl f)
  | some (.inr (w, t1, L, C)) => dok (t1 + 2) (dAss A L (C + w))
/-- a link that drives s -/
def dLo (A : ds) (p s : Nat) (L : List aop) (C : Nat) : ds := tu (tu (tu (tu (tu (tu (uu (tu (tu (tu (tu A 36 (A.1 42 0) (A.1 21 (A.1 46 0))) 37 (A.1 42 0) (A.1 21 (A.1 10 (A.1 41 0)))) 18 (A.1 42 0) (A.1 41 0)) 13 (A.1 42 0) p) 1 (A.1 42 0) L) 14 (A.1 42 0) (s + 1)) 42 0 (A.1 42 0 + 1)) 47 0 (A.1 47 0 + C)) 4 s 2) 6 s (A.1 41 0)) 7 s p
def dLi (A : ds) (p : Nat) (L : List aop) (C : Nat) : ds := tu (tu (tu (uu (tu (tu (tu (tu A 36 (A.1 42 0) (A.1 21 (A.1 46 0))) 37 (A.1 42 0) (A.1 21 (A.1 10 (A.1 41 0)))) 18 (A.1 42 0) (A.1 41 0)) 13 (A.1 42 0) p) 1 (A.1 42 0) L) 14 (A.1 42 0) 0) 42 0 (A.1 42 0 + 1)) 47 0 (A.1 47 0 + C)
def dLink (m t : Nat) (A : ds) : dr :=
  if nt ≤ t + 3 ∨ tk (t + 1) ≠ 400 then none else match dPrt wd A m (t + 1) with
  | none => dno 23 (pl (t + 1))
  | some p => if 2 < A.1 2 p ∨ dLkd A p ≠ none then dno 23 (pl (t + 1)) else match dX tk pl vl wi wd nt N A (t + 3) with
    | none => none
    | some (.inl f) => some (.inl f)
    | some (.inr (w, t1, L, C)) => if A.1 2 p = 0 then (if w = A.1 1 p then dok (t1 + 1) (dLi A p L C) else dno 30 (pl t))
      else if tk (t + 3) ≠ 400 ∨ t1 ≠ t + 4 then dno 25 (pl (t + 3)) else match dHere wd A (t + 3) with
        | none => dno 25 (pl (t + 3))
        | some s => if dDrv A s = false then dno 25 (pl (t + 3)) else if w ≠ A.1 1 p then dno 30 (pl t) else if A.1 4 s ≠ 0 then dno 31 (pl (t + 3)) else dok (t1 + 1) (dLo A p s L C)
def dLinks (m : Nat) : Nat → Nat → ds → dr
  | 0, _, _ => none
  | n + 1, t, A => if nt ≤ t then none else if tk t = 46 then db (dLink tk pl vl wi wd nt N m t A) (fun t1 A1 => if nt ≤ t1 then none else dLinks m n (if tk t1 = 44 then t1 + 1 else t1) A1) else dok t A
/-- a port that has no link -/
def dOpn (A : ds) (m : Nat) : Option Nat := fnd (fun d => decide (A.1 2 d < 3 ∧ dLkd A d = none)) (A.1 21 (m + 1) - A.1 21 m) (A.1 21 m)
def dIt (A : ds) (m t : Nat) : ds := tu (tu (tu (tu A 9 (A.1 41 0) (A.1 46 0)) 10 (A.1 41 0) m) 11 (A.1 41 0) t) 12 (A.1 41 0) (A.1 42 0)
def dItE (A : ds) : ds := tu (tu A 12 (A.1 41 0 + 1) (A.1 42 0)) 41 0 (A.1 41 0 + 1)
def dInstance (t : Nat) (A : ds) : dr :=
  if nt ≤ t + 3 ∨ tk t ≠ 400 ∨ tk (t + 1) ≠ 400 then none else match dMod wd A t with
  | none => dno 22 (pl t)
  | some m => if dHere wd A (t + 1) ≠ none ∨ dInst wd A (t + 1) ≠ none then dno 21 (pl (t + 1)) else
    db (dLinks tk pl vl wi wd nt N m N (t + 3) (dIt A m (t + 1))) (fun t1 A1 => if nt ≤ t1 + 1 then none else if dOpn A1 m ≠ none then dno 24 (pl (t + 1)) else dok (t1 + 2) (dItE A1))
def dItem (t : Nat) (A : ds) : dr :=
  if nt ≤ t + 1 then none else if tk t = 304 then db (dDecl tk pl vl wi wd nt 3 (t + 1) A) (fun t1 A1 => if nt ≤ t1 then none else dok (t1 + 1) A1) else if tk t = 305 then db (dDecl tk pl vl wi wd nt 4 (t + 1) A) (fun t1 A1 => if nt ≤ t1 then none else dok (t1 + 1) A1)
  else if tk t = 306 then dAssign tk pl vl wi wd nt N t A else if tk t = 307 then dAlways tk pl vl wi wd nt N t A else if tk t = 317 then dAssert tk pl vl wi wd nt N t A else dInstance tk pl vl wi wd nt N t A
def dItems : Nat → Nat → ds → dr
  | 0, _, _ => none
  | n + 1, t, A => if nt ≤ t then none else if tk t = 301 then dok t A else db (dItem tk pl vl wi wd nt N t A) (dItems n)
/-- the first name that should be driven and isn't -/
def dUnd (A : ds) : Option Nat := fnd (fun d => decide (dDrv A d = true ∧ A.1 4 d = 0)) (A.1 40 0 - A.1 21 (A.1 46 0)) (A.1 21 (A.1 46 0))
/-- sums from a on -/
def sumF (f : Nat → Nat) : Nat → Nat → Nat
  | 0, _ => 0
  | n + 1, a => f a + sumF f n (a + 1)
def dSum (A : ds) (k : Nat) : Nat := sumF (fun i => A.1 k (A.1 10 i)) (A.1 41 0 - A.1 22 (A.1 46 0)) (A.1 22 (A.1 46 0))
def dBits (A : ds) : Nat := sumF (fun d => if dRg A d = true then A.1 1 d else 0) (A.1 40 0 - A.1 21 (A.1 46 0)) (A.1 21 (A.1 46 0))
def dFirsts (A : ds) (m : Nat) : ds := tu (tu (tu (tu (tu A 21 m (A.1 40 0)) 22 m (A.1 41 0)) 23 m (A.1 43 0)) 24 m (A.1 44 0)) 25 m (A.1 45 0)
def dEnd (A : ds) : ds := dFirsts (tu (tu (tu (tu (tu (tu A 27 (A.1 46 0) (A.1 47 0 + dSum A 27)) 28 (A.1 46 0) (dBits A + dSum A 28)) 29 (A.1 46 0) (A.1 40 0 - A.1 21 (A.1 46 0) + dSum A 29)) 30 (A.1 46 0) (A.1 41 0 - A.1 22 (A.1 46 0) + dSum A 30)) 31 (A.1 46 0) (A.1 43 0 - A.1 23 (A.1 46 0) + dSum A 31)) 46 0 (A.1 46 0 + 1)) (A.1 46 0 + 1)
def dBeg (A : ds) (t : Nat) : ds := tu (tu (tu (dFirsts A (A.1 46 0)) 20 (A.1 46 0) t) 47 0 0) 26 (A.1 46 0) 0
def dModule (t : Nat) (A : ds) : dr :=
  if nt ≤ t + 3 ∨ tk (t + 1) ≠ 400 then none else if dMod wd A (t + 1) ≠ none then dno 20 (pl (t + 1)) else
  db (dPorts tk pl vl wi wd nt N (t + 3) (dBeg A (t + 1))) (fun t1 A1 => if nt ≤ t1 + 2 then none else db (dItems tk pl vl wi wd nt N N (t1 + 2) (tu A1 26 (A1.1 46 0) (A1.1 40 0 - A1.1 21 (A1.1 46 0)))) (fun t2 A2 => match dUnd A2 with
    | some d => dno 33 (pl (A2.1 0 d))
    | none => dok (t2 + 1) (dEnd A2)))
def dDesign : Nat → Nat → ds → dr
  | 0, _, _ => none
  | n + 1, t, A => if nt ≤ t then none else if tk t = 403 then dok t A else db (dModule tk pl vl wi wd nt N t A) (fun t1 A1 => dDesign n t1 A1)
end DS
def dA0 : ds := (fun _ _ => 0, fun _ _ => [], fun _ _ n => n)
