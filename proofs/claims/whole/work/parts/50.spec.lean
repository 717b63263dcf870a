/-! The grammar as pure functions: a state is (token, depth, fault, its place). -/
abbrev gs : Type := Nat × Nat × Nat × Nat
section GS
variable (tk pl : Nat → Nat)
def gIs (k : Nat) (σ : gs) : Bool := decide (σ.2.2.1 = 0 ∧ tk σ.1 = k)
def gNo (σ : gs) : gs := if σ.2.2.1 = 0 then (σ.1, σ.2.1, if tk σ.1 = 404 then 1 else 2, pl σ.1) else σ
def gInc (σ : gs) : gs := (σ.1 + 1, σ.2)
def gTake (k : Nat) (σ : gs) : gs := if gIs tk k σ then gInc σ else gNo tk pl σ
def gOpen (k : Nat) (σ : gs) : gs := if gIs tk k σ then (if 60 ≤ σ.2.1 then (σ.1, σ.2.1, 3, pl σ.1) else (σ.1 + 1, σ.2.1 + 1, σ.2.2)) else gNo tk pl σ
def gDn (σ : gs) : Option gs := if σ.2.2.1 = 0 then (if σ.2.1 = 0 then none else some (σ.1, σ.2.1 - 1, σ.2.2)) else some σ
def gShut (k : Nat) (σ : gs) : Option gs := gDn (gTake tk pl k σ)
def rk (k : Nat) : Nat := if k = 38 then 5 else if k = 42 then 10 else if k = 43 then 9 else if k = 45 then 9 else if k = 60 then 7 else if k = 62 then 7 else if k = 94 then 4 else if k = 124 then 3 else if k = 256 then 2 else if k = 257 then 1 else if k = 258 then 6 else if k = 259 then 6 else if k = 260 then 7 else if k = 261 then 7 else if k = 262 then 8 else if k = 263 then 8 else 0
def isU (k : Nat) : Bool := decide (k = 126 ∨ k = 33 ∨ k = 45 ∨ k = 38 ∨ k = 124 ∨ k = 94)
def gPart (σ : gs) : gs := if gIs tk 58 (gTake tk pl 401 σ) then gTake tk pl 401 (gInc (gTake tk pl 401 σ)) else gTake tk pl 401 σ
def gXf (gE : gs → Option gs) (σ : gs) : Option gs := if gIs tk 63 σ then (gE (gOpen tk pl 63 σ)).bind (fun σ => (gE (gTake tk pl 58 σ)).bind (fun σ => gDn σ)) else some σ
def gXl (gE gO : gs → Option gs) : Nat → gs → Option gs
  | 0, _ => none
  | n + 1, σ => if σ.2.2.1 = 0 ∧ 0 < rk (tk σ.1) then (gO (gInc σ)).bind (gXl gE gO n) else gXf tk pl gE σ
def gX1 (N : Nat) (gE gO : gs → Option gs) (σ : gs) : Option gs := (gO σ).bind (gXl tk pl gE gO N)
def gPri (gE gB : gs → Option gs) (σ : gs) : Option gs :=
  if gIs tk 402 σ then some (gInc σ) else if gIs tk 400 σ then (if gIs tk 91 (gInc σ) then (if gIs tk 401 (gOpen tk pl 91 (gInc σ)) then gShut tk pl 93 (gPart tk pl (gOpen tk pl 91 (gInc σ))) else (gE (gOpen tk pl 91 (gInc σ))).bind (fun σ => gShut tk pl 93 σ)) else some (gInc σ))
  else if gIs tk 40 σ then (gE (gOpen tk pl 40 σ)).bind (fun σ => gShut tk pl 41 σ) else if gIs tk 123 σ then gB σ else some (gNo tk pl σ)
def gOl (gE gB : gs → Option gs) : Nat → gs → Option gs
  | 0, _ => none
  | n + 1, σ => if σ.2.2.1 = 0 ∧ isU (tk σ.1) = true then gOl gE gB n (gInc σ) else gPri tk pl gE gB σ
def gBl (gE : gs → Option gs) : Nat → gs → Option gs
  | 0, _ => none
  | n + 1, σ => if gIs tk 44 σ then (gE (gInc σ)).bind (gBl gE n) else gShut tk pl 125 σ
def gB1 (N : Nat) (gE : gs → Option gs) (σ : gs) : Option gs := if gIs tk 401 (gOpen tk pl 123 σ) then (gE (gOpen tk pl 123 (gInc (gOpen tk pl 123 σ)))).bind (fun σ => (gShut tk pl 125 σ).bind (fun σ => gShut tk pl 125 σ)) else (gE (gOpen tk pl 123 σ)).bind (gBl tk pl gE N)
/-- exp, operand, braces -/
def gG (N : Nat) : Nat → (gs → Option gs) × (gs → Option gs) × (gs → Option gs)
  | 0 => (fun _ => none, fun _ => none, fun _ => none)
  | d + 1 => (gX1 tk pl N (gG N d).1 (gG N d).2.1, gOl tk pl (gG N d).1 (gG N d).2.2 N, gB1 tk pl N (gG N d).1)
def gE (N : Nat) : gs → Option gs := (gG tk pl N 400).1
def gSl (gS : gs → Option gs) : Nat → gs → Option gs
  | 0, _ => none
  | n + 1, σ => if σ.2.2.1 = 0 ∧ tk σ.1 ≠ 311 then (gS σ).bind (gSl gS n) else gShut tk pl 311 σ
def gSet (N : Nat) (σ : gs) : Option gs := (gE tk pl N (gTake tk pl 260 σ)).bind (fun σ => some (gTake tk pl 59 σ))
def gS1 (N : Nat) (gS gC : gs → Option gs) (σ : gs) : Option gs :=
  if gIs tk 310 σ then gSl tk pl gS N (gOpen tk pl 310 σ)
  else if gIs tk 312 σ then (gE tk pl N (gOpen tk pl 40 (gOpen tk pl 312 σ))).bind (fun σ => (gShut tk pl 41 σ).bind (fun σ => (gS σ).bind (fun σ => if gIs tk 313 σ then (gS (gInc σ)).bind (fun σ => gDn σ) else gDn σ)))
  else if gIs tk 314 σ then gC σ
  else if gIs tk 91 (gTake tk pl 400 σ) then (gShut tk pl 93 (gPart tk pl (gOpen tk pl 91 (gTake tk pl 400 σ)))).bind (gSet tk pl N) else gSet tk pl N (gTake tk pl 400 σ)
/-- behind a label: more of them, and the arm -/
def gLl (gS : gs → Option gs) (k : gs → Option gs) : Nat → gs → Option gs
  | 0, _ => none
  | n + 1, σ => if gIs tk 44 σ then gLl gS k n (gTake tk pl 402 (gInc σ)) else (gS (gTake tk pl 58 σ)).bind k
def gCl (N : Nat) (gS : gs → Option gs) : Nat → gs → Option gs
  | 0, _ => none
  | n + 1, σ => if gIs tk 402 σ then gLl tk pl gS (gCl N gS n) N (gInc σ) else if gIs tk 316 σ then (gS (gTake tk pl 58 (gInc σ))).bind (fun σ => gShut tk pl 315 σ) else gShut tk pl 315 σ
def gC1 (N : Nat) (gS : gs → Option gs) (σ : gs) : Option gs := (gE tk pl N (gOpen tk pl 40 (gOpen tk pl 314 σ))).bind (fun σ => (gShut tk pl 41 σ).bind (gCl tk pl N gS N))
def gT (N : Nat) : Nat → (gs → Option gs) × (gs → Option gs)
  | 0 => (fun _ => none, fun _ => none)
  | d + 1 => (gS1 tk pl N (gT N d).1 (gT N d).2, gC1 tk pl N (gT N d).1)
def gS (N : Nat) : gs → Option gs := (gT tk pl N 400).1
def gRange (σ : gs) : Option gs := if gIs tk 91 σ then gShut tk pl 93 (gTake tk pl 401 (gTake tk pl 58 (gTake tk pl 401 (gOpen tk pl 91 σ)))) else some σ
def gBegin (σ : gs) : gs := if gIs tk 61 σ then gTake tk pl 402 (gInc σ) else σ
def gPort (σ : gs) : Option gs :=
  if gIs tk 302 σ then (gRange tk pl (gInc σ)).bind (fun σ => some (gTake tk pl 400 σ))
  else if gIs tk 305 (gTake tk pl 303 σ) then (gRange tk pl (gInc (gTake tk pl 303 σ))).bind (fun σ => some (gBegin tk pl (gTake tk pl 400 σ))) else (gRange tk pl (gTake tk pl 303 σ)).bind (fun σ => some (gTake tk pl 400 σ))
def gLink (N : Nat) (σ : gs) : Option gs := (gE tk pl N (gOpen tk pl 40 (gTake tk pl 400 (gTake tk pl 46 σ)))).bind (fun σ => gShut tk pl 41 σ)
def gIl (N : Nat) : Nat → gs → Option gs
  | 0, _ => none
  | n + 1, σ => if gIs tk 44 σ then (gLink tk pl N (gInc σ)).bind (gIl N n) else (gShut tk pl 41 σ).bind (fun σ => some (gTake tk pl 59 σ))
def gItem (N : Nat) (σ : gs) : Option gs :=
  if gIs tk 304 σ then (gRange tk pl (gInc σ)).bind (fun σ => some (gTake tk pl 59 (gTake tk pl 400 σ)))
  else if gIs tk 305 σ then (gRange tk pl (gInc σ)).bind (fun σ => some (gTake tk pl 59 (gBegin tk pl (gTake tk pl 400 σ))))
  else if gIs tk 306 σ then (gE tk pl N (gTake tk pl 61 (gTake tk pl 400 (gInc σ)))).bind (fun σ => some (gTake tk pl 59 σ))
  else if gIs tk 307 σ then (gShut tk pl 41 (gTake tk pl 309 (gTake tk pl 308 (gOpen tk pl 40 (gTake tk pl 64 (gInc σ)))))).bind (gS tk pl N)
  else if gIs tk 317 σ then (gE tk pl N (gOpen tk pl 40 (gInc σ))).bind (fun σ => (gShut tk pl 41 σ).bind (fun σ => some (gTake tk pl 59 σ)))
  else if gIs tk 46 (gOpen tk pl 40 (gTake tk pl 400 (gTake tk pl 400 σ))) then (gLink tk pl N (gOpen tk pl 40 (gTake tk pl 400 (gTake tk pl 400 σ)))).bind (gIl tk pl N N)
  else (gShut tk pl 41 (gOpen tk pl 40 (gTake tk pl 400 (gTake tk pl 400 σ)))).bind (fun σ => some (gTake tk pl 59 σ))
def gMl (N : Nat) (k : gs → Option gs) : Nat → gs → Option gs
  | 0, _ => none
  | n + 1, σ => if σ.2.2.1 = 0 ∧ tk σ.1 ≠ 301 then (gItem tk pl N σ).bind (gMl N k n) else k (gTake tk pl 301 σ)
def gPl (N : Nat) (k : gs → Option gs) : Nat → gs → Option gs
  | 0, _ => none
  | n + 1, σ => if gIs tk 44 σ then (gPort tk pl (gInc σ)).bind (gPl N k n) else (gShut tk pl 41 σ).bind (fun σ => gMl tk pl N k N (gTake tk pl 59 σ))
/-- modules; behind one: another, or the end -/
def gDl (N : Nat) : Nat → gs → Option gs
  | 0, _ => none
  | n + 1, σ => if σ.2.2.1 = 0 then
      (if gIs tk 302 (gOpen tk pl 40 (gTake tk pl 400 (gTake tk pl 300 σ))) = true ∨ gIs tk 303 (gOpen tk pl 40 (gTake tk pl 400 (gTake tk pl 300 σ))) = true
        then (gPort tk pl (gOpen tk pl 40 (gTake tk pl 400 (gTake tk pl 300 σ)))).bind (gPl tk pl N (fun σ => if σ.2.2.1 = 0 ∧ tk σ.1 ≠ 403 then gDl N n σ else some σ) N)
        else (gShut tk pl 41 (gOpen tk pl 40 (gTake tk pl 400 (gTake tk pl 300 σ)))).bind (fun σ => gMl tk pl N (fun σ => if σ.2.2.1 = 0 ∧ tk σ.1 ≠ 403 then gDl N n σ else some σ) N (gTake tk pl 59 σ)))
    else some σ
end GS
