/-! The meaning of exps as a pure function: its width, the token behind it, its ops, its cost; or a fault and its place. -/
abbrev aop : Type := Nat × Nat × Nat
abbrev xr : Type := Option (Sum (Nat × Nat) (Nat × Nat × List aop × Nat))
def xok (w t : Nat) (L : List aop) (C : Nat) : xr := some (.inr (w, t, L, C))
def xno (f p : Nat) : xr := some (.inl (f, p))
def xb (r : xr) (k : Nat → Nat → List aop → Nat → xr) : xr :=
  match r with
  | none => none
  | some (.inl f) => some (.inl f)
  | some (.inr q) => k q.1 q.2.1 q.2.2.1 q.2.2.2
section ES
variable (tk pl vl wi : Nat → Nat) (nm : Nat → Option (Nat × Nat)) (nt : Nat)
/-- operators that bind at least r are told: those that wait, widths, ops, cost -/
def eRed (r : Nat) : List (Nat × Nat) → List Nat → List aop → Nat → Option (Sum (Nat × Nat) (List (Nat × Nat) × List Nat × List aop × Nat))
  | [], ws, L, C => some (.inr ([], ws, L, C))
  | (k, p) :: ops, ws, L, C => if r ≤ rk k then
      (match ws with
      | b :: a :: ws => if bAny k = true ∨ a = b then eRed r ops (bMade k a :: ws) (L ++ [(5, k, a)]) (C + bCost k a b) else some (.inl (30, p))
      | _ => none)
    else some (.inr ((k, p) :: ops, ws, L, C))
def eBl (eO : Nat → xr) : Nat → List (Nat × Nat) → List Nat → List aop → Nat → Nat → xr
  | 0, _, _, _, _, _ => none
  | n + 1, ops, ws, L, C, t => if nt ≤ t then none else if 0 < rk (tk t) then
      (match eRed (rk (tk t)) ops ws L C with
      | none => none
      | some (.inl f) => some (.inl f)
      | some (.inr q) => xb (eO (t + 1)) (fun w t2 L2 C2 => eBl eO n ((tk t, pl t) :: q.1) (w :: q.2.1) (q.2.2.1 ++ L2) (q.2.2.2 + C2) t2))
    else
      (match eRed 1 ops ws L C with
      | none => none
      | some (.inl f) => some (.inl f)
      | some (.inr q) => (match q.2.1 with
        | [w] => xok w t q.2.2.1 q.2.2.2
        | _ => none))
def eBin (N : Nat) (eO : Nat → xr) (t : Nat) : xr := xb (eO t) (fun w t2 L C => eBl tk pl nt eO N [] [w] L C t2)
def eX1 (eE eB : Nat → xr) (t : Nat) : xr := xb (eB t) (fun c t1 L C => if tk t1 = 63 then xb (eE (t1 + 1)) (fun a t2 L2 C2 => xb (eE (t2 + 1)) (fun b t3 L3 C3 => if a = b then xok a t3 (L ++ L2 ++ L3 ++ [(6, 0, 0)]) (C + C2 + C3 + max c a) else xno 30 (pl t1))) else xok c t1 L C)
/-- n signs before an operand, the last one first -/
def eUa (t0 : Nat) : Nat → Nat → List aop → Nat → Nat × List aop × Nat
  | 0, w, L, C => (w, L, C)
  | n + 1, w, L, C => eUa t0 n (if tk (t0 + n) = 126 ∨ tk (t0 + n) = 45 then w else 1) (L ++ [(4, tk (t0 + n), w)]) (C + w)
def eOl (eP : Nat → xr) (t0 : Nat) : Nat → Nat → xr
  | 0, _ => none
  | n + 1, t => if nt ≤ t then none else if isU (tk t) = true then eOl eP t0 n (t + 1) else xb (eP t) (fun w t2 L C => xok (eUa tk t0 (t - t0) w L C).1 t2 (eUa tk t0 (t - t0) w L C).2.1 (eUa tk t0 (t - t0) w L C).2.2)
def eP1 (eE : Nat → xr) (eBr : Nat → Nat → xr) (t : Nat) : xr :=
  if tk t = 402 then xok (wi t) (t + 1) [(0, vl t, 0)] 0
  else if tk t = 40 then xb (eE (t + 1)) (fun w t2 L C => xok w (t2 + 1) L C)
  else if tk t = 123 then eBr (pl t) (t + 1)
  else if tk t = 400 then (match nm t with
    | none => xno 22 (pl t)
    | some q => if tk (t + 1) = 91 then
        (if tk (t + 2) = 401 then
          (if tk (t + 3) = 58 then (if nt ≤ t + 5 ∨ tk (t + 4) ≠ 401 then none else if vl (t + 2) < vl (t + 4) ∨ q.2 ≤ vl (t + 2) then xno 30 (pl (t + 1)) else xok (vl (t + 2) - vl (t + 4) + 1) (t + 6) [(1, q.1, 0), (2, vl (t + 2), vl (t + 4))] 0)
          else (if q.2 ≤ vl (t + 2) then xno 30 (pl (t + 1)) else xok 1 (t + 4) [(1, q.1, 0), (2, vl (t + 2), vl (t + 2))] 0))
        else xb (eE (t + 2)) (fun w t2 L C => xok 1 (t2 + 1) ([(1, q.1, 0)] ++ L ++ [(3, q.2, 0)]) (C + max w q.2)))
      else xok q.2 (t + 1) [(1, q.1, 0)] 0)
  else none
def eJl (eE : Nat → xr) (p : Nat) : Nat → Nat → Nat → List aop → Nat → xr
  | 0, _, _, _, _ => none
  | n + 1, u, t, L, C => if nt ≤ t then none else if tk t = 44 then xb (eE (t + 1)) (fun w t2 L2 C2 => eJl eE p n (u + w) t2 (L ++ L2 ++ [(7, w, 0)]) (C + C2)) else if 64 < u then xno 30 p else xok u (t + 1) L C
def eBr1 (N : Nat) (eE : Nat → xr) (p t : Nat) : xr :=
  if nt ≤ t then none else if tk t = 401 then xb (eE (t + 2)) (fun w t2 L C => if vl t = 0 ∨ 64 < vl t * w then xno 30 p else xok (vl t * w) (t2 + 2) (L ++ [(8, vl t, w)]) C)
  else xb (eE t) (fun w t2 L C => eJl tk nt eE p N w t2 L C)
/-- exp, binary, operand, primary, braces -/
def eG (N : Nat) : Nat → (Nat → xr) × (Nat → xr) × (Nat → xr) × (Nat → xr) × (Nat → Nat → xr)
  | 0 => (fun _ => none, fun _ => none, fun _ => none, fun _ => none, fun _ _ => none)
  | d + 1 => (eX1 tk pl (eG N d).1 (eG N d).2.1, eBin tk pl nt N (eG N d).2.2.1, fun t => eOl tk nt (eG N d).2.2.2.1 t N t, eP1 tk pl vl wi nm nt (eG N d).1 (eG N d).2.2.2.2, eBr1 tk vl nt N (eG N d).1)
def eE (N : Nat) : Nat → xr := (eG tk pl vl wi nm nt N 400).1
end ES
