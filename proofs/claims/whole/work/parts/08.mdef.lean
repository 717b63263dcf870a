/-! The reference, decompiled. -/
def lay_put (v1 : Int32) (v2 : Int32) (v3 : Int32) (s : ms) : Option (Unit × ms) :=
  if ((s.1 42 0) < 0 ∨ (s.1 91 0).toNatClampNeg ≤ Int32.toNatClampNeg ((s.1 42 0))) then none else if (((s.1 42 0) + 1) < 0 ∨ (s.1 91 0).toNatClampNeg ≤ Int32.toNatClampNeg (((s.1 42 0) + 1))) then none else if (((s.1 42 0) + 2) < 0 ∨ (s.1 91 0).toNatClampNeg ≤ Int32.toNatClampNeg (((s.1 42 0) + 2))) then none else some ((), upI (upI (upI (upI s 41 (upd (s.1 41) (Int32.toNatClampNeg ((s.1 42 0))) v1)) 41 (upd (upd (s.1 41) (Int32.toNatClampNeg ((s.1 42 0))) v1) (Int32.toNatClampNeg (((s.1 42 0) + 1))) v2)) 41 (upd (upd (upd (s.1 41) (Int32.toNatClampNeg ((s.1 42 0))) v1) (Int32.toNatClampNeg (((s.1 42 0) + 1))) v2) (Int32.toNatClampNeg (((s.1 42 0) + 2))) v3)) 42 (fun _ => ((s.1 42 0) + 3)))
def lay_grow (s : ms) : ms := upI (upI s 41 (fun k => if k < (s.1 42 0).toNatClampNeg then s.1 41 k else 0)) 91 (fun _ => nI (2 * (s.1 91 0).toNatClampNeg))
def fn_M_lay (_ : Nat) (v1 : Int32) (v2 : Int32) (v3 : Int32) (s : ms) : Option (Unit × ms) :=
  if s.1 42 0 + 3 ≤ Int32.ofNat (s.1 91 0).toNatClampNeg then lay_put v1 v2 v3 s else
  if (400000 < (s.1 91 0).toNatClampNeg ∨ (s.1 91 0).toNatClampNeg = 0 ∨ s.1 42 0 < 0 ∨ (s.1 91 0).toNatClampNeg < (s.1 42 0).toNatClampNeg) then none else lay_put v1 v2 v3 (lay_grow s)
def keep_put (v1 : Int64) (s : ms) : Option (Int32 × ms) :=
  if ((s.1 44 0) < 0 ∨ (s.1 92 0).toNatClampNeg ≤ Int32.toNatClampNeg ((s.1 44 0))) then none else some ((((s.1 44 0) + 1) - 1), upI (upJ s 43 (vp_updL (s.2 43) (Int32.toNatClampNeg ((s.1 44 0))) v1)) 44 (fun _ => ((s.1 44 0) + 1)))
def keep_grow (s : ms) : ms := upI (upJ s 43 (fun k => if k < (s.1 44 0).toNatClampNeg then s.2 43 k else 0)) 92 (fun _ => nI (2 * (s.1 44 0).toNatClampNeg))
def fn_M_keepNumber (_ : Nat) (v1 : Int64) (s : ms) : Option (Int32 × ms) :=
  if s.1 44 0 = Int32.ofNat (s.1 92 0).toNatClampNeg then
    (if (400000 < (s.1 92 0).toNatClampNeg ∨ (s.1 92 0).toNatClampNeg = 0 ∨ s.1 44 0 < 0 ∨ ¬ (s.1 44 0).toNatClampNeg = (s.1 92 0).toNatClampNeg) then none else keep_put v1 (keep_grow s))
  else keep_put v1 s
def fn_M_thrown (N : Nat) (s : ms) : Option (Int32 × ms) :=
  some ((s.1 0 0), s)
def fn_M_at (N : Nat) (v1 : Int32) (s : ms) : Option (Int32 × ms) :=
  if (s.1 2 0) ≤ v1 then (some ((-1), s)) else (if (v1 < 0 ∨ 65536 ≤ Int32.toNatClampNeg v1) then none else some ((((s.1 90) (Int32.toNatClampNeg v1)) &&& 255), s))
def bk_M_skip_142 (N : Nat) (k_2 : Int32 → ms → Option (Int32 × ms)) (x2 : Int32) (x4 : Int32) (s : ms) : Option (Int32 × ms) :=
  if x4 < (s.1 2 0) then (k_2 ((x4 + 2)) s) else (some (((-1) - x2), s))
def bd_M_skip_103 (N : Nat) (k_2 : Int32 → ms → Option (Int32 × ms)) (k_103 : Int32 → Int32 → ms → Option (Int32 × ms)) (x2 : Int32) (x4 : Int32) (s : ms) : Option (Int32 × ms) :=
  if (s.1 2 0) ≤ x4 then (bk_M_skip_142 N k_2 x2 x4 s) else ((fn_M_at N x4 s).bind (fun q_1 => if q_1.1 = 42 then ((fn_M_at N ((x4 + 1)) q_1.2).bind (fun q_4 => if q_4.1 = 47 then (bk_M_skip_142 N k_2 x2 x4 q_4.2) else (k_103 x2 ((x4 + 1)) q_4.2))) else (k_103 x2 ((x4 + 1)) q_1.2)))
def hd_M_skip_103 (N : Nat) (k_2 : Int32 → ms → Option (Int32 × ms)) : Nat → Int32 → Int32 → ms → Option (Int32 × ms)
  | 0, _, _, _ => none
  | n + 1, x2, x4, s => bd_M_skip_103 N k_2 (hd_M_skip_103 N k_2 n) x2 x4 s
def bk_M_skip_80 (N : Nat) (k_2 : Int32 → ms → Option (Int32 × ms)) (x2 : Int32) (x3 : Int32) (s : ms) : Option (Int32 × ms) :=
  if x3 = 47 then ((fn_M_at N ((x2 + 1)) s).bind (fun q_1 => if q_1.1 = 42 then (hd_M_skip_103 N k_2 N x2 ((x2 + 2)) q_1.2) else (some (x2, q_1.2)))) else (some (x2, s))
def bd_M_skip_56 (N : Nat) (k_2 : Int32 → ms → Option (Int32 × ms)) (k_56 : Int32 → ms → Option (Int32 × ms)) (x2 : Int32) (s : ms) : Option (Int32 × ms) :=
  if (s.1 2 0) ≤ x2 then (k_2 x2 s) else ((fn_M_at N x2 s).bind (fun q_1 => if q_1.1 = 10 then (k_2 x2 q_1.2) else (k_56 ((x2 + 1)) q_1.2)))
def hd_M_skip_56 (N : Nat) (k_2 : Int32 → ms → Option (Int32 × ms)) : Nat → Int32 → ms → Option (Int32 × ms)
  | 0, _, _ => none
  | n + 1, x2, s => bd_M_skip_56 N k_2 (hd_M_skip_56 N k_2 n) x2 s
def bd_M_skip_2 (N : Nat) (k_2 : Int32 → ms → Option (Int32 × ms)) (x2 : Int32) (s : ms) : Option (Int32 × ms) :=
  (fn_M_at N x2 s).bind (fun q_1 => if q_1.1 = 9 then (k_2 ((x2 + 1)) q_1.2) else (if q_1.1 = 10 then (k_2 ((x2 + 1)) q_1.2) else (if q_1.1 = 13 then (k_2 ((x2 + 1)) q_1.2) else (if q_1.1 = 32 then (k_2 ((x2 + 1)) q_1.2) else (if q_1.1 = 47 then ((fn_M_at N ((x2 + 1)) q_1.2).bind (fun q_4 => if q_4.1 = 47 then (hd_M_skip_56 N k_2 N x2 q_4.2) else (bk_M_skip_80 N k_2 x2 q_1.1 q_4.2))) else (bk_M_skip_80 N k_2 x2 q_1.1 q_1.2))))))
def hd_M_skip_2 (N : Nat) : Nat → Int32 → ms → Option (Int32 × ms)
  | 0, _, _ => none
  | n + 1, x2, s => bd_M_skip_2 N (hd_M_skip_2 N n) x2 s
def fn_M_skip (N : Nat) (v1 : Int32) (s : ms) : Option (Int32 × ms) :=
  hd_M_skip_2 N N v1 s
def bk_M_isLetter_24 (N : Nat) (x0 : Int32) (s : ms) : Option (Int32 × ms) :=
  if x0 = 95 then (some (1, s)) else (some (0, s))
def bk_M_isLetter_12 (N : Nat) (x0 : Int32) (s : ms) : Option (Int32 × ms) :=
  if x0 < 65 then (bk_M_isLetter_24 N x0 s) else (if x0 ≤ 90 then (some (1, s)) else (bk_M_isLetter_24 N x0 s))
def fn_M_isLetter (N : Nat) (v0 : Int32) (s : ms) : Option (Int32 × ms) :=
  if v0 < 97 then (bk_M_isLetter_12 N v0 s) else (if v0 ≤ 122 then (some (1, s)) else (bk_M_isLetter_12 N v0 s))
def fn_M_isDigit (N : Nat) (v0 : Int32) (s : ms) : Option (Int32 × ms) :=
  if v0 < 48 then (some (0, s)) else (if 57 < v0 then (some (0, s)) else (some (1, s)))
def bk_M_pair_126 (N : Nat) (x0 : Int32) (x1 : Int32) (s : ms) : Option (Int32 × ms) :=
  if x0 = 62 then (if x1 = 62 then (some (263, s)) else (some (0, s))) else (some (0, s))
def bk_M_pair_108 (N : Nat) (x0 : Int32) (x1 : Int32) (s : ms) : Option (Int32 × ms) :=
  if x0 = 60 then (if x1 = 60 then (some (262, s)) else (bk_M_pair_126 N x0 x1 s)) else (bk_M_pair_126 N x0 x1 s)
def bk_M_pair_90 (N : Nat) (x0 : Int32) (x1 : Int32) (s : ms) : Option (Int32 × ms) :=
  if x0 = 62 then (if x1 = 61 then (some (261, s)) else (bk_M_pair_108 N x0 x1 s)) else (bk_M_pair_108 N x0 x1 s)
def bk_M_pair_72 (N : Nat) (x0 : Int32) (x1 : Int32) (s : ms) : Option (Int32 × ms) :=
  if x0 = 60 then (if x1 = 61 then (some (260, s)) else (bk_M_pair_90 N x0 x1 s)) else (bk_M_pair_90 N x0 x1 s)
def bk_M_pair_54 (N : Nat) (x0 : Int32) (x1 : Int32) (s : ms) : Option (Int32 × ms) :=
  if x0 = 33 then (if x1 = 61 then (some (259, s)) else (bk_M_pair_72 N x0 x1 s)) else (bk_M_pair_72 N x0 x1 s)
def bk_M_pair_36 (N : Nat) (x0 : Int32) (x1 : Int32) (s : ms) : Option (Int32 × ms) :=
  if x0 = 61 then (if x1 = 61 then (some (258, s)) else (bk_M_pair_54 N x0 x1 s)) else (bk_M_pair_54 N x0 x1 s)
def bk_M_pair_18 (N : Nat) (x0 : Int32) (x1 : Int32) (s : ms) : Option (Int32 × ms) :=
  if x0 = 124 then (if x1 = 124 then (some (257, s)) else (bk_M_pair_36 N x0 x1 s)) else (bk_M_pair_36 N x0 x1 s)
def fn_M_pair (N : Nat) (v0 : Int32) (v1 : Int32) (s : ms) : Option (Int32 × ms) :=
  if v0 = 38 then (if v1 = 38 then (some (256, s)) else (bk_M_pair_18 N v0 v1 s)) else (bk_M_pair_18 N v0 v1 s)
def fn_M_isSign (N : Nat) (v0 : Int32) (s : ms) : Option (Int32 × ms) :=
  if v0 = 33 then (some (1, s)) else (if v0 = 34 then (some (0, s)) else (if v0 = 35 then (some (0, s)) else (if v0 = 36 then (some (0, s)) else (if v0 = 37 then (some (0, s)) else (if v0 = 38 then (some (1, s)) else (if v0 = 39 then (some (0, s)) else (if v0 = 40 then (some (1, s)) else (if v0 = 41 then (some (1, s)) else (if v0 = 42 then (some (1, s)) else (if v0 = 43 then (some (1, s)) else (if v0 = 44 then (some (1, s)) else (if v0 = 45 then (some (1, s)) else (if v0 = 46 then (some (1, s)) else (if v0 = 47 then (some (0, s)) else (if v0 = 48 then (some (0, s)) else (if v0 = 49 then (some (0, s)) else (if v0 = 50 then (some (0, s)) else (if v0 = 51 then (some (0, s)) else (if v0 = 52 then (some (0, s)) else (if v0 = 53 then (some (0, s)) else (if v0 = 54 then (some (0, s)) else (if v0 = 55 then (some (0, s)) else (if v0 = 56 then (some (0, s)) else (if v0 = 57 then (some (0, s)) else (if v0 = 58 then (some (1, s)) else (if v0 = 59 then (some (1, s)) else (if v0 = 60 then (some (1, s)) else (if v0 = 61 then (some (1, s)) else (if v0 = 62 then (some (1, s)) else (if v0 = 63 then (some (1, s)) else (if v0 = 64 then (some (1, s)) else (if v0 = 65 then (some (0, s)) else (if v0 = 66 then (some (0, s)) else (if v0 = 67 then (some (0, s)) else (if v0 = 68 then (some (0, s)) else (if v0 = 69 then (some (0, s)) else (if v0 = 70 then (some (0, s)) else (if v0 = 71 then (some (0, s)) else (if v0 = 72 then (some (0, s)) else (if v0 = 73 then (some (0, s)) else (if v0 = 74 then (some (0, s)) else (if v0 = 75 then (some (0, s)) else (if v0 = 76 then (some (0, s)) else (if v0 = 77 then (some (0, s)) else (if v0 = 78 then (some (0, s)) else (if v0 = 79 then (some (0, s)) else (if v0 = 80 then (some (0, s)) else (if v0 = 81 then (some (0, s)) else (if v0 = 82 then (some (0, s)) else (if v0 = 83 then (some (0, s)) else (if v0 = 84 then (some (0, s)) else (if v0 = 85 then (some (0, s)) else (if v0 = 86 then (some (0, s)) else (if v0 = 87 then (some (0, s)) else (if v0 = 88 then (some (0, s)) else (if v0 = 89 then (some (0, s)) else (if v0 = 90 then (some (0, s)) else (if v0 = 91 then (some (1, s)) else (if v0 = 92 then (some (0, s)) else (if v0 = 93 then (some (1, s)) else (if v0 = 94 then (some (1, s)) else (if v0 = 95 then (some (0, s)) else (if v0 = 96 then (some (0, s)) else (if v0 = 97 then (some (0, s)) else (if v0 = 98 then (some (0, s)) else (if v0 = 99 then (some (0, s)) else (if v0 = 100 then (some (0, s)) else (if v0 = 101 then (some (0, s)) else (if v0 = 102 then (some (0, s)) else (if v0 = 103 then (some (0, s)) else (if v0 = 104 then (some (0, s)) else (if v0 = 105 then (some (0, s)) else (if v0 = 106 then (some (0, s)) else (if v0 = 107 then (some (0, s)) else (if v0 = 108 then (some (0, s)) else (if v0 = 109 then (some (0, s)) else (if v0 = 110 then (some (0, s)) else (if v0 = 111 then (some (0, s)) else (if v0 = 112 then (some (0, s)) else (if v0 = 113 then (some (0, s)) else (if v0 = 114 then (some (0, s)) else (if v0 = 115 then (some (0, s)) else (if v0 = 116 then (some (0, s)) else (if v0 = 117 then (some (0, s)) else (if v0 = 118 then (some (0, s)) else (if v0 = 119 then (some (0, s)) else (if v0 = 120 then (some (0, s)) else (if v0 = 121 then (some (0, s)) else (if v0 = 122 then (some (0, s)) else (if v0 = 123 then (some (1, s)) else (if v0 = 124 then (some (1, s)) else (if v0 = 125 then (some (1, s)) else (if v0 = 126 then (some (1, s)) else (some (0, s)))))))))))))))))))))))))))))))))))))))))))))))))))))))))))))))))))))))))))))))))))))))))))))))
def fn_M_token (N : Nat) (v1 : Int32) (v2 : Int32) (v3 : Int32) (s : ms) : Option (Unit × ms) :=
  if ((s.1 7 0) < 0 ∨ 65540 ≤ Int32.toNatClampNeg ((s.1 7 0))) then none else if ((s.1 7 0) < 0 ∨ 65540 ≤ Int32.toNatClampNeg ((s.1 7 0))) then none else if ((s.1 7 0) < 0 ∨ 65540 ≤ Int32.toNatClampNeg ((s.1 7 0))) then none else some ((), upI (upI (upI (upI s 4 (upd (s.1 4) (Int32.toNatClampNeg ((s.1 7 0))) v1)) 5 (upd (s.1 5) (Int32.toNatClampNeg ((s.1 7 0))) v2)) 6 (upd (s.1 6) (Int32.toNatClampNeg ((s.1 7 0))) v3)) 7 (fun _ => ((s.1 7 0) + 1)))
def fn_M_isIn (N : Nat) (v0 : Int32) (s : ms) : Option (Int32 × ms) :=
  (fn_M_isLetter N v0 s).bind (fun q_1 => if q_1.1 = 0 then ((fn_M_isDigit N v0 q_1.2).bind (fun q_4 => if q_4.1 = 0 then (if v0 = 36 then (some (1, q_4.2)) else (some (0, q_4.2))) else (some (1, q_4.2)))) else (some (1, q_1.2)))
def bd_M_numberEnd_32 (N : Nat) (k_32 : Int32 → ms → Option (Int32 × ms)) (x2 : Int32) (s : ms) : Option (Int32 × ms) :=
  (fn_M_at N x2 s).bind (fun q_1 => (fn_M_isIn N q_1.1 q_1.2).bind (fun q_4 => if q_4.1 = 0 then (some (x2, q_4.2)) else (k_32 ((x2 + 1)) q_4.2)))
def hd_M_numberEnd_32 (N : Nat) : Nat → Int32 → ms → Option (Int32 × ms)
  | 0, _, _ => none
  | n + 1, x2, s => bd_M_numberEnd_32 N (hd_M_numberEnd_32 N n) x2 s
def bd_M_numberEnd_2 (N : Nat) (k_2 : Int32 → ms → Option (Int32 × ms)) (x2 : Int32) (s : ms) : Option (Int32 × ms) :=
  (fn_M_at N x2 s).bind (fun q_1 => (fn_M_isDigit N q_1.1 q_1.2).bind (fun q_4 => if q_4.1 = 0 then ((fn_M_at N x2 q_4.2).bind (fun q_7 => if q_7.1 = 39 then (hd_M_numberEnd_32 N N ((x2 + 1)) q_7.2) else (hd_M_numberEnd_32 N N x2 q_7.2))) else (k_2 ((x2 + 1)) q_4.2)))
def hd_M_numberEnd_2 (N : Nat) : Nat → Int32 → ms → Option (Int32 × ms)
  | 0, _, _ => none
  | n + 1, x2, s => bd_M_numberEnd_2 N (hd_M_numberEnd_2 N n) x2 s
def fn_M_numberEnd (N : Nat) (v1 : Int32) (s : ms) : Option (Int32 × ms) :=
  hd_M_numberEnd_2 N N v1 s
def bk_M_digit_36 (N : Nat) (x0 : Int32) (s : ms) : Option (Int32 × ms) :=
  if x0 < 65 then (some (99, s)) else (if 70 < x0 then (some (99, s)) else (some (((x0 - 65) + 10), s)))
def fn_M_digit (N : Nat) (v0 : Int32) (s : ms) : Option (Int32 × ms) :=
  (fn_M_isDigit N v0 s).bind (fun q_1 => if q_1.1 = 0 then (if v0 < 97 then (bk_M_digit_36 N v0 q_1.2) else (if 102 < v0 then (bk_M_digit_36 N v0 q_1.2) else (some (((v0 - 97) + 10), q_1.2)))) else (some ((v0 - 48), q_1.2)))
def bk_M_read_IIIIJ_149 (N : Nat) (x5 : Int64) (x7 : Int64) (t0 : Int32) (s : ms) : Option (Int64 × ms) :=
  if ¬ (t0 = 0 ∨ t0 = 1) then none else some ((((x5 : Int64) <<< ((Int32.toInt64 32) &&& 63)) ||| x7), upI s 87 (fun _ => t0))
def bk_M_read_IIIIJ_148 (N : Nat) (x5 : Int64) (x7 : Int64) (s : ms) : Option (Int64 × ms) :=
  bk_M_read_IIIIJ_149 N x5 x7 0 s
def bk_M_read_IIIIJ_144 (N : Nat) (x5 : Int64) (x7 : Int64) (s : ms) : Option (Int64 × ms) :=
  bk_M_read_IIIIJ_149 N x5 x7 1 s
def bk_M_read_IIIIJ_76 (N : Nat) (k_12 : Int32 → Int32 → Int32 → Int64 → Int64 → Int32 → Int32 → ms → Option (Int64 × ms)) (x2 : Int32) (x3 : Int32) (x4 : Int32) (x5 : Int64) (x7 : Int64) (x10 : Int32) (t0 : Int32) (s : ms) : Option (Int64 × ms) :=
  k_12 x2 x3 x4 ((x5 &&& 4294967295)) x7 t0 ((x10 + 1)) s
def bk_M_read_IIIIJ_71 (N : Nat) (k_12 : Int32 → Int32 → Int32 → Int64 → Int64 → Int32 → Int32 → ms → Option (Int64 × ms)) (x2 : Int32) (x3 : Int32) (x4 : Int32) (x5 : Int64) (x7 : Int64) (x10 : Int32) (s : ms) : Option (Int64 × ms) :=
  bk_M_read_IIIIJ_76 N k_12 x2 x3 x4 x5 x7 x10 1 s
def bd_M_read_IIIIJ_12 (N : Nat) (k_12 : Int32 → Int32 → Int32 → Int64 → Int64 → Int32 → Int32 → ms → Option (Int64 × ms)) (x2 : Int32) (x3 : Int32) (x4 : Int32) (x5 : Int64) (x7 : Int64) (x9 : Int32) (x10 : Int32) (s : ms) : Option (Int64 × ms) :=
  if x2 ≤ x10 then (if x9 = 0 then (if 64 ≤ x4 then (bk_M_read_IIIIJ_144 N x5 x7 s) else (if x4 < 32 then (if (lg_cmp x5 0) = 0 then (if (lg_cmp (((x7 : Int64) >>> ((Int32.toInt64 x4) &&& 63))) 0) = 0 then (bk_M_read_IIIIJ_144 N x5 x7 s) else (bk_M_read_IIIIJ_148 N x5 x7 s)) else (bk_M_read_IIIIJ_148 N x5 x7 s)) else (if (lg_cmp (((x5 : Int64) >>> ((Int32.toInt64 ((x4 - 32))) &&& 63))) 0) = 0 then (bk_M_read_IIIIJ_144 N x5 x7 s) else (bk_M_read_IIIIJ_148 N x5 x7 s)))) else (bk_M_read_IIIIJ_148 N x5 x7 s)) else ((fn_M_at N x10 s).bind (fun q_1 => (fn_M_digit N q_1.1 q_1.2).bind (fun q_4 => if x9 = 0 then (if (lg_cmp (((x5 * (Int32.toInt64 x3)) + ((((x7 * (Int32.toInt64 x3)) + (Int32.toInt64 q_4.1)) : Int64) >>> ((Int32.toInt64 32) &&& 63)))) 4294967295) ≤ 0 then (bk_M_read_IIIIJ_76 N k_12 x2 x3 x4 (((x5 * (Int32.toInt64 x3)) + ((((x7 * (Int32.toInt64 x3)) + (Int32.toInt64 q_4.1)) : Int64) >>> ((Int32.toInt64 32) &&& 63)))) ((((x7 * (Int32.toInt64 x3)) + (Int32.toInt64 q_4.1)) &&& 4294967295)) x10 0 q_4.2) else (bk_M_read_IIIIJ_71 N k_12 x2 x3 x4 (((x5 * (Int32.toInt64 x3)) + ((((x7 * (Int32.toInt64 x3)) + (Int32.toInt64 q_4.1)) : Int64) >>> ((Int32.toInt64 32) &&& 63)))) ((((x7 * (Int32.toInt64 x3)) + (Int32.toInt64 q_4.1)) &&& 4294967295)) x10 q_4.2)) else (bk_M_read_IIIIJ_71 N k_12 x2 x3 x4 (((x5 * (Int32.toInt64 x3)) + ((((x7 * (Int32.toInt64 x3)) + (Int32.toInt64 q_4.1)) : Int64) >>> ((Int32.toInt64 32) &&& 63)))) ((((x7 * (Int32.toInt64 x3)) + (Int32.toInt64 q_4.1)) &&& 4294967295)) x10 q_4.2))))
def hd_M_read_IIIIJ_12 (N : Nat) : Nat → Int32 → Int32 → Int32 → Int64 → Int64 → Int32 → Int32 → ms → Option (Int64 × ms)
  | 0, _, _, _, _, _, _, _, _ => none
  | n + 1, x2, x3, x4, x5, x7, x9, x10, s => bd_M_read_IIIIJ_12 N (hd_M_read_IIIIJ_12 N n) x2 x3 x4 x5 x7 x9 x10 s
def fn_M_read_IIIIJ (N : Nat) (v1 : Int32) (v2 : Int32) (v3 : Int32) (v4 : Int32) (s : ms) : Option (Int64 × ms) :=
  hd_M_read_IIIIJ_12 N N v2 v3 v4 0 0 0 v1 s
def bk_M_numberKind_237 (N : Nat) (x9 : Int32) (s : ms) : Option (Int32 × ms) :=
  if x9 = 0 then (some (404, s)) else (if (s.1 87 0) = 0 then (some (404, s)) else (some (402, s)))
def bk_M_numberKind_218 (N : Nat) (x2 : Int32) (x3 : Int32) (x4 : Int64) (x8 : Int32) (x9 : Int32) (s : ms) : Option (Int32 × ms) :=
  if x9 = 0 then (bk_M_numberKind_237 N x9 s) else ((fn_M_read_IIIIJ N ((x3 + 2)) x2 x8 ((Int64.toInt32 x4)) s).bind (fun q_1 => bk_M_numberKind_237 N x9 q_1.2))
def bd_M_numberKind_180 (N : Nat) (k_180 : Int32 → Int32 → Int64 → Int32 → Int32 → Int32 → ms → Option (Int32 × ms)) (x2 : Int32) (x3 : Int32) (x4 : Int64) (x8 : Int32) (x9 : Int32) (x10 : Int32) (s : ms) : Option (Int32 × ms) :=
  if x2 ≤ x10 then (bk_M_numberKind_218 N x2 x3 x4 x8 x9 s) else (if x9 = 0 then (bk_M_numberKind_218 N x2 x3 x4 x8 x9 s) else ((fn_M_at N x10 s).bind (fun q_1 => (fn_M_digit N q_1.1 q_1.2).bind (fun q_4 => if x8 ≤ q_4.1 then (k_180 x2 x3 x4 x8 0 ((x10 + 1)) q_4.2) else (k_180 x2 x3 x4 x8 1 ((x10 + 1)) q_4.2)))))
def hd_M_numberKind_180 (N : Nat) : Nat → Int32 → Int32 → Int64 → Int32 → Int32 → Int32 → ms → Option (Int32 × ms)
  | 0, _, _, _, _, _, _, _ => none
  | n + 1, x2, x3, x4, x8, x9, x10, s => bd_M_numberKind_180 N (hd_M_numberKind_180 N n) x2 x3 x4 x8 x9 x10 s
def bk_M_numberKind_173 (N : Nat) (x2 : Int32) (x3 : Int32) (x4 : Int64) (x8 : Int32) (t0 : Int32) (s : ms) : Option (Int32 × ms) :=
  hd_M_numberKind_180 N N x2 x3 x4 x8 t0 ((x3 + 2)) s
def bk_M_numberKind_161 (N : Nat) (x2 : Int32) (x3 : Int32) (x4 : Int64) (t0 : Int32) (s : ms) : Option (Int32 × ms) :=
  if t0 ≤ 0 then (bk_M_numberKind_173 N x2 x3 x4 t0 0 s) else (bk_M_numberKind_173 N x2 x3 x4 t0 1 s)
def bk_M_numberKind_24 (N : Nat) (x1 : Int32) (x2 : Int32) (x3 : Int32) (s : ms) : Option (Int32 × ms) :=
  (fn_M_read_IIIIJ N x1 x3 10 16 s).bind (fun q_1 => if x3 = x2 then (if (q_1.2.1 87 0) = 0 then (some (404, q_1.2)) else (some (401, q_1.2))) else ((fn_M_at N x3 q_1.2).bind (fun q_4 => if q_4.1 = 39 then (if (q_1.2.1 87 0) = 0 then (some (404, q_4.2)) else (if (lg_cmp q_1.1 1) < 0 then (some (404, q_4.2)) else (if 0 < (lg_cmp q_1.1 64) then (some (404, q_4.2)) else (if (x3 + 2) < x2 then ((fn_M_at N ((x3 + 1)) q_4.2).bind (fun q_7 => if q_7.1 = 98 then (bk_M_numberKind_161 N x2 x3 q_1.1 2 q_7.2) else (if q_7.1 = 111 then (bk_M_numberKind_161 N x2 x3 q_1.1 8 q_7.2) else (if q_7.1 = 100 then (bk_M_numberKind_161 N x2 x3 q_1.1 10 q_7.2) else (if q_7.1 = 104 then (bk_M_numberKind_161 N x2 x3 q_1.1 16 q_7.2) else (bk_M_numberKind_161 N x2 x3 q_1.1 0 q_7.2)))))) else (some (404, q_4.2)))))) else (some (404, q_4.2)))))
def bd_M_numberKind_2 (N : Nat) (k_2 : Int32 → Int32 → Int32 → ms → Option (Int32 × ms)) (x1 : Int32) (x2 : Int32) (x3 : Int32) (s : ms) : Option (Int32 × ms) :=
  if x2 ≤ x3 then (bk_M_numberKind_24 N x1 x2 x3 s) else ((fn_M_at N x3 s).bind (fun q_1 => (fn_M_isDigit N q_1.1 q_1.2).bind (fun q_4 => if q_4.1 = 0 then (bk_M_numberKind_24 N x1 x2 x3 q_4.2) else (k_2 x1 x2 ((x3 + 1)) q_4.2))))
def hd_M_numberKind_2 (N : Nat) : Nat → Int32 → Int32 → Int32 → ms → Option (Int32 × ms)
  | 0, _, _, _, _ => none
  | n + 1, x1, x2, x3, s => bd_M_numberKind_2 N (hd_M_numberKind_2 N n) x1 x2 x3 s
def fn_M_numberKind (N : Nat) (v1 : Int32) (v2 : Int32) (s : ms) : Option (Int32 × ms) :=
  hd_M_numberKind_2 N N v1 v2 v1 s
def bk_M_wordKind_97 (N : Nat) (k_5 : Int32 → Int32 → Int32 → Int32 → ms → Option (Int32 × ms)) (x1 : Int32) (x2 : Int32) (x3 : Int32) (x4 : Int32) (x5 : Int32) (s : ms) : Option (Int32 × ms) :=
  k_5 x1 x2 (((x3 + x5) + 1)) ((x4 + 1)) s
def bd_M_wordKind_19 (N : Nat) (k_5 : Int32 → Int32 → Int32 → Int32 → ms → Option (Int32 × ms)) (k_19 : Int32 → Int32 → Int32 → Int32 → Int32 → Int32 → ms → Option (Int32 × ms)) (x1 : Int32) (x2 : Int32) (x3 : Int32) (x4 : Int32) (x5 : Int32) (x6 : Int32) (s : ms) : Option (Int32 × ms) :=
  if ((x3 + x5) < 0 ∨ 113 ≤ Int32.toNatClampNeg ((x3 + x5))) then none else if (dc_wd (Int32.toNatClampNeg ((x3 + x5)))) = 32 then (if x6 = 0 then (bk_M_wordKind_97 N k_5 x1 x2 x3 x4 x5 s) else (if x5 = (x2 - x1) then (some ((300 + x4), s)) else (bk_M_wordKind_97 N k_5 x1 x2 x3 x4 x5 s))) else (if x6 = 0 then (k_19 x1 x2 x3 x4 ((x5 + 1)) 0 s) else (if x2 ≤ (x1 + x5) then (k_19 x1 x2 x3 x4 ((x5 + 1)) 0 s) else ((fn_M_at N ((x1 + x5)) s).bind (fun q_2 => if ((x3 + x5) < 0 ∨ 113 ≤ Int32.toNatClampNeg ((x3 + x5))) then none else if q_2.1 = (dc_wd (Int32.toNatClampNeg ((x3 + x5)))) then (k_19 x1 x2 x3 x4 ((x5 + 1)) 1 q_2.2) else (k_19 x1 x2 x3 x4 ((x5 + 1)) 0 q_2.2)))))
def hd_M_wordKind_19 (N : Nat) (k_5 : Int32 → Int32 → Int32 → Int32 → ms → Option (Int32 × ms)) : Nat → Int32 → Int32 → Int32 → Int32 → Int32 → Int32 → ms → Option (Int32 × ms)
  | 0, _, _, _, _, _, _, _ => none
  | n + 1, x1, x2, x3, x4, x5, x6, s => bd_M_wordKind_19 N k_5 (hd_M_wordKind_19 N k_5 n) x1 x2 x3 x4 x5 x6 s
def bd_M_wordKind_5 (N : Nat) (k_5 : Int32 → Int32 → Int32 → Int32 → ms → Option (Int32 × ms)) (x1 : Int32) (x2 : Int32) (x3 : Int32) (x4 : Int32) (s : ms) : Option (Int32 × ms) :=
  if 113 ≤ x3 then (some (400, s)) else (hd_M_wordKind_19 N k_5 N x1 x2 x3 x4 0 1 s)
def hd_M_wordKind_5 (N : Nat) : Nat → Int32 → Int32 → Int32 → Int32 → ms → Option (Int32 × ms)
  | 0, _, _, _, _, _ => none
  | n + 1, x1, x2, x3, x4, s => bd_M_wordKind_5 N (hd_M_wordKind_5 N n) x1 x2 x3 x4 s
def fn_M_wordKind (N : Nat) (v1 : Int32) (v2 : Int32) (s : ms) : Option (Int32 × ms) :=
  hd_M_wordKind_5 N N v1 v2 0 0 s
def bk_M_cutTokens_193 (N : Nat) (k_7 : Int32 → ms → Option (Unit × ms)) (x1 : Int32) (s : ms) : Option (Unit × ms) :=
  if (((s.1 7 0) - 1) < 0 ∨ 65540 ≤ Int32.toNatClampNeg (((s.1 7 0) - 1))) then none else if ((s.1 4) (Int32.toNatClampNeg (((s.1 7 0) - 1)))) = 404 then (some ((), s)) else (k_7 x1 s)
def bk_M_cutTokens_188 (N : Nat) (k_7 : Int32 → ms → Option (Unit × ms)) (x1 : Int32) (x2 : Int32) (t0 : Int32) (s : ms) : Option (Unit × ms) :=
  (fn_M_token N t0 x2 x1 s).bind (fun q_1 => bk_M_cutTokens_193 N k_7 x1 q_1.2)
def bd_M_cutTokens_71 (N : Nat) (k_7 : Int32 → ms → Option (Unit × ms)) (k_71 : Int32 → Int32 → ms → Option (Unit × ms)) (x1 : Int32) (x2 : Int32) (s : ms) : Option (Unit × ms) :=
  (fn_M_at N x1 s).bind (fun q_1 => (fn_M_isIn N q_1.1 q_1.2).bind (fun q_4 => if q_4.1 = 0 then ((fn_M_wordKind N x2 x1 q_4.2).bind (fun q_7 => (fn_M_token N q_7.1 x2 x1 q_7.2).bind (fun q_10 => bk_M_cutTokens_193 N k_7 x1 q_10.2))) else (k_71 ((x1 + 1)) x2 q_4.2)))
def hd_M_cutTokens_71 (N : Nat) (k_7 : Int32 → ms → Option (Unit × ms)) : Nat → Int32 → Int32 → ms → Option (Unit × ms)
  | 0, _, _, _ => none
  | n + 1, x1, x2, s => bd_M_cutTokens_71 N k_7 (hd_M_cutTokens_71 N k_7 n) x1 x2 s
def bd_M_cutTokens_7 (N : Nat) (k_7 : Int32 → ms → Option (Unit × ms)) (x1 : Int32) (s : ms) : Option (Unit × ms) :=
  (fn_M_skip N x1 s).bind (fun q_1 => if 0 ≤ q_1.1 then (if q_1.1 < (q_1.2.1 2 0) then ((fn_M_at N q_1.1 q_1.2).bind (fun q_4 => (fn_M_isLetter N q_4.1 q_4.2).bind (fun q_7 => if q_7.1 = 0 then ((fn_M_isDigit N q_4.1 q_7.2).bind (fun q_10 => if q_10.1 = 0 then ((fn_M_at N ((q_1.1 + 1)) q_10.2).bind (fun q_13 => (fn_M_pair N q_4.1 q_13.1 q_13.2).bind (fun q_16 => if q_16.1 ≤ 0 then ((fn_M_isSign N q_4.1 q_16.2).bind (fun q_19 => if q_19.1 = 0 then (bk_M_cutTokens_188 N k_7 ((q_1.1 + 1)) q_1.1 404 q_19.2) else (bk_M_cutTokens_188 N k_7 ((q_1.1 + 1)) q_1.1 q_4.1 q_19.2))) else ((fn_M_at N ((q_1.1 + 1)) q_16.2).bind (fun q_19 => (fn_M_pair N q_4.1 q_19.1 q_19.2).bind (fun q_22 => (fn_M_token N q_22.1 q_1.1 ((q_1.1 + 2)) q_22.2).bind (fun q_25 => bk_M_cutTokens_193 N k_7 ((q_1.1 + 2)) q_25.2))))))) else ((fn_M_numberEnd N q_1.1 q_10.2).bind (fun q_13 => (fn_M_numberKind N q_1.1 q_13.1 q_13.2).bind (fun q_16 => (fn_M_token N q_16.1 q_1.1 q_13.1 q_16.2).bind (fun q_19 => bk_M_cutTokens_193 N k_7 q_13.1 q_19.2)))))) else (hd_M_cutTokens_71 N k_7 N q_1.1 q_1.1 q_7.2)))) else ((fn_M_token N 403 ((q_1.2.1 2 0)) ((q_1.2.1 2 0)) q_1.2).bind (fun q_4 => some ((), q_4.2)))) else ((fn_M_token N 404 (((-1) - q_1.1)) ((q_1.2.1 2 0)) q_1.2).bind (fun q_4 => some ((), q_4.2))))
def hd_M_cutTokens_7 (N : Nat) : Nat → Int32 → ms → Option (Unit × ms)
  | 0, _, _ => none
  | n + 1, x1, s => bd_M_cutTokens_7 N (hd_M_cutTokens_7 N n) x1 s
def fn_M_cutTokens (N : Nat) (s : ms) : Option (Unit × ms) :=
  hd_M_cutTokens_7 N N 0 (upI s 7 (fun _ => 0))
def fn_M_fail (N : Nat) (v1 : Int32) (v2 : Int32) (s : ms) : Option (Unit × ms) :=
  if (s.1 9 0) = 0 then (some ((), upI (upI s 9 (fun _ => v1)) 10 (fun _ => v2))) else (some ((), s))
def bk_M_no_21 (N : Nat) (t0 : Int32) (s : ms) : Option (Unit × ms) :=
  if ((s.1 8 0) < 0 ∨ 65540 ≤ Int32.toNatClampNeg ((s.1 8 0))) then none else (fn_M_fail N t0 (((s.1 5) (Int32.toNatClampNeg ((s.1 8 0))))) s).bind (fun q_2 => some ((), q_2.2))
def fn_M_no (N : Nat) (s : ms) : Option (Unit × ms) :=
  if ((s.1 8 0) < 0 ∨ 65540 ≤ Int32.toNatClampNeg ((s.1 8 0))) then none else if ((s.1 4) (Int32.toNatClampNeg ((s.1 8 0)))) = 404 then (bk_M_no_21 N 1 s) else (bk_M_no_21 N 2 s)
def bk_M_take_33 (N : Nat) (s : ms) : Option (Unit × ms) :=
  (fn_M_no N s).bind (fun q_1 => some ((), q_1.2))
def fn_M_take (N : Nat) (v1 : Int32) (s : ms) : Option (Unit × ms) :=
  if (s.1 9 0) = 0 then (if ((s.1 8 0) < 0 ∨ 65540 ≤ Int32.toNatClampNeg ((s.1 8 0))) then none else if ((s.1 4) (Int32.toNatClampNeg ((s.1 8 0)))) = v1 then (some ((), upI s 8 (fun _ => ((s.1 8 0) + 1)))) else (bk_M_take_33 N s)) else (bk_M_take_33 N s)
def fn_M_is (N : Nat) (v1 : Int32) (s : ms) : Option (Int32 × ms) :=
  if (s.1 9 0) = 0 then (if ((s.1 8 0) < 0 ∨ 65540 ≤ Int32.toNatClampNeg ((s.1 8 0))) then none else if ((s.1 4) (Int32.toNatClampNeg ((s.1 8 0)))) = v1 then (some (1, s)) else (some (0, s))) else (some (0, s))
def bk_M_open_41 (N : Nat) (x1 : Int32) (s : ms) : Option (Unit × ms) :=
  (fn_M_take N x1 s).bind (fun q_1 => some ((), q_1.2))
def fn_M_open (N : Nat) (v1 : Int32) (s : ms) : Option (Unit × ms) :=
  (fn_M_is N v1 s).bind (fun q_1 => if q_1.1 = 0 then (bk_M_open_41 N v1 q_1.2) else (if ((q_1.2.1 11 0) + 1) ≤ 60 then (bk_M_open_41 N v1 (upI q_1.2 11 (fun _ => ((q_1.2.1 11 0) + 1)))) else (if ((q_1.2.1 8 0) < 0 ∨ 65540 ≤ Int32.toNatClampNeg ((q_1.2.1 8 0))) then none else (fn_M_fail N 3 (((q_1.2.1 5) (Int32.toNatClampNeg ((q_1.2.1 8 0))))) (upI q_1.2 11 (fun _ => ((q_1.2.1 11 0) + 1)))).bind (fun q_5 => bk_M_open_41 N v1 q_5.2))))
def fn_M_shut (N : Nat) (v1 : Int32) (s : ms) : Option (Unit × ms) :=
  (fn_M_take N v1 s).bind (fun q_1 => some ((), upI q_1.2 11 (fun _ => ((q_1.2.1 11 0) - 1))))
def fn_M_rangeGrammar (N : Nat) (s : ms) : Option (Unit × ms) :=
  (fn_M_is N 91 s).bind (fun q_1 => if q_1.1 = 0 then (some ((), q_1.2)) else ((fn_M_open N 91 q_1.2).bind (fun q_4 => (fn_M_take N 401 q_4.2).bind (fun q_6 => (fn_M_take N 58 q_6.2).bind (fun q_8 => (fn_M_take N 401 q_8.2).bind (fun q_10 => (fn_M_shut N 93 q_10.2).bind (fun q_12 => some ((), q_12.2))))))))
def fn_M_beginGrammar (N : Nat) (s : ms) : Option (Unit × ms) :=
  (fn_M_is N 61 s).bind (fun q_1 => if q_1.1 = 0 then (some ((), q_1.2)) else ((fn_M_take N 402 (upI q_1.2 8 (fun _ => ((q_1.2.1 8 0) + 1)))).bind (fun q_4 => some ((), q_4.2))))
def fn_M_portGrammar (N : Nat) (s : ms) : Option (Unit × ms) :=
  (fn_M_is N 302 s).bind (fun q_1 => if q_1.1 = 0 then ((fn_M_take N 303 q_1.2).bind (fun q_4 => (fn_M_is N 305 q_4.2).bind (fun q_6 => if q_6.1 = 0 then ((fn_M_rangeGrammar N q_6.2).bind (fun q_9 => (fn_M_take N 400 q_9.2).bind (fun q_11 => some ((), q_11.2)))) else ((fn_M_rangeGrammar N (upI q_6.2 8 (fun _ => ((q_6.2.1 8 0) + 1)))).bind (fun q_9 => (fn_M_take N 400 q_9.2).bind (fun q_11 => (fn_M_beginGrammar N q_11.2).bind (fun q_13 => some ((), q_13.2)))))))) else ((fn_M_rangeGrammar N (upI q_1.2 8 (fun _ => ((q_1.2.1 8 0) + 1)))).bind (fun q_4 => (fn_M_take N 400 q_4.2).bind (fun q_6 => some ((), q_6.2)))))
def fn_M_kind (N : Nat) (s : ms) : Option (Int32 × ms) :=
  if ((s.1 8 0) < 0 ∨ 65540 ≤ Int32.toNatClampNeg ((s.1 8 0))) then none else some (((s.1 4) (Int32.toNatClampNeg ((s.1 8 0)))), s)
def fn_M_rank (N : Nat) (v0 : Int32) (s : ms) : Option (Int32 × ms) :=
  if v0 = 38 then (some (5, s)) else (if v0 = 42 then (some (10, s)) else (if v0 = 43 then (some (9, s)) else (if v0 = 45 then (some (9, s)) else (if v0 = 60 then (some (7, s)) else (if v0 = 62 then (some (7, s)) else (if v0 = 94 then (some (4, s)) else (if v0 = 124 then (some (3, s)) else (if v0 = 256 then (some (2, s)) else (if v0 = 257 then (some (1, s)) else (if v0 = 258 then (some (6, s)) else (if v0 = 259 then (some (6, s)) else (if v0 = 260 then (some (7, s)) else (if v0 = 261 then (some (7, s)) else (if v0 = 262 then (some (8, s)) else (if v0 = 263 then (some (8, s)) else (some (0, s)))))))))))))))))
def fn_M_isUnary (N : Nat) (v0 : Int32) (s : ms) : Option (Int32 × ms) :=
  if v0 = 126 then (some (1, s)) else (if v0 = 33 then (some (1, s)) else (if v0 = 45 then (some (1, s)) else (if v0 = 38 then (some (1, s)) else (if v0 = 124 then (some (1, s)) else (if v0 = 94 then (some (1, s)) else (some (0, s)))))))
def fn_M_partGrammar (N : Nat) (s : ms) : Option (Unit × ms) :=
  (fn_M_take N 401 s).bind (fun q_1 => (fn_M_is N 58 q_1.2).bind (fun q_3 => if q_3.1 = 0 then (some ((), q_3.2)) else ((fn_M_take N 401 (upI q_3.2 8 (fun _ => ((q_3.2.1 8 0) + 1)))).bind (fun q_6 => some ((), q_6.2)))))
def bk_M_expGrammar_38 (N : Nat) (r_M_expGrammar : ms → Option (Unit × ms)) (r_M_operandGrammar : ms → Option (Unit × ms)) (r_M_bracesGrammar : ms → Option (Unit × ms)) (s : ms) : Option (Unit × ms) :=
  (fn_M_is N 63 s).bind (fun q_1 => if q_1.1 = 0 then (some ((), q_1.2)) else ((fn_M_open N 63 q_1.2).bind (fun q_4 => (r_M_expGrammar q_4.2).bind (fun q_6 => (fn_M_take N 58 q_6.2).bind (fun q_8 => (r_M_expGrammar q_8.2).bind (fun q_10 => some ((), upI q_10.2 11 (fun _ => ((q_10.2.1 11 0) - 1)))))))))
def bd_M_expGrammar_4 (N : Nat) (r_M_expGrammar : ms → Option (Unit × ms)) (r_M_operandGrammar : ms → Option (Unit × ms)) (r_M_bracesGrammar : ms → Option (Unit × ms)) (k_4 : ms → Option (Unit × ms)) (s : ms) : Option (Unit × ms) :=
  if (s.1 9 0) = 0 then ((fn_M_kind N s).bind (fun q_1 => (fn_M_rank N q_1.1 q_1.2).bind (fun q_4 => if q_4.1 ≤ 0 then (bk_M_expGrammar_38 N r_M_expGrammar r_M_operandGrammar r_M_bracesGrammar q_4.2) else ((r_M_operandGrammar (upI q_4.2 8 (fun _ => ((q_4.2.1 8 0) + 1)))).bind (fun q_7 => k_4 q_7.2))))) else (bk_M_expGrammar_38 N r_M_expGrammar r_M_operandGrammar r_M_bracesGrammar s)
def hd_M_expGrammar_4 (N : Nat) (r_M_expGrammar : ms → Option (Unit × ms)) (r_M_operandGrammar : ms → Option (Unit × ms)) (r_M_bracesGrammar : ms → Option (Unit × ms)) : Nat → ms → Option (Unit × ms)
  | 0, _ => none
  | n + 1, s => bd_M_expGrammar_4 N r_M_expGrammar r_M_operandGrammar r_M_bracesGrammar (hd_M_expGrammar_4 N r_M_expGrammar r_M_operandGrammar r_M_bracesGrammar n) s
def fb_M_expGrammar (N : Nat) (r_M_expGrammar : ms → Option (Unit × ms)) (r_M_operandGrammar : ms → Option (Unit × ms)) (r_M_bracesGrammar : ms → Option (Unit × ms)) (s : ms) : Option (Unit × ms) :=
  (r_M_operandGrammar s).bind (fun q_1 => hd_M_expGrammar_4 N r_M_expGrammar r_M_operandGrammar r_M_bracesGrammar N q_1.2)
def bk_M_operandGrammar_109 (N : Nat) (r_M_expGrammar : ms → Option (Unit × ms)) (r_M_operandGrammar : ms → Option (Unit × ms)) (r_M_bracesGrammar : ms → Option (Unit × ms)) (s : ms) : Option (Unit × ms) :=
  (fn_M_shut N 93 s).bind (fun q_1 => some ((), q_1.2))
def bk_M_operandGrammar_30 (N : Nat) (r_M_expGrammar : ms → Option (Unit × ms)) (r_M_operandGrammar : ms → Option (Unit × ms)) (r_M_bracesGrammar : ms → Option (Unit × ms)) (s : ms) : Option (Unit × ms) :=
  (fn_M_is N 402 s).bind (fun q_1 => if q_1.1 = 0 then ((fn_M_is N 400 q_1.2).bind (fun q_4 => if q_4.1 = 0 then ((fn_M_is N 40 q_4.2).bind (fun q_7 => if q_7.1 = 0 then ((fn_M_is N 123 q_7.2).bind (fun q_10 => if q_10.1 = 0 then ((fn_M_no N q_10.2).bind (fun q_13 => some ((), q_13.2))) else ((r_M_bracesGrammar q_10.2).bind (fun q_13 => some ((), q_13.2))))) else ((fn_M_open N 40 q_7.2).bind (fun q_10 => (r_M_expGrammar q_10.2).bind (fun q_12 => (fn_M_shut N 41 q_12.2).bind (fun q_14 => some ((), q_14.2))))))) else ((fn_M_is N 91 (upI q_4.2 8 (fun _ => ((q_4.2.1 8 0) + 1)))).bind (fun q_7 => if q_7.1 = 0 then (some ((), q_7.2)) else ((fn_M_open N 91 q_7.2).bind (fun q_10 => (fn_M_is N 401 q_10.2).bind (fun q_12 => if q_12.1 = 0 then ((r_M_expGrammar q_12.2).bind (fun q_15 => bk_M_operandGrammar_109 N r_M_expGrammar r_M_operandGrammar r_M_bracesGrammar q_15.2)) else ((fn_M_partGrammar N q_12.2).bind (fun q_15 => bk_M_operandGrammar_109 N r_M_expGrammar r_M_operandGrammar r_M_bracesGrammar q_15.2))))))))) else (some ((), upI q_1.2 8 (fun _ => ((q_1.2.1 8 0) + 1)))))
def bd_M_operandGrammar_0 (N : Nat) (r_M_expGrammar : ms → Option (Unit × ms)) (r_M_operandGrammar : ms → Option (Unit × ms)) (r_M_bracesGrammar : ms → Option (Unit × ms)) (k_0 : ms → Option (Unit × ms)) (s : ms) : Option (Unit × ms) :=
  if (s.1 9 0) = 0 then ((fn_M_kind N s).bind (fun q_1 => (fn_M_isUnary N q_1.1 q_1.2).bind (fun q_4 => if q_4.1 = 0 then (bk_M_operandGrammar_30 N r_M_expGrammar r_M_operandGrammar r_M_bracesGrammar q_4.2) else (k_0 (upI q_4.2 8 (fun _ => ((q_4.2.1 8 0) + 1))))))) else (bk_M_operandGrammar_30 N r_M_expGrammar r_M_operandGrammar r_M_bracesGrammar s)
def hd_M_operandGrammar_0 (N : Nat) (r_M_expGrammar : ms → Option (Unit × ms)) (r_M_operandGrammar : ms → Option (Unit × ms)) (r_M_bracesGrammar : ms → Option (Unit × ms)) : Nat → ms → Option (Unit × ms)
  | 0, _ => none
  | n + 1, s => bd_M_operandGrammar_0 N r_M_expGrammar r_M_operandGrammar r_M_bracesGrammar (hd_M_operandGrammar_0 N r_M_expGrammar r_M_operandGrammar r_M_bracesGrammar n) s
def fb_M_operandGrammar (N : Nat) (r_M_expGrammar : ms → Option (Unit × ms)) (r_M_operandGrammar : ms → Option (Unit × ms)) (r_M_bracesGrammar : ms → Option (Unit × ms)) (s : ms) : Option (Unit × ms) :=
  hd_M_operandGrammar_0 N r_M_expGrammar r_M_operandGrammar r_M_bracesGrammar N s
def bk_M_bracesGrammar_75 (N : Nat) (r_M_expGrammar : ms → Option (Unit × ms)) (r_M_operandGrammar : ms → Option (Unit × ms)) (r_M_bracesGrammar : ms → Option (Unit × ms)) (s : ms) : Option (Unit × ms) :=
  (fn_M_shut N 125 s).bind (fun q_1 => some ((), q_1.2))
def bd_M_bracesGrammar_49 (N : Nat) (r_M_expGrammar : ms → Option (Unit × ms)) (r_M_operandGrammar : ms → Option (Unit × ms)) (r_M_bracesGrammar : ms → Option (Unit × ms)) (k_49 : ms → Option (Unit × ms)) (s : ms) : Option (Unit × ms) :=
  (fn_M_is N 44 s).bind (fun q_1 => if q_1.1 = 0 then (bk_M_bracesGrammar_75 N r_M_expGrammar r_M_operandGrammar r_M_bracesGrammar q_1.2) else ((r_M_expGrammar (upI q_1.2 8 (fun _ => ((q_1.2.1 8 0) + 1)))).bind (fun q_4 => k_49 q_4.2)))
def hd_M_bracesGrammar_49 (N : Nat) (r_M_expGrammar : ms → Option (Unit × ms)) (r_M_operandGrammar : ms → Option (Unit × ms)) (r_M_bracesGrammar : ms → Option (Unit × ms)) : Nat → ms → Option (Unit × ms)
  | 0, _ => none
  | n + 1, s => bd_M_bracesGrammar_49 N r_M_expGrammar r_M_operandGrammar r_M_bracesGrammar (hd_M_bracesGrammar_49 N r_M_expGrammar r_M_operandGrammar r_M_bracesGrammar n) s
def fb_M_bracesGrammar (N : Nat) (r_M_expGrammar : ms → Option (Unit × ms)) (r_M_operandGrammar : ms → Option (Unit × ms)) (r_M_bracesGrammar : ms → Option (Unit × ms)) (s : ms) : Option (Unit × ms) :=
  (fn_M_open N 123 s).bind (fun q_1 => (fn_M_is N 401 q_1.2).bind (fun q_3 => if q_3.1 = 0 then ((r_M_expGrammar q_3.2).bind (fun q_6 => hd_M_bracesGrammar_49 N r_M_expGrammar r_M_operandGrammar r_M_bracesGrammar N q_6.2)) else ((fn_M_open N 123 (upI q_3.2 8 (fun _ => ((q_3.2.1 8 0) + 1)))).bind (fun q_6 => (r_M_expGrammar q_6.2).bind (fun q_8 => (fn_M_shut N 125 q_8.2).bind (fun q_10 => bk_M_bracesGrammar_75 N r_M_expGrammar r_M_operandGrammar r_M_bracesGrammar q_10.2))))))
def sg_M_expGrammar (N : Nat) : Nat → (ms → Option (Unit × ms)) × (ms → Option (Unit × ms)) × (ms → Option (Unit × ms))
  | 0 => (fun _ => none, fun _ => none, fun _ => none)
  | d + 1 => (fb_M_expGrammar N (sg_M_expGrammar N d).1 (sg_M_expGrammar N d).2.1 (sg_M_expGrammar N d).2.2, fb_M_operandGrammar N (sg_M_expGrammar N d).1 (sg_M_expGrammar N d).2.1 (sg_M_expGrammar N d).2.2, fb_M_bracesGrammar N (sg_M_expGrammar N d).1 (sg_M_expGrammar N d).2.1 (sg_M_expGrammar N d).2.2)
def fn_M_expGrammar (N : Nat) (s : ms) : Option (Unit × ms) := (sg_M_expGrammar N 400).1 s
def fn_M_operandGrammar (N : Nat) (s : ms) : Option (Unit × ms) := (sg_M_expGrammar N 400).2.1 s
def fn_M_bracesGrammar (N : Nat) (s : ms) : Option (Unit × ms) := (sg_M_expGrammar N 400).2.2 s
def fn_M_linkGrammar (N : Nat) (s : ms) : Option (Unit × ms) :=
  (fn_M_take N 46 s).bind (fun q_1 => (fn_M_take N 400 q_1.2).bind (fun q_3 => (fn_M_open N 40 q_3.2).bind (fun q_5 => (fn_M_expGrammar N q_5.2).bind (fun q_7 => (fn_M_shut N 41 q_7.2).bind (fun q_9 => some ((), q_9.2))))))
def bk_M_statementGrammar_174 (N : Nat) (r_M_statementGrammar : ms → Option (Unit × ms)) (r_M_caseGrammar : ms → Option (Unit × ms)) (s : ms) : Option (Unit × ms) :=
  (fn_M_take N 260 s).bind (fun q_1 => (fn_M_expGrammar N q_1.2).bind (fun q_3 => (fn_M_take N 59 q_3.2).bind (fun q_5 => some ((), q_5.2))))
def bk_M_statementGrammar_112 (N : Nat) (r_M_statementGrammar : ms → Option (Unit × ms)) (r_M_caseGrammar : ms → Option (Unit × ms)) (s : ms) : Option (Unit × ms) :=
  some ((), upI s 11 (fun _ => ((s.1 11 0) - 1)))
def bk_M_statementGrammar_41 (N : Nat) (r_M_statementGrammar : ms → Option (Unit × ms)) (r_M_caseGrammar : ms → Option (Unit × ms)) (s : ms) : Option (Unit × ms) :=
  (fn_M_shut N 311 s).bind (fun q_1 => some ((), q_1.2))
def bd_M_statementGrammar_17 (N : Nat) (r_M_statementGrammar : ms → Option (Unit × ms)) (r_M_caseGrammar : ms → Option (Unit × ms)) (k_17 : ms → Option (Unit × ms)) (s : ms) : Option (Unit × ms) :=
  if (s.1 9 0) = 0 then ((fn_M_kind N s).bind (fun q_1 => if q_1.1 = 311 then (bk_M_statementGrammar_41 N r_M_statementGrammar r_M_caseGrammar q_1.2) else ((r_M_statementGrammar q_1.2).bind (fun q_4 => k_17 q_4.2)))) else (bk_M_statementGrammar_41 N r_M_statementGrammar r_M_caseGrammar s)
def hd_M_statementGrammar_17 (N : Nat) (r_M_statementGrammar : ms → Option (Unit × ms)) (r_M_caseGrammar : ms → Option (Unit × ms)) : Nat → ms → Option (Unit × ms)
  | 0, _ => none
  | n + 1, s => bd_M_statementGrammar_17 N r_M_statementGrammar r_M_caseGrammar (hd_M_statementGrammar_17 N r_M_statementGrammar r_M_caseGrammar n) s
def fb_M_statementGrammar (N : Nat) (r_M_statementGrammar : ms → Option (Unit × ms)) (r_M_caseGrammar : ms → Option (Unit × ms)) (s : ms) : Option (Unit × ms) :=
  (fn_M_is N 310 s).bind (fun q_1 => if q_1.1 = 0 then ((fn_M_is N 312 q_1.2).bind (fun q_4 => if q_4.1 = 0 then ((fn_M_is N 314 q_4.2).bind (fun q_7 => if q_7.1 = 0 then ((fn_M_take N 400 q_7.2).bind (fun q_10 => (fn_M_is N 91 q_10.2).bind (fun q_12 => if q_12.1 = 0 then (bk_M_statementGrammar_174 N r_M_statementGrammar r_M_caseGrammar q_12.2) else ((fn_M_open N 91 q_12.2).bind (fun q_15 => (fn_M_partGrammar N q_15.2).bind (fun q_17 => (fn_M_shut N 93 q_17.2).bind (fun q_19 => bk_M_statementGrammar_174 N r_M_statementGrammar r_M_caseGrammar q_19.2))))))) else ((r_M_caseGrammar q_7.2).bind (fun q_10 => some ((), q_10.2))))) else ((fn_M_open N 312 q_4.2).bind (fun q_7 => (fn_M_open N 40 q_7.2).bind (fun q_9 => (fn_M_expGrammar N q_9.2).bind (fun q_11 => (fn_M_shut N 41 q_11.2).bind (fun q_13 => (r_M_statementGrammar q_13.2).bind (fun q_15 => (fn_M_is N 313 q_15.2).bind (fun q_17 => if q_17.1 = 0 then (bk_M_statementGrammar_112 N r_M_statementGrammar r_M_caseGrammar q_17.2) else ((r_M_statementGrammar (upI q_17.2 8 (fun _ => ((q_17.2.1 8 0) + 1)))).bind (fun q_20 => bk_M_statementGrammar_112 N r_M_statementGrammar r_M_caseGrammar q_20.2))))))))))) else ((fn_M_open N 310 q_1.2).bind (fun q_4 => hd_M_statementGrammar_17 N r_M_statementGrammar r_M_caseGrammar N q_4.2)))
def bk_M_caseGrammar_115 (N : Nat) (r_M_statementGrammar : ms → Option (Unit × ms)) (r_M_caseGrammar : ms → Option (Unit × ms)) (s : ms) : Option (Unit × ms) :=
  (fn_M_shut N 315 s).bind (fun q_1 => some ((), q_1.2))
def bd_M_caseGrammar_43 (N : Nat) (r_M_statementGrammar : ms → Option (Unit × ms)) (r_M_caseGrammar : ms → Option (Unit × ms)) (k_23 : ms → Option (Unit × ms)) (k_43 : ms → Option (Unit × ms)) (s : ms) : Option (Unit × ms) :=
  (fn_M_is N 44 s).bind (fun q_1 => if q_1.1 = 0 then ((fn_M_take N 58 q_1.2).bind (fun q_4 => (r_M_statementGrammar q_4.2).bind (fun q_6 => k_23 q_6.2))) else ((fn_M_take N 402 (upI q_1.2 8 (fun _ => ((q_1.2.1 8 0) + 1)))).bind (fun q_4 => k_43 q_4.2)))
def hd_M_caseGrammar_43 (N : Nat) (r_M_statementGrammar : ms → Option (Unit × ms)) (r_M_caseGrammar : ms → Option (Unit × ms)) (k_23 : ms → Option (Unit × ms)) : Nat → ms → Option (Unit × ms)
  | 0, _ => none
  | n + 1, s => bd_M_caseGrammar_43 N r_M_statementGrammar r_M_caseGrammar k_23 (hd_M_caseGrammar_43 N r_M_statementGrammar r_M_caseGrammar k_23 n) s
def bd_M_caseGrammar_23 (N : Nat) (r_M_statementGrammar : ms → Option (Unit × ms)) (r_M_caseGrammar : ms → Option (Unit × ms)) (k_23 : ms → Option (Unit × ms)) (s : ms) : Option (Unit × ms) :=
  (fn_M_is N 402 s).bind (fun q_1 => if q_1.1 = 0 then ((fn_M_is N 316 q_1.2).bind (fun q_4 => if q_4.1 = 0 then (bk_M_caseGrammar_115 N r_M_statementGrammar r_M_caseGrammar q_4.2) else ((fn_M_take N 58 (upI q_4.2 8 (fun _ => ((q_4.2.1 8 0) + 1)))).bind (fun q_7 => (r_M_statementGrammar q_7.2).bind (fun q_9 => bk_M_caseGrammar_115 N r_M_statementGrammar r_M_caseGrammar q_9.2))))) else (hd_M_caseGrammar_43 N r_M_statementGrammar r_M_caseGrammar k_23 N (upI q_1.2 8 (fun _ => ((q_1.2.1 8 0) + 1)))))
def hd_M_caseGrammar_23 (N : Nat) (r_M_statementGrammar : ms → Option (Unit × ms)) (r_M_caseGrammar : ms → Option (Unit × ms)) : Nat → ms → Option (Unit × ms)
  | 0, _ => none
  | n + 1, s => bd_M_caseGrammar_23 N r_M_statementGrammar r_M_caseGrammar (hd_M_caseGrammar_23 N r_M_statementGrammar r_M_caseGrammar n) s
def fb_M_caseGrammar (N : Nat) (r_M_statementGrammar : ms → Option (Unit × ms)) (r_M_caseGrammar : ms → Option (Unit × ms)) (s : ms) : Option (Unit × ms) :=
  (fn_M_open N 314 s).bind (fun q_1 => (fn_M_open N 40 q_1.2).bind (fun q_3 => (fn_M_expGrammar N q_3.2).bind (fun q_5 => (fn_M_shut N 41 q_5.2).bind (fun q_7 => hd_M_caseGrammar_23 N r_M_statementGrammar r_M_caseGrammar N q_7.2))))
def sg_M_statementGrammar (N : Nat) : Nat → (ms → Option (Unit × ms)) × (ms → Option (Unit × ms))
  | 0 => (fun _ => none, fun _ => none)
  | d + 1 => (fb_M_statementGrammar N (sg_M_statementGrammar N d).1 (sg_M_statementGrammar N d).2, fb_M_caseGrammar N (sg_M_statementGrammar N d).1 (sg_M_statementGrammar N d).2)
def fn_M_statementGrammar (N : Nat) (s : ms) : Option (Unit × ms) := (sg_M_statementGrammar N 400).1 s
def fn_M_caseGrammar (N : Nat) (s : ms) : Option (Unit × ms) := (sg_M_statementGrammar N 400).2 s
def bk_M_itemGrammar_57 (N : Nat) (s : ms) : Option (Unit × ms) :=
  (fn_M_take N 59 s).bind (fun q_1 => some ((), q_1.2))
def bk_M_itemGrammar_20 (N : Nat) (s : ms) : Option (Unit × ms) :=
  (fn_M_is N 305 s).bind (fun q_1 => (fn_M_rangeGrammar N (upI q_1.2 8 (fun _ => ((q_1.2.1 8 0) + 1)))).bind (fun q_4 => (fn_M_take N 400 q_4.2).bind (fun q_6 => if q_1.1 = 0 then (bk_M_itemGrammar_57 N q_6.2) else ((fn_M_beginGrammar N q_6.2).bind (fun q_8 => bk_M_itemGrammar_57 N q_8.2)))))
def bk_M_itemGrammar_275 (N : Nat) (s : ms) : Option (Unit × ms) :=
  (fn_M_shut N 41 s).bind (fun q_1 => (fn_M_take N 59 q_1.2).bind (fun q_3 => some ((), q_3.2)))
def bd_M_itemGrammar_249 (N : Nat) (k_249 : ms → Option (Unit × ms)) (s : ms) : Option (Unit × ms) :=
  (fn_M_is N 44 s).bind (fun q_1 => if q_1.1 = 0 then (bk_M_itemGrammar_275 N q_1.2) else ((fn_M_linkGrammar N (upI q_1.2 8 (fun _ => ((q_1.2.1 8 0) + 1)))).bind (fun q_4 => k_249 q_4.2)))
def hd_M_itemGrammar_249 (N : Nat) : Nat → ms → Option (Unit × ms)
  | 0, _ => none
  | n + 1, s => bd_M_itemGrammar_249 N (hd_M_itemGrammar_249 N n) s
def fn_M_itemGrammar (N : Nat) (s : ms) : Option (Unit × ms) :=
  (fn_M_is N 304 s).bind (fun q_1 => if q_1.1 = 0 then ((fn_M_is N 305 q_1.2).bind (fun q_4 => if q_4.1 = 0 then ((fn_M_is N 306 q_4.2).bind (fun q_7 => if q_7.1 = 0 then ((fn_M_is N 307 q_7.2).bind (fun q_10 => if q_10.1 = 0 then ((fn_M_is N 317 q_10.2).bind (fun q_13 => if q_13.1 = 0 then ((fn_M_take N 400 q_13.2).bind (fun q_16 => (fn_M_take N 400 q_16.2).bind (fun q_18 => (fn_M_open N 40 q_18.2).bind (fun q_20 => (fn_M_is N 46 q_20.2).bind (fun q_22 => if q_22.1 = 0 then (bk_M_itemGrammar_275 N q_22.2) else ((fn_M_linkGrammar N q_22.2).bind (fun q_25 => hd_M_itemGrammar_249 N N q_25.2))))))) else ((fn_M_open N 40 (upI q_13.2 8 (fun _ => ((q_13.2.1 8 0) + 1)))).bind (fun q_16 => (fn_M_expGrammar N q_16.2).bind (fun q_18 => (fn_M_shut N 41 q_18.2).bind (fun q_20 => (fn_M_take N 59 q_20.2).bind (fun q_22 => some ((), q_22.2)))))))) else ((fn_M_take N 64 (upI q_10.2 8 (fun _ => ((q_10.2.1 8 0) + 1)))).bind (fun q_13 => (fn_M_open N 40 q_13.2).bind (fun q_15 => (fn_M_take N 308 q_15.2).bind (fun q_17 => (fn_M_take N 309 q_17.2).bind (fun q_19 => (fn_M_shut N 41 q_19.2).bind (fun q_21 => (fn_M_statementGrammar N q_21.2).bind (fun q_23 => some ((), q_23.2)))))))))) else ((fn_M_take N 400 (upI q_7.2 8 (fun _ => ((q_7.2.1 8 0) + 1)))).bind (fun q_10 => (fn_M_take N 61 q_10.2).bind (fun q_12 => (fn_M_expGrammar N q_12.2).bind (fun q_14 => (fn_M_take N 59 q_14.2).bind (fun q_16 => some ((), q_16.2)))))))) else (bk_M_itemGrammar_20 N q_4.2))) else (bk_M_itemGrammar_20 N q_1.2))
def bk_M_designGrammar_129 (N : Nat) (k_12 : Int32 → ms → Option (Unit × ms)) (s : ms) : Option (Unit × ms) :=
  (fn_M_take N 301 s).bind (fun q_1 => if (q_1.2.1 9 0) = 0 then ((fn_M_kind N q_1.2).bind (fun q_3 => if q_3.1 = 403 then (k_12 0 q_3.2) else (k_12 1 q_3.2))) else (k_12 0 q_1.2))
def bd_M_designGrammar_105 (N : Nat) (k_12 : Int32 → ms → Option (Unit × ms)) (k_105 : ms → Option (Unit × ms)) (s : ms) : Option (Unit × ms) :=
  if (s.1 9 0) = 0 then ((fn_M_kind N s).bind (fun q_1 => if q_1.1 = 301 then (bk_M_designGrammar_129 N k_12 q_1.2) else ((fn_M_itemGrammar N q_1.2).bind (fun q_4 => k_105 q_4.2)))) else (bk_M_designGrammar_129 N k_12 s)
def hd_M_designGrammar_105 (N : Nat) (k_12 : Int32 → ms → Option (Unit × ms)) : Nat → ms → Option (Unit × ms)
  | 0, _ => none
  | n + 1, s => bd_M_designGrammar_105 N k_12 (hd_M_designGrammar_105 N k_12 n) s
def bk_M_designGrammar_93 (N : Nat) (k_12 : Int32 → ms → Option (Unit × ms)) (s : ms) : Option (Unit × ms) :=
  (fn_M_shut N 41 s).bind (fun q_1 => (fn_M_take N 59 q_1.2).bind (fun q_3 => hd_M_designGrammar_105 N k_12 N q_3.2))
def bd_M_designGrammar_67 (N : Nat) (k_12 : Int32 → ms → Option (Unit × ms)) (k_67 : ms → Option (Unit × ms)) (s : ms) : Option (Unit × ms) :=
  (fn_M_is N 44 s).bind (fun q_1 => if q_1.1 = 0 then (bk_M_designGrammar_93 N k_12 q_1.2) else ((fn_M_portGrammar N (upI q_1.2 8 (fun _ => ((q_1.2.1 8 0) + 1)))).bind (fun q_4 => k_67 q_4.2)))
def hd_M_designGrammar_67 (N : Nat) (k_12 : Int32 → ms → Option (Unit × ms)) : Nat → ms → Option (Unit × ms)
  | 0, _ => none
  | n + 1, s => bd_M_designGrammar_67 N k_12 (hd_M_designGrammar_67 N k_12 n) s
def bk_M_designGrammar_63 (N : Nat) (k_12 : Int32 → ms → Option (Unit × ms)) (s : ms) : Option (Unit × ms) :=
  (fn_M_portGrammar N s).bind (fun q_1 => hd_M_designGrammar_67 N k_12 N q_1.2)
def bd_M_designGrammar_12 (N : Nat) (k_12 : Int32 → ms → Option (Unit × ms)) (x1 : Int32) (s : ms) : Option (Unit × ms) :=
  if x1 = 0 then (some ((), s)) else (if (s.1 9 0) = 0 then ((fn_M_take N 300 s).bind (fun q_1 => (fn_M_take N 400 q_1.2).bind (fun q_3 => (fn_M_open N 40 q_3.2).bind (fun q_5 => (fn_M_is N 302 q_5.2).bind (fun q_7 => if q_7.1 = 0 then ((fn_M_is N 303 q_7.2).bind (fun q_10 => if q_10.1 = 0 then (bk_M_designGrammar_93 N k_12 q_10.2) else (bk_M_designGrammar_63 N k_12 q_10.2))) else (bk_M_designGrammar_63 N k_12 q_7.2)))))) else (some ((), s)))
def hd_M_designGrammar_12 (N : Nat) : Nat → Int32 → ms → Option (Unit × ms)
  | 0, _, _ => none
  | n + 1, x1, s => bd_M_designGrammar_12 N (hd_M_designGrammar_12 N n) x1 s
def fn_M_designGrammar (N : Nat) (s : ms) : Option (Unit × ms) :=
  hd_M_designGrammar_12 N N 1 (upI (upI s 8 (fun _ => 0)) 11 (fun _ => 0))
def bd_M_sameToken_38 (N : Nat) (k_38 : Int32 → Int32 → Int32 → Int32 → ms → Option (Int32 × ms)) (x1 : Int32) (x2 : Int32) (x3 : Int32) (x4 : Int32) (s : ms) : Option (Int32 × ms) :=
  if x3 = 0 then (if ¬ (x3 = 0 ∨ x3 = 1) then none else some (x3, s)) else (if (x1 < 0 ∨ 65540 ≤ Int32.toNatClampNeg x1) then none else if (x1 < 0 ∨ 65540 ≤ Int32.toNatClampNeg x1) then none else if (((s.1 6) (Int32.toNatClampNeg x1)) - ((s.1 5) (Int32.toNatClampNeg x1))) ≤ x4 then (if ¬ (x3 = 0 ∨ x3 = 1) then none else some (x3, s)) else (if (x1 < 0 ∨ 65540 ≤ Int32.toNatClampNeg x1) then none else if ((((s.1 5) (Int32.toNatClampNeg x1)) + x4) < 0 ∨ 65536 ≤ Int32.toNatClampNeg ((((s.1 5) (Int32.toNatClampNeg x1)) + x4))) then none else if (x2 < 0 ∨ 65540 ≤ Int32.toNatClampNeg x2) then none else if ((((s.1 5) (Int32.toNatClampNeg x2)) + x4) < 0 ∨ 65536 ≤ Int32.toNatClampNeg ((((s.1 5) (Int32.toNatClampNeg x2)) + x4))) then none else if ((s.1 90) (Int32.toNatClampNeg ((((s.1 5) (Int32.toNatClampNeg x1)) + x4)))) = ((s.1 90) (Int32.toNatClampNeg ((((s.1 5) (Int32.toNatClampNeg x2)) + x4)))) then (k_38 x1 x2 1 ((x4 + 1)) s) else (k_38 x1 x2 0 ((x4 + 1)) s)))
def hd_M_sameToken_38 (N : Nat) : Nat → Int32 → Int32 → Int32 → Int32 → ms → Option (Int32 × ms)
  | 0, _, _, _, _, _ => none
  | n + 1, x1, x2, x3, x4, s => bd_M_sameToken_38 N (hd_M_sameToken_38 N n) x1 x2 x3 x4 s
def fn_M_sameToken (N : Nat) (v1 : Int32) (v2 : Int32) (s : ms) : Option (Int32 × ms) :=
  if (v1 < 0 ∨ 65540 ≤ Int32.toNatClampNeg v1) then none else if (v1 < 0 ∨ 65540 ≤ Int32.toNatClampNeg v1) then none else if (v2 < 0 ∨ 65540 ≤ Int32.toNatClampNeg v2) then none else if (v2 < 0 ∨ 65540 ≤ Int32.toNatClampNeg v2) then none else if (((s.1 6) (Int32.toNatClampNeg v1)) - ((s.1 5) (Int32.toNatClampNeg v1))) = (((s.1 6) (Int32.toNatClampNeg v2)) - ((s.1 5) (Int32.toNatClampNeg v2))) then (hd_M_sameToken_38 N N v1 v2 1 0 s) else (hd_M_sameToken_38 N N v1 v2 0 0 s)
def bd_M_moduleNamed_2 (N : Nat) (k_2 : Int32 → Int32 → Int32 → ms → Option (Int32 × ms)) (x1 : Int32) (x2 : Int32) (x3 : Int32) (s : ms) : Option (Int32 × ms) :=
  if x2 ≤ x3 then (some ((-1), s)) else (if (x3 < 0 ∨ 3600 ≤ Int32.toNatClampNeg x3) then none else (fn_M_sameToken N (((s.1 13) (Int32.toNatClampNeg x3))) x1 s).bind (fun q_2 => if q_2.1 = 0 then (k_2 x1 x2 ((x3 + 1)) q_2.2) else (some (x3, q_2.2))))
def hd_M_moduleNamed_2 (N : Nat) : Nat → Int32 → Int32 → Int32 → ms → Option (Int32 × ms)
  | 0, _, _, _, _ => none
  | n + 1, x1, x2, x3, s => bd_M_moduleNamed_2 N (hd_M_moduleNamed_2 N n) x1 x2 x3 s
def fn_M_moduleNamed (N : Nat) (v1 : Int32) (v2 : Int32) (s : ms) : Option (Int32 × ms) :=
  hd_M_moduleNamed_2 N N v1 v2 0 s
def bk_M_numberOf_102 (N : Nat) (t0 : Int32) (t1 : Int32) (t2 : Int32) (s : ms) : Option (Int64 × ms) :=
  (fn_M_read_IIIIJ N t2 t1 t0 64 s).bind (fun q_1 => some (q_1.1, q_1.2))
def bd_M_numberOf_7 (N : Nat) (k_7 : Int32 → Int32 → ms → Option (Int64 × ms)) (x1 : Int32) (x2 : Int32) (s : ms) : Option (Int64 × ms) :=
  (fn_M_at N x2 s).bind (fun q_1 => (fn_M_isDigit N q_1.1 q_1.2).bind (fun q_4 => if q_4.1 = 0 then (if (x1 < 0 ∨ 65540 ≤ Int32.toNatClampNeg x1) then none else if x2 = ((q_4.2.1 6) (Int32.toNatClampNeg x1)) then (if (x1 < 0 ∨ 65540 ≤ Int32.toNatClampNeg x1) then none else (fn_M_read_IIIIJ N (((q_4.2.1 5) (Int32.toNatClampNeg x1))) x2 10 16 q_4.2).bind (fun q_9 => some (q_9.1, q_9.2))) else ((fn_M_at N ((x2 + 1)) q_4.2).bind (fun q_8 => if (x1 < 0 ∨ 65540 ≤ Int32.toNatClampNeg x1) then none else if q_8.1 = 98 then (bk_M_numberOf_102 N 2 (((q_8.2.1 6) (Int32.toNatClampNeg x1))) ((x2 + 2)) q_8.2) else (if q_8.1 = 111 then (bk_M_numberOf_102 N 8 (((q_8.2.1 6) (Int32.toNatClampNeg x1))) ((x2 + 2)) q_8.2) else (if q_8.1 = 100 then (bk_M_numberOf_102 N 10 (((q_8.2.1 6) (Int32.toNatClampNeg x1))) ((x2 + 2)) q_8.2) else (bk_M_numberOf_102 N 16 (((q_8.2.1 6) (Int32.toNatClampNeg x1))) ((x2 + 2)) q_8.2)))))) else (k_7 x1 ((x2 + 1)) q_4.2)))
def hd_M_numberOf_7 (N : Nat) : Nat → Int32 → Int32 → ms → Option (Int64 × ms)
  | 0, _, _, _ => none
  | n + 1, x1, x2, s => bd_M_numberOf_7 N (hd_M_numberOf_7 N n) x1 x2 s
def fn_M_numberOf (N : Nat) (v1 : Int32) (s : ms) : Option (Int64 × ms) :=
  if (v1 < 0 ∨ 65540 ≤ Int32.toNatClampNeg v1) then none else hd_M_numberOf_7 N N v1 (((s.1 5) (Int32.toNatClampNeg v1))) s
def bk_M_range_62 (N : Nat) (x1 : Int64) (s : ms) : Option (Int32 × ms) :=
  some (((Int64.toInt32 x1) + 1), upI s 8 (fun _ => ((s.1 8 0) + 5)))
def bk_M_range_47 (N : Nat) (x1 : Int64) (s : ms) : Option (Int32 × ms) :=
  if ((s.1 8 0) < 0 ∨ 65540 ≤ Int32.toNatClampNeg ((s.1 8 0))) then none else (fn_M_fail N 30 (((s.1 5) (Int32.toNatClampNeg ((s.1 8 0))))) s).bind (fun q_2 => bk_M_range_62 N x1 q_2.2)
def fn_M_range (N : Nat) (s : ms) : Option (Int32 × ms) :=
  (fn_M_is N 91 s).bind (fun q_1 => if q_1.1 = 0 then (some (1, q_1.2)) else ((fn_M_numberOf N (((q_1.2.1 8 0) + 1)) q_1.2).bind (fun q_4 => (fn_M_numberOf N (((q_4.2.1 8 0) + 3)) q_4.2).bind (fun q_7 => if 0 < (lg_cmp q_4.1 63) then (bk_M_range_47 N q_4.1 q_7.2) else (if (lg_cmp q_7.1 0) = 0 then (bk_M_range_62 N q_4.1 q_7.2) else (bk_M_range_47 N q_4.1 q_7.2))))))
def bd_M_signalNamed_3 (N : Nat) (k_3 : Int32 → Int32 → Int32 → ms → Option (Int32 × ms)) (x1 : Int32) (x3 : Int32) (x4 : Int32) (s : ms) : Option (Int32 × ms) :=
  if x3 ≤ x4 then (some ((-1), s)) else (if (x4 < 0 ∨ 11000 ≤ Int32.toNatClampNeg x4) then none else (fn_M_sameToken N (((s.1 19) (Int32.toNatClampNeg x4))) x1 s).bind (fun q_2 => if q_2.1 = 0 then (k_3 x1 x3 ((x4 + 1)) q_2.2) else (some (x4, q_2.2))))
def hd_M_signalNamed_3 (N : Nat) : Nat → Int32 → Int32 → Int32 → ms → Option (Int32 × ms)
  | 0, _, _, _, _ => none
  | n + 1, x1, x3, x4, s => bd_M_signalNamed_3 N (hd_M_signalNamed_3 N n) x1 x3 x4 s
def fn_M_signalNamed (N : Nat) (v1 : Int32) (v2 : Int32) (v3 : Int32) (s : ms) : Option (Int32 × ms) :=
  hd_M_signalNamed_3 N N v1 v3 v2 s
def fn_M_here (N : Nat) (v1 : Int32) (s : ms) : Option (Int32 × ms) :=
  if ((s.1 12 0) < 0 ∨ 3601 ≤ Int32.toNatClampNeg ((s.1 12 0))) then none else (fn_M_signalNamed N v1 (((s.1 14) (Int32.toNatClampNeg ((s.1 12 0))))) ((s.1 18 0)) s).bind (fun q_2 => some (q_2.1, q_2.2))
def bk_M_isInstanceName_38 (N : Nat) (k_12 : Int32 → Int32 → Int32 → ms → Option (Int32 × ms)) (x1 : Int32) (x3 : Int32) (s : ms) : Option (Int32 × ms) :=
  k_12 x1 1 ((x3 + 1)) s
def bd_M_isInstanceName_12 (N : Nat) (k_12 : Int32 → Int32 → Int32 → ms → Option (Int32 × ms)) (x1 : Int32) (x2 : Int32) (x3 : Int32) (s : ms) : Option (Int32 × ms) :=
  if (s.1 27 0) ≤ x3 then (if ¬ (x2 = 0 ∨ x2 = 1) then none else some (x2, s)) else (if x2 = 0 then (if (x3 < 0 ∨ 11000 ≤ Int32.toNatClampNeg x3) then none else (fn_M_sameToken N (((s.1 29) (Int32.toNatClampNeg x3))) x1 s).bind (fun q_2 => if q_2.1 = 0 then (k_12 x1 0 ((x3 + 1)) q_2.2) else (bk_M_isInstanceName_38 N k_12 x1 x3 q_2.2))) else (bk_M_isInstanceName_38 N k_12 x1 x3 s))
def hd_M_isInstanceName_12 (N : Nat) : Nat → Int32 → Int32 → Int32 → ms → Option (Int32 × ms)
  | 0, _, _, _, _ => none
  | n + 1, x1, x2, x3, s => bd_M_isInstanceName_12 N (hd_M_isInstanceName_12 N n) x1 x2 x3 s
def fn_M_isInstanceName (N : Nat) (v1 : Int32) (s : ms) : Option (Int32 × ms) :=
  if ((s.1 12 0) < 0 ∨ 3601 ≤ Int32.toNatClampNeg ((s.1 12 0))) then none else hd_M_isInstanceName_12 N N v1 0 (((s.1 15) (Int32.toNatClampNeg ((s.1 12 0))))) s
def bd_M_widthOfNumber_9 (N : Nat) (k_9 : Int32 → Int32 → ms → Option (Int32 × ms)) (x2 : Int32) (x3 : Int32) (s : ms) : Option (Int32 × ms) :=
  (fn_M_at N x2 s).bind (fun q_1 => (fn_M_isDigit N q_1.1 q_1.2).bind (fun q_4 => if q_4.1 = 0 then (some (x3, q_4.2)) else ((fn_M_at N x2 q_4.2).bind (fun q_7 => k_9 ((x2 + 1)) ((((x3 * 10) + q_7.1) - 48)) q_7.2))))
def hd_M_widthOfNumber_9 (N : Nat) : Nat → Int32 → Int32 → ms → Option (Int32 × ms)
  | 0, _, _, _ => none
  | n + 1, x2, x3, s => bd_M_widthOfNumber_9 N (hd_M_widthOfNumber_9 N n) x2 x3 s
def fn_M_widthOfNumber (N : Nat) (v1 : Int32) (s : ms) : Option (Int32 × ms) :=
  if (v1 < 0 ∨ 65540 ≤ Int32.toNatClampNeg v1) then none else hd_M_widthOfNumber_9 N N (((s.1 5) (Int32.toNatClampNeg v1))) 0 s
def bk_M_declare_173 (N : Nat) (s : ms) : Option (Unit × ms) :=
  (fn_M_numberOf N ((s.1 8 0)) s).bind (fun q_1 => if (((s.1 18 0) - 1) < 0 ∨ 11000 ≤ Int32.toNatClampNeg (((s.1 18 0) - 1))) then none else some ((), upI (upJ q_1.2 22 (vp_updL (q_1.2.2 22) (Int32.toNatClampNeg (((s.1 18 0) - 1))) q_1.1)) 8 (fun _ => ((q_1.2.1 8 0) + 1))))
def bk_M_declare_44 (N : Nat) (x1 : Int32) (x2 : Int32) (s : ms) : Option (Unit × ms) :=
  if ((s.1 18 0) < 0 ∨ 11000 ≤ Int32.toNatClampNeg ((s.1 18 0))) then none else if ((s.1 18 0) < 0 ∨ 11000 ≤ Int32.toNatClampNeg ((s.1 18 0))) then none else if ((s.1 18 0) < 0 ∨ 11000 ≤ Int32.toNatClampNeg ((s.1 18 0))) then none else if ((s.1 18 0) < 0 ∨ 11000 ≤ Int32.toNatClampNeg ((s.1 18 0))) then none else if ((s.1 18 0) < 0 ∨ 11000 ≤ Int32.toNatClampNeg ((s.1 18 0))) then none else if ((s.1 18 0) < 0 ∨ 11000 ≤ Int32.toNatClampNeg ((s.1 18 0))) then none else (fn_M_is N 61 (upI (upI (upI (upI (upJ (upI (upI (upI s 19 (upd (s.1 19) (Int32.toNatClampNeg ((s.1 18 0))) ((s.1 8 0)))) 20 (upd (s.1 20) (Int32.toNatClampNeg ((s.1 18 0))) x2)) 21 (upd (s.1 21) (Int32.toNatClampNeg ((s.1 18 0))) x1)) 22 (vp_updL (s.2 22) (Int32.toNatClampNeg ((s.1 18 0))) 0)) 23 (upd (s.1 23) (Int32.toNatClampNeg ((s.1 18 0))) 0)) 26 (upd (s.1 26) (Int32.toNatClampNeg ((s.1 18 0))) 0)) 18 (fun _ => ((s.1 18 0) + 1))) 8 (fun _ => ((s.1 8 0) + 1)))).bind (fun q_7 => if q_7.1 = 0 then (some ((), q_7.2)) else ((fn_M_widthOfNumber N (((q_7.2.1 8 0) + 1)) (upI q_7.2 8 (fun _ => ((q_7.2.1 8 0) + 1)))).bind (fun q_10 => if q_10.1 = x2 then (bk_M_declare_173 N q_10.2) else (if ((q_10.2.1 8 0) < 0 ∨ 65540 ≤ Int32.toNatClampNeg ((q_10.2.1 8 0))) then none else (fn_M_fail N 30 (((q_10.2.1 5) (Int32.toNatClampNeg ((q_10.2.1 8 0))))) q_10.2).bind (fun q_14 => bk_M_declare_173 N q_14.2)))))
def bk_M_declare_29 (N : Nat) (x1 : Int32) (x2 : Int32) (s : ms) : Option (Unit × ms) :=
  if ((s.1 8 0) < 0 ∨ 65540 ≤ Int32.toNatClampNeg ((s.1 8 0))) then none else (fn_M_fail N 21 (((s.1 5) (Int32.toNatClampNeg ((s.1 8 0))))) s).bind (fun q_2 => bk_M_declare_44 N x1 x2 q_2.2)
def fn_M_declare (N : Nat) (v1 : Int32) (v2 : Int32) (s : ms) : Option (Unit × ms) :=
  if (s.1 9 0) = 0 then ((fn_M_here N ((s.1 8 0)) s).bind (fun q_1 => if 0 ≤ q_1.1 then (bk_M_declare_29 N v1 v2 q_1.2) else ((fn_M_isInstanceName N ((q_1.2.1 8 0)) q_1.2).bind (fun q_4 => if q_4.1 = 0 then (bk_M_declare_44 N v1 v2 q_4.2) else (bk_M_declare_29 N v1 v2 q_4.2))))) else (bk_M_declare_44 N v1 v2 s)
def bk_M_port_89 (N : Nat) (t0 : Int32) (s : ms) : Option (Unit × ms) :=
  (fn_M_range N s).bind (fun q_1 => (fn_M_declare N t0 q_1.1 q_1.2).bind (fun q_4 => some ((), q_4.2)))
def bk_M_port_76 (N : Nat) (x1 : Int32) (t0 : Int32) (s : ms) : Option (Unit × ms) :=
  if x1 = 0 then (bk_M_port_89 N 1 (upI s 8 (fun _ => t0))) else (bk_M_port_89 N 2 (upI s 8 (fun _ => t0)))
def bk_M_port_57 (N : Nat) (t0 : Int32) (s : ms) : Option (Unit × ms) :=
  if t0 = 0 then (bk_M_port_76 N t0 ((s.1 8 0)) s) else (bk_M_port_76 N t0 (((s.1 8 0) + 1)) s)
def fn_M_port (N : Nat) (s : ms) : Option (Unit × ms) :=
  (fn_M_kind N s).bind (fun q_1 => if q_1.1 = 302 then ((fn_M_range N (upI q_1.2 8 (fun _ => ((q_1.2.1 8 0) + 1)))).bind (fun q_4 => (fn_M_declare N 0 q_4.1 q_4.2).bind (fun q_7 => some ((), q_7.2)))) else ((fn_M_kind N (upI q_1.2 8 (fun _ => ((q_1.2.1 8 0) + 1)))).bind (fun q_4 => if q_4.1 = 305 then (bk_M_port_57 N 1 q_4.2) else (bk_M_port_57 N 0 q_4.2))))
def bd_M_linkOf_8 (N : Nat) (k_8 : Int32 → Int32 → Int32 → ms → Option (Int32 × ms)) (x2 : Int32) (x3 : Int32) (x4 : Int32) (s : ms) : Option (Int32 × ms) :=
  if x2 ≤ x4 then (some ((-1), s)) else (if (x4 < 0 ∨ 11000 ≤ Int32.toNatClampNeg x4) then none else if ((s.1 32) (Int32.toNatClampNeg x4)) = x3 then (some (x4, s)) else (k_8 x2 x3 ((x4 + 1)) s))
def hd_M_linkOf_8 (N : Nat) : Nat → Int32 → Int32 → Int32 → ms → Option (Int32 × ms)
  | 0, _, _, _, _ => none
  | n + 1, x2, x3, x4, s => bd_M_linkOf_8 N (hd_M_linkOf_8 N n) x2 x3 x4 s
def fn_M_linkOf (N : Nat) (v1 : Int32) (v2 : Int32) (v3 : Int32) (s : ms) : Option (Int32 × ms) :=
  if (v1 < 0 ∨ 11001 ≤ Int32.toNatClampNeg v1) then none else hd_M_linkOf_8 N N v2 v3 (((s.1 30) (Int32.toNatClampNeg v1))) s
def fn_M_cost (N : Nat) (v1 : Int64) (s : ms) : Option (Unit × ms) :=
  if ((s.1 12 0) < 0 ∨ 3600 ≤ Int32.toNatClampNeg ((s.1 12 0))) then none else if ((s.1 12 0) < 0 ∨ 3600 ≤ Int32.toNatClampNeg ((s.1 12 0))) then none else some ((), upJ s 45 (vp_updL (s.2 45) (Int32.toNatClampNeg ((s.1 12 0))) ((((s.2 45) (Int32.toNatClampNeg ((s.1 12 0)))) + v1))))
def fn_M_pushWidth (N : Nat) (v1 : Int32) (s : ms) : Option (Unit × ms) :=
  if ((s.1 53 0) < 0 ∨ 4096 ≤ Int32.toNatClampNeg ((s.1 53 0))) then none else some ((), upI (upI s 52 (upd (s.1 52) (Int32.toNatClampNeg ((s.1 53 0))) v1)) 53 (fun _ => ((s.1 53 0) + 1)))
def bk_M_reckon_206 (N : Nat) (s : ms) : Option (Unit × ms) :=
  some ((), s)
def bk_M_reckon_183 (N : Nat) (x1 : Int32) (t0 : Int32) (s : ms) : Option (Unit × ms) :=
  if (((s.1 53 0) - 1) < 0 ∨ 4096 ≤ Int32.toNatClampNeg (((s.1 53 0) - 1))) then none else (fn_M_lay N 5 x1 t0 (upI s 52 (upd (s.1 52) (Int32.toNatClampNeg (((s.1 53 0) - 1))) t0))).bind (fun q_2 => bk_M_reckon_206 N q_2.2)
def bk_M_reckon_178 (N : Nat) (x1 : Int32) (s : ms) : Option (Unit × ms) :=
  bk_M_reckon_183 N x1 1 s
def bk_M_reckon_155 (N : Nat) (x1 : Int32) (x3 : Int32) (x4 : Int32) (t0 : Int64) (s : ms) : Option (Unit × ms) :=
  (fn_M_cost N t0 s).bind (fun q_1 => if x4 < 3 then (bk_M_reckon_178 N x1 q_1.2) else (if x4 = 6 then (bk_M_reckon_178 N x1 q_1.2) else (if x4 = 7 then (bk_M_reckon_178 N x1 q_1.2) else (bk_M_reckon_183 N x1 x3 q_1.2))))
def bk_M_reckon_120 (N : Nat) (x1 : Int32) (x2 : Int32) (x3 : Int32) (x4 : Int32) (t0 : Int32) (s : ms) : Option (Unit × ms) :=
  if x4 = 8 then (bk_M_reckon_155 N x1 x3 x4 ((Int32.toInt64 (((3 * x3) + x2)))) s) else (if x1 = 42 then (bk_M_reckon_155 N x1 x3 x4 ((Int32.toInt64 ((x3 * x3)))) s) else (bk_M_reckon_155 N x1 x3 x4 ((Int32.toInt64 t0)) s))
def bk_M_reckon_110 (N : Nat) (x1 : Int32) (x2 : Int32) (x3 : Int32) (x4 : Int32) (s : ms) : Option (Unit × ms) :=
  if x3 ≤ x2 then (bk_M_reckon_120 N x1 x2 x3 x4 x2 s) else (bk_M_reckon_120 N x1 x2 x3 x4 x3 s)
def bk_M_reckon_76 (N : Nat) (x1 : Int32) (x2 : Int32) (x3 : Int32) (x4 : Int32) (t0 : Int32) (s : ms) : Option (Unit × ms) :=
  if (s.1 9 0) = 0 then (if t0 = 0 then (if x3 = x2 then (bk_M_reckon_110 N x1 x2 x3 x4 s) else (if ((s.1 51 0) < 0 ∨ 4096 ≤ Int32.toNatClampNeg ((s.1 51 0))) then none else (fn_M_fail N 30 (((s.1 50) (Int32.toNatClampNeg ((s.1 51 0))))) s).bind (fun q_2 => bk_M_reckon_110 N x1 x2 x3 x4 q_2.2))) else (bk_M_reckon_110 N x1 x2 x3 x4 s)) else (bk_M_reckon_110 N x1 x2 x3 x4 s)
def bk_M_reckon_71 (N : Nat) (x1 : Int32) (x2 : Int32) (x3 : Int32) (x4 : Int32) (s : ms) : Option (Unit × ms) :=
  bk_M_reckon_76 N x1 x2 x3 x4 1 s
def fn_M_reckon (N : Nat) (s1 : ms) : Option (Unit × ms) :=
  if (((s1.1 51 0) - 1) < 0 ∨ 4096 ≤ Int32.toNatClampNeg (((s1.1 51 0) - 1))) then none else if (((s1.1 53 0) - 1) < 0 ∨ 4096 ≤ Int32.toNatClampNeg (((s1.1 53 0) - 1))) then none else if ((((s1.1 53 0) - 1) - 1) < 0 ∨ 4096 ≤ Int32.toNatClampNeg ((((s1.1 53 0) - 1) - 1))) then none else (fn_M_rank N (((s1.1 49) (Int32.toNatClampNeg (((s1.1 51 0) - 1))))) (upI (upI s1 51 (fun _ => ((s1.1 51 0) - 1))) 53 (fun _ => ((s1.1 53 0) - 1)))).bind (fun q_4 => if q_4.1 < 3 then (bk_M_reckon_71 N (((s1.1 49) (Int32.toNatClampNeg (((s1.1 51 0) - 1))))) (((s1.1 52) (Int32.toNatClampNeg (((s1.1 53 0) - 1))))) (((s1.1 52) (Int32.toNatClampNeg ((((s1.1 53 0) - 1) - 1))))) q_4.1 q_4.2) else (if q_4.1 = 8 then (bk_M_reckon_71 N (((s1.1 49) (Int32.toNatClampNeg (((s1.1 51 0) - 1))))) (((s1.1 52) (Int32.toNatClampNeg (((s1.1 53 0) - 1))))) (((s1.1 52) (Int32.toNatClampNeg ((((s1.1 53 0) - 1) - 1))))) q_4.1 q_4.2) else (bk_M_reckon_76 N (((s1.1 49) (Int32.toNatClampNeg (((s1.1 51 0) - 1))))) (((s1.1 52) (Int32.toNatClampNeg (((s1.1 53 0) - 1))))) (((s1.1 52) (Int32.toNatClampNeg ((((s1.1 53 0) - 1) - 1))))) q_4.1 0 q_4.2)))
def bk_M_part_93 (N : Nat) (x2 : Int32) (s : ms) : Option (Int32 × ms) :=
  (fn_M_fail N 30 x2 s).bind (fun q_1 => some (0, q_1.2))
def bk_M_part_67 (N : Nat) (x1 : Int32) (x2 : Int32) (x3 : Int32) (x4 : Int32) (s : ms) : Option (Int32 × ms) :=
  if x3 < x4 then (bk_M_part_93 N x2 (upI s 8 (fun _ => ((s.1 8 0) + 1)))) else (if (x1 < 0 ∨ 11000 ≤ Int32.toNatClampNeg x1) then none else if x3 < ((s.1 20) (Int32.toNatClampNeg x1)) then (some (((256 * x3) + x4), upI s 8 (fun _ => ((s.1 8 0) + 1)))) else (bk_M_part_93 N x2 (upI s 8 (fun _ => ((s.1 8 0) + 1)))))
def fn_M_part (N : Nat) (v1 : Int32) (s : ms) : Option (Int32 × ms) :=
  if ((s.1 8 0) < 0 ∨ 65540 ≤ Int32.toNatClampNeg ((s.1 8 0))) then none else (fn_M_numberOf N (((s.1 8 0) + 1)) s).bind (fun q_2 => (fn_M_kind N (upI q_2.2 8 (fun _ => ((q_2.2.1 8 0) + 2)))).bind (fun q_5 => if q_5.1 = 58 then ((fn_M_numberOf N (((q_5.2.1 8 0) + 1)) q_5.2).bind (fun q_8 => bk_M_part_67 N v1 (((s.1 5) (Int32.toNatClampNeg ((s.1 8 0))))) ((Int64.toInt32 q_2.1)) ((Int64.toInt32 q_8.1)) (upI q_8.2 8 (fun _ => ((q_8.2.1 8 0) + 2))))) else (bk_M_part_67 N v1 (((s.1 5) (Int32.toNatClampNeg ((s.1 8 0))))) ((Int64.toInt32 q_2.1)) ((Int64.toInt32 q_2.1)) q_5.2)))
def bk_M_exp_101 (N : Nat) (r_M_exp : ms → Option (Int32 × ms)) (r_M_binary : ms → Option (Int32 × ms)) (r_M_operand : ms → Option (Int32 × ms)) (r_M_primary : ms → Option (Int32 × ms)) (r_M_braces : Int32 → ms → Option (Int32 × ms)) (x3 : Int32) (s : ms) : Option (Int32 × ms) :=
  some (x3, s)
def bk_M_exp_90 (N : Nat) (r_M_exp : ms → Option (Int32 × ms)) (r_M_binary : ms → Option (Int32 × ms)) (r_M_operand : ms → Option (Int32 × ms)) (r_M_primary : ms → Option (Int32 × ms)) (r_M_braces : Int32 → ms → Option (Int32 × ms)) (x3 : Int32) (t0 : Int64) (s : ms) : Option (Int32 × ms) :=
  (fn_M_cost N t0 s).bind (fun q_1 => (fn_M_lay N 6 0 0 q_1.2).bind (fun q_3 => bk_M_exp_101 N r_M_exp r_M_binary r_M_operand r_M_primary r_M_braces x3 q_3.2))
def bk_M_exp_77 (N : Nat) (r_M_exp : ms → Option (Int32 × ms)) (r_M_binary : ms → Option (Int32 × ms)) (r_M_operand : ms → Option (Int32 × ms)) (r_M_primary : ms → Option (Int32 × ms)) (r_M_braces : Int32 → ms → Option (Int32 × ms)) (x1 : Int32) (x3 : Int32) (s : ms) : Option (Int32 × ms) :=
  if x3 ≤ x1 then (bk_M_exp_90 N r_M_exp r_M_binary r_M_operand r_M_primary r_M_braces x3 ((Int32.toInt64 x1)) s) else (bk_M_exp_90 N r_M_exp r_M_binary r_M_operand r_M_primary r_M_braces x3 ((Int32.toInt64 x3)) s)
def bk_M_exp_55 (N : Nat) (r_M_exp : ms → Option (Int32 × ms)) (r_M_binary : ms → Option (Int32 × ms)) (r_M_operand : ms → Option (Int32 × ms)) (r_M_primary : ms → Option (Int32 × ms)) (r_M_braces : Int32 → ms → Option (Int32 × ms)) (x1 : Int32) (x2 : Int32) (x3 : Int32) (t0 : Int32) (s : ms) : Option (Int32 × ms) :=
  if (s.1 9 0) = 0 then (if x3 = t0 then (bk_M_exp_77 N r_M_exp r_M_binary r_M_operand r_M_primary r_M_braces x1 x3 s) else ((fn_M_fail N 30 x2 s).bind (fun q_1 => bk_M_exp_77 N r_M_exp r_M_binary r_M_operand r_M_primary r_M_braces x1 x3 q_1.2))) else (bk_M_exp_77 N r_M_exp r_M_binary r_M_operand r_M_primary r_M_braces x1 x3 s)
def bk_M_exp_40 (N : Nat) (r_M_exp : ms → Option (Int32 × ms)) (r_M_binary : ms → Option (Int32 × ms)) (r_M_operand : ms → Option (Int32 × ms)) (r_M_primary : ms → Option (Int32 × ms)) (r_M_braces : Int32 → ms → Option (Int32 × ms)) (x1 : Int32) (x2 : Int32) (t0 : Int32) (s : ms) : Option (Int32 × ms) :=
  (r_M_exp (upI s 8 (fun _ => ((s.1 8 0) + 1)))).bind (fun q_1 => bk_M_exp_55 N r_M_exp r_M_binary r_M_operand r_M_primary r_M_braces x1 x2 t0 q_1.1 q_1.2)
def bk_M_exp_4 (N : Nat) (r_M_exp : ms → Option (Int32 × ms)) (r_M_binary : ms → Option (Int32 × ms)) (r_M_operand : ms → Option (Int32 × ms)) (r_M_primary : ms → Option (Int32 × ms)) (r_M_braces : Int32 → ms → Option (Int32 × ms)) (t0 : Int32) (s : ms) : Option (Int32 × ms) :=
  (fn_M_is N 63 s).bind (fun q_1 => if q_1.1 = 0 then (some (t0, q_1.2)) else (if ((q_1.2.1 8 0) < 0 ∨ 65540 ≤ Int32.toNatClampNeg ((q_1.2.1 8 0))) then none else (r_M_exp (upI q_1.2 8 (fun _ => ((q_1.2.1 8 0) + 1)))).bind (fun q_5 => bk_M_exp_40 N r_M_exp r_M_binary r_M_operand r_M_primary r_M_braces t0 (((q_1.2.1 5) (Int32.toNatClampNeg ((q_1.2.1 8 0))))) q_5.1 q_5.2)))
def fb_M_exp (N : Nat) (r_M_exp : ms → Option (Int32 × ms)) (r_M_binary : ms → Option (Int32 × ms)) (r_M_operand : ms → Option (Int32 × ms)) (r_M_primary : ms → Option (Int32 × ms)) (r_M_braces : Int32 → ms → Option (Int32 × ms)) (s1 : ms) : Option (Int32 × ms) :=
  (r_M_binary s1).bind (fun q_1 => bk_M_exp_4 N r_M_exp r_M_binary r_M_operand r_M_primary r_M_braces q_1.1 q_1.2)
def bk_M_binary_145 (N : Nat) (r_M_exp : ms → Option (Int32 × ms)) (r_M_binary : ms → Option (Int32 × ms)) (r_M_operand : ms → Option (Int32 × ms)) (r_M_primary : ms → Option (Int32 × ms)) (r_M_braces : Int32 → ms → Option (Int32 × ms)) (k_133 : Int32 → ms → Option (Int32 × ms)) (x1 : Int32) (s : ms) : Option (Int32 × ms) :=
  k_133 x1 s
def bd_M_binary_133 (N : Nat) (r_M_exp : ms → Option (Int32 × ms)) (r_M_binary : ms → Option (Int32 × ms)) (r_M_operand : ms → Option (Int32 × ms)) (r_M_primary : ms → Option (Int32 × ms)) (r_M_braces : Int32 → ms → Option (Int32 × ms)) (k_133 : Int32 → ms → Option (Int32 × ms)) (x1 : Int32) (s : ms) : Option (Int32 × ms) :=
  if (s.1 51 0) ≤ x1 then (if (((s.1 53 0) - 1) < 0 ∨ 4096 ≤ Int32.toNatClampNeg (((s.1 53 0) - 1))) then none else some (((s.1 52) (Int32.toNatClampNeg (((s.1 53 0) - 1)))), upI s 53 (fun _ => ((s.1 53 0) - 1)))) else ((fn_M_reckon N s).bind (fun q_1 => bk_M_binary_145 N r_M_exp r_M_binary r_M_operand r_M_primary r_M_braces k_133 x1 q_1.2))
def hd_M_binary_133 (N : Nat) (r_M_exp : ms → Option (Int32 × ms)) (r_M_binary : ms → Option (Int32 × ms)) (r_M_operand : ms → Option (Int32 × ms)) (r_M_primary : ms → Option (Int32 × ms)) (r_M_braces : Int32 → ms → Option (Int32 × ms)) : Nat → Int32 → ms → Option (Int32 × ms)
  | 0, _, _ => none
  | n + 1, x1, s => bd_M_binary_133 N r_M_exp r_M_binary r_M_operand r_M_primary r_M_braces (hd_M_binary_133 N r_M_exp r_M_binary r_M_operand r_M_primary r_M_braces n) x1 s
def bk_M_binary_127 (N : Nat) (r_M_exp : ms → Option (Int32 × ms)) (r_M_binary : ms → Option (Int32 × ms)) (r_M_operand : ms → Option (Int32 × ms)) (r_M_primary : ms → Option (Int32 × ms)) (r_M_braces : Int32 → ms → Option (Int32 × ms)) (k_13 : Int32 → ms → Option (Int32 × ms)) (x1 : Int32) (t0 : Int32) (s : ms) : Option (Int32 × ms) :=
  (fn_M_pushWidth N t0 s).bind (fun q_1 => k_13 x1 q_1.2)
def bk_M_binary_71 (N : Nat) (r_M_exp : ms → Option (Int32 × ms)) (r_M_binary : ms → Option (Int32 × ms)) (r_M_operand : ms → Option (Int32 × ms)) (r_M_primary : ms → Option (Int32 × ms)) (r_M_braces : Int32 → ms → Option (Int32 × ms)) (k_13 : Int32 → ms → Option (Int32 × ms)) (x1 : Int32) (s : ms) : Option (Int32 × ms) :=
  (fn_M_kind N s).bind (fun q_1 => if ((s.1 51 0) < 0 ∨ 4096 ≤ Int32.toNatClampNeg ((s.1 51 0))) then none else if ((q_1.2.1 8 0) < 0 ∨ 65540 ≤ Int32.toNatClampNeg ((q_1.2.1 8 0))) then none else if ((q_1.2.1 51 0) < 0 ∨ 4096 ≤ Int32.toNatClampNeg ((q_1.2.1 51 0))) then none else (r_M_operand (upI (upI (upI (upI q_1.2 49 (upd (q_1.2.1 49) (Int32.toNatClampNeg ((s.1 51 0))) q_1.1)) 50 (upd (q_1.2.1 50) (Int32.toNatClampNeg ((q_1.2.1 51 0))) (((q_1.2.1 5) (Int32.toNatClampNeg ((q_1.2.1 8 0))))))) 51 (fun _ => ((q_1.2.1 51 0) + 1))) 8 (fun _ => ((q_1.2.1 8 0) + 1)))).bind (fun q_7 => bk_M_binary_127 N r_M_exp r_M_binary r_M_operand r_M_primary r_M_braces k_13 x1 q_7.1 q_7.2))
def bk_M_binary_68 (N : Nat) (r_M_exp : ms → Option (Int32 × ms)) (r_M_binary : ms → Option (Int32 × ms)) (r_M_operand : ms → Option (Int32 × ms)) (r_M_primary : ms → Option (Int32 × ms)) (r_M_braces : Int32 → ms → Option (Int32 × ms)) (k_13 : Int32 → ms → Option (Int32 × ms)) (k_38 : Int32 → Int32 → ms → Option (Int32 × ms)) (x1 : Int32) (x2 : Int32) (s : ms) : Option (Int32 × ms) :=
  k_38 x1 x2 s
def bd_M_binary_38 (N : Nat) (r_M_exp : ms → Option (Int32 × ms)) (r_M_binary : ms → Option (Int32 × ms)) (r_M_operand : ms → Option (Int32 × ms)) (r_M_primary : ms → Option (Int32 × ms)) (r_M_braces : Int32 → ms → Option (Int32 × ms)) (k_13 : Int32 → ms → Option (Int32 × ms)) (k_38 : Int32 → Int32 → ms → Option (Int32 × ms)) (x1 : Int32) (x2 : Int32) (s : ms) : Option (Int32 × ms) :=
  if (s.1 51 0) ≤ x1 then (bk_M_binary_71 N r_M_exp r_M_binary r_M_operand r_M_primary r_M_braces k_13 x1 s) else (if (((s.1 51 0) - 1) < 0 ∨ 4096 ≤ Int32.toNatClampNeg (((s.1 51 0) - 1))) then none else (fn_M_rank N (((s.1 49) (Int32.toNatClampNeg (((s.1 51 0) - 1))))) s).bind (fun q_2 => if q_2.1 < x2 then (bk_M_binary_71 N r_M_exp r_M_binary r_M_operand r_M_primary r_M_braces k_13 x1 q_2.2) else ((fn_M_reckon N q_2.2).bind (fun q_5 => bk_M_binary_68 N r_M_exp r_M_binary r_M_operand r_M_primary r_M_braces k_13 k_38 x1 x2 q_5.2))))
def hd_M_binary_38 (N : Nat) (r_M_exp : ms → Option (Int32 × ms)) (r_M_binary : ms → Option (Int32 × ms)) (r_M_operand : ms → Option (Int32 × ms)) (r_M_primary : ms → Option (Int32 × ms)) (r_M_braces : Int32 → ms → Option (Int32 × ms)) (k_13 : Int32 → ms → Option (Int32 × ms)) : Nat → Int32 → Int32 → ms → Option (Int32 × ms)
  | 0, _, _, _ => none
  | n + 1, x1, x2, s => bd_M_binary_38 N r_M_exp r_M_binary r_M_operand r_M_primary r_M_braces k_13 (hd_M_binary_38 N r_M_exp r_M_binary r_M_operand r_M_primary r_M_braces k_13 n) x1 x2 s
def bd_M_binary_13 (N : Nat) (r_M_exp : ms → Option (Int32 × ms)) (r_M_binary : ms → Option (Int32 × ms)) (r_M_operand : ms → Option (Int32 × ms)) (r_M_primary : ms → Option (Int32 × ms)) (r_M_braces : Int32 → ms → Option (Int32 × ms)) (k_13 : Int32 → ms → Option (Int32 × ms)) (x1 : Int32) (s : ms) : Option (Int32 × ms) :=
  if (s.1 9 0) = 0 then ((fn_M_kind N s).bind (fun q_1 => (fn_M_rank N q_1.1 q_1.2).bind (fun q_4 => if q_4.1 ≤ 0 then (hd_M_binary_133 N r_M_exp r_M_binary r_M_operand r_M_primary r_M_braces N x1 q_4.2) else ((fn_M_kind N q_4.2).bind (fun q_7 => (fn_M_rank N q_7.1 q_7.2).bind (fun q_10 => hd_M_binary_38 N r_M_exp r_M_binary r_M_operand r_M_primary r_M_braces k_13 N x1 q_10.1 q_10.2)))))) else (hd_M_binary_133 N r_M_exp r_M_binary r_M_operand r_M_primary r_M_braces N x1 s)
def hd_M_binary_13 (N : Nat) (r_M_exp : ms → Option (Int32 × ms)) (r_M_binary : ms → Option (Int32 × ms)) (r_M_operand : ms → Option (Int32 × ms)) (r_M_primary : ms → Option (Int32 × ms)) (r_M_braces : Int32 → ms → Option (Int32 × ms)) : Nat → Int32 → ms → Option (Int32 × ms)
  | 0, _, _ => none
  | n + 1, x1, s => bd_M_binary_13 N r_M_exp r_M_binary r_M_operand r_M_primary r_M_braces (hd_M_binary_13 N r_M_exp r_M_binary r_M_operand r_M_primary r_M_braces n) x1 s
def bk_M_binary_10 (N : Nat) (r_M_exp : ms → Option (Int32 × ms)) (r_M_binary : ms → Option (Int32 × ms)) (r_M_operand : ms → Option (Int32 × ms)) (r_M_primary : ms → Option (Int32 × ms)) (r_M_braces : Int32 → ms → Option (Int32 × ms)) (x1 : Int32) (t0 : Int32) (s : ms) : Option (Int32 × ms) :=
  (fn_M_pushWidth N t0 s).bind (fun q_1 => hd_M_binary_13 N r_M_exp r_M_binary r_M_operand r_M_primary r_M_braces N x1 q_1.2)
def fb_M_binary (N : Nat) (r_M_exp : ms → Option (Int32 × ms)) (r_M_binary : ms → Option (Int32 × ms)) (r_M_operand : ms → Option (Int32 × ms)) (r_M_primary : ms → Option (Int32 × ms)) (r_M_braces : Int32 → ms → Option (Int32 × ms)) (s1 : ms) : Option (Int32 × ms) :=
  (r_M_operand s1).bind (fun q_1 => bk_M_binary_10 N r_M_exp r_M_binary r_M_operand r_M_primary r_M_braces ((s1.1 51 0)) q_1.1 q_1.2)
def bk_M_operand_99 (N : Nat) (r_M_exp : ms → Option (Int32 × ms)) (r_M_binary : ms → Option (Int32 × ms)) (r_M_operand : ms → Option (Int32 × ms)) (r_M_primary : ms → Option (Int32 × ms)) (r_M_braces : Int32 → ms → Option (Int32 × ms)) (k_43 : Int32 → Int32 → Int32 → ms → Option (Int32 × ms)) (x1 : Int32) (x3 : Int32) (x4 : Int32) (s : ms) : Option (Int32 × ms) :=
  k_43 x1 x3 ((x4 + (-1))) s
def bk_M_operand_75 (N : Nat) (r_M_exp : ms → Option (Int32 × ms)) (r_M_binary : ms → Option (Int32 × ms)) (r_M_operand : ms → Option (Int32 × ms)) (r_M_primary : ms → Option (Int32 × ms)) (r_M_braces : Int32 → ms → Option (Int32 × ms)) (k_43 : Int32 → Int32 → Int32 → ms → Option (Int32 × ms)) (x1 : Int32) (x3 : Int32) (x4 : Int32) (s : ms) : Option (Int32 × ms) :=
  if (x4 < 0 ∨ 65540 ≤ Int32.toNatClampNeg x4) then none else if ((s.1 4) (Int32.toNatClampNeg x4)) = 126 then (bk_M_operand_99 N r_M_exp r_M_binary r_M_operand r_M_primary r_M_braces k_43 x1 x3 x4 s) else (if (x4 < 0 ∨ 65540 ≤ Int32.toNatClampNeg x4) then none else if ((s.1 4) (Int32.toNatClampNeg x4)) = 45 then (bk_M_operand_99 N r_M_exp r_M_binary r_M_operand r_M_primary r_M_braces k_43 x1 x3 x4 s) else (k_43 x1 1 ((x4 + (-1))) s))
def bd_M_operand_43 (N : Nat) (r_M_exp : ms → Option (Int32 × ms)) (r_M_binary : ms → Option (Int32 × ms)) (r_M_operand : ms → Option (Int32 × ms)) (r_M_primary : ms → Option (Int32 × ms)) (r_M_braces : Int32 → ms → Option (Int32 × ms)) (k_43 : Int32 → Int32 → Int32 → ms → Option (Int32 × ms)) (x1 : Int32) (x3 : Int32) (x4 : Int32) (s : ms) : Option (Int32 × ms) :=
  if x4 < x1 then (some (x3, s)) else (if (s.1 9 0) = 0 then ((fn_M_cost N ((Int32.toInt64 x3)) s).bind (fun q_1 => if (x4 < 0 ∨ 65540 ≤ Int32.toNatClampNeg x4) then none else (fn_M_lay N 4 (((q_1.2.1 4) (Int32.toNatClampNeg x4))) x3 q_1.2).bind (fun q_4 => bk_M_operand_75 N r_M_exp r_M_binary r_M_operand r_M_primary r_M_braces k_43 x1 x3 x4 q_4.2))) else (some (x3, s)))
def hd_M_operand_43 (N : Nat) (r_M_exp : ms → Option (Int32 × ms)) (r_M_binary : ms → Option (Int32 × ms)) (r_M_operand : ms → Option (Int32 × ms)) (r_M_primary : ms → Option (Int32 × ms)) (r_M_braces : Int32 → ms → Option (Int32 × ms)) : Nat → Int32 → Int32 → Int32 → ms → Option (Int32 × ms)
  | 0, _, _, _, _ => none
  | n + 1, x1, x3, x4, s => bd_M_operand_43 N r_M_exp r_M_binary r_M_operand r_M_primary r_M_braces (hd_M_operand_43 N r_M_exp r_M_binary r_M_operand r_M_primary r_M_braces n) x1 x3 x4 s
def bk_M_operand_37 (N : Nat) (r_M_exp : ms → Option (Int32 × ms)) (r_M_binary : ms → Option (Int32 × ms)) (r_M_operand : ms → Option (Int32 × ms)) (r_M_primary : ms → Option (Int32 × ms)) (r_M_braces : Int32 → ms → Option (Int32 × ms)) (x1 : Int32) (x2 : Int32) (t0 : Int32) (s : ms) : Option (Int32 × ms) :=
  hd_M_operand_43 N r_M_exp r_M_binary r_M_operand r_M_primary r_M_braces N x1 t0 ((x2 - 1)) s
def bd_M_operand_5 (N : Nat) (r_M_exp : ms → Option (Int32 × ms)) (r_M_binary : ms → Option (Int32 × ms)) (r_M_operand : ms → Option (Int32 × ms)) (r_M_primary : ms → Option (Int32 × ms)) (r_M_braces : Int32 → ms → Option (Int32 × ms)) (k_5 : Int32 → ms → Option (Int32 × ms)) (x1 : Int32) (s : ms) : Option (Int32 × ms) :=
  (fn_M_kind N s).bind (fun q_1 => (fn_M_isUnary N q_1.1 q_1.2).bind (fun q_4 => if q_4.1 = 0 then ((r_M_primary q_4.2).bind (fun q_7 => bk_M_operand_37 N r_M_exp r_M_binary r_M_operand r_M_primary r_M_braces x1 ((q_4.2.1 8 0)) q_7.1 q_7.2)) else (k_5 x1 (upI q_4.2 8 (fun _ => ((q_4.2.1 8 0) + 1))))))
def hd_M_operand_5 (N : Nat) (r_M_exp : ms → Option (Int32 × ms)) (r_M_binary : ms → Option (Int32 × ms)) (r_M_operand : ms → Option (Int32 × ms)) (r_M_primary : ms → Option (Int32 × ms)) (r_M_braces : Int32 → ms → Option (Int32 × ms)) : Nat → Int32 → ms → Option (Int32 × ms)
  | 0, _, _ => none
  | n + 1, x1, s => bd_M_operand_5 N r_M_exp r_M_binary r_M_operand r_M_primary r_M_braces (hd_M_operand_5 N r_M_exp r_M_binary r_M_operand r_M_primary r_M_braces n) x1 s
def fb_M_operand (N : Nat) (r_M_exp : ms → Option (Int32 × ms)) (r_M_binary : ms → Option (Int32 × ms)) (r_M_operand : ms → Option (Int32 × ms)) (r_M_primary : ms → Option (Int32 × ms)) (r_M_braces : Int32 → ms → Option (Int32 × ms)) (s1 : ms) : Option (Int32 × ms) :=
  hd_M_operand_5 N r_M_exp r_M_binary r_M_operand r_M_primary r_M_braces N ((s1.1 8 0)) s1
def bk_M_primary_269 (N : Nat) (r_M_exp : ms → Option (Int32 × ms)) (r_M_binary : ms → Option (Int32 × ms)) (r_M_operand : ms → Option (Int32 × ms)) (r_M_primary : ms → Option (Int32 × ms)) (r_M_braces : Int32 → ms → Option (Int32 × ms)) (s : ms) : Option (Int32 × ms) :=
  some (1, s)
def bk_M_primary_254 (N : Nat) (r_M_exp : ms → Option (Int32 × ms)) (r_M_binary : ms → Option (Int32 × ms)) (r_M_operand : ms → Option (Int32 × ms)) (r_M_primary : ms → Option (Int32 × ms)) (r_M_braces : Int32 → ms → Option (Int32 × ms)) (x2 : Int32) (t0 : Int64) (s : ms) : Option (Int32 × ms) :=
  (fn_M_cost N t0 s).bind (fun q_1 => if (x2 < 0 ∨ 11000 ≤ Int32.toNatClampNeg x2) then none else (fn_M_lay N 3 (((q_1.2.1 20) (Int32.toNatClampNeg x2))) 0 q_1.2).bind (fun q_4 => bk_M_primary_269 N r_M_exp r_M_binary r_M_operand r_M_primary r_M_braces q_4.2))
def bk_M_primary_220 (N : Nat) (r_M_exp : ms → Option (Int32 × ms)) (r_M_binary : ms → Option (Int32 × ms)) (r_M_operand : ms → Option (Int32 × ms)) (r_M_primary : ms → Option (Int32 × ms)) (r_M_braces : Int32 → ms → Option (Int32 × ms)) (x2 : Int32) (t0 : Int32) (s : ms) : Option (Int32 × ms) :=
  if (x2 < 0 ∨ 11000 ≤ Int32.toNatClampNeg x2) then none else if t0 ≤ ((s.1 20) (Int32.toNatClampNeg x2)) then (if (x2 < 0 ∨ 11000 ≤ Int32.toNatClampNeg x2) then none else bk_M_primary_254 N r_M_exp r_M_binary r_M_operand r_M_primary r_M_braces x2 ((Int32.toInt64 (((s.1 20) (Int32.toNatClampNeg x2))))) (upI s 8 (fun _ => ((s.1 8 0) + 1)))) else (bk_M_primary_254 N r_M_exp r_M_binary r_M_operand r_M_primary r_M_braces x2 ((Int32.toInt64 t0)) (upI s 8 (fun _ => ((s.1 8 0) + 1))))
def bk_M_primary_192 (N : Nat) (r_M_exp : ms → Option (Int32 × ms)) (r_M_binary : ms → Option (Int32 × ms)) (r_M_operand : ms → Option (Int32 × ms)) (r_M_primary : ms → Option (Int32 × ms)) (r_M_braces : Int32 → ms → Option (Int32 × ms)) (x3 : Int32) (s : ms) : Option (Int32 × ms) :=
  some ((((x3 / 256) - (x3 - x3 / 256 * 256)) + 1), s)
def bk_M_primary_138 (N : Nat) (r_M_exp : ms → Option (Int32 × ms)) (r_M_binary : ms → Option (Int32 × ms)) (r_M_operand : ms → Option (Int32 × ms)) (r_M_primary : ms → Option (Int32 × ms)) (r_M_braces : Int32 → ms → Option (Int32 × ms)) (x2 : Int32) (s : ms) : Option (Int32 × ms) :=
  (fn_M_kind N s).bind (fun q_1 => if q_1.1 = 91 then (if (((q_1.2.1 8 0) + 1) < 0 ∨ 65540 ≤ Int32.toNatClampNeg (((q_1.2.1 8 0) + 1))) then none else if ((q_1.2.1 4) (Int32.toNatClampNeg (((q_1.2.1 8 0) + 1)))) = 401 then ((fn_M_part N x2 q_1.2).bind (fun q_5 => (fn_M_lay N 2 ((q_5.1 / 256)) ((q_5.1 - q_5.1 / 256 * 256)) q_5.2).bind (fun q_8 => bk_M_primary_192 N r_M_exp r_M_binary r_M_operand r_M_primary r_M_braces q_5.1 q_8.2))) else ((r_M_exp (upI q_1.2 8 (fun _ => ((q_1.2.1 8 0) + 1)))).bind (fun q_5 => bk_M_primary_220 N r_M_exp r_M_binary r_M_operand r_M_primary r_M_braces x2 q_5.1 q_5.2))) else (if (x2 < 0 ∨ 11000 ≤ Int32.toNatClampNeg x2) then none else some (((q_1.2.1 20) (Int32.toNatClampNeg x2)), q_1.2)))
def bk_M_primary_106 (N : Nat) (r_M_exp : ms → Option (Int32 × ms)) (r_M_binary : ms → Option (Int32 × ms)) (r_M_operand : ms → Option (Int32 × ms)) (r_M_primary : ms → Option (Int32 × ms)) (r_M_braces : Int32 → ms → Option (Int32 × ms)) (t0 : Int32) (s : ms) : Option (Int32 × ms) :=
  some (t0, s)
def bk_M_primary_72 (N : Nat) (r_M_exp : ms → Option (Int32 × ms)) (r_M_binary : ms → Option (Int32 × ms)) (r_M_operand : ms → Option (Int32 × ms)) (r_M_primary : ms → Option (Int32 × ms)) (r_M_braces : Int32 → ms → Option (Int32 × ms)) (t0 : Int32) (s : ms) : Option (Int32 × ms) :=
  some (t0, upI s 8 (fun _ => ((s.1 8 0) + 1)))
def bk_M_primary_51 (N : Nat) (r_M_exp : ms → Option (Int32 × ms)) (r_M_binary : ms → Option (Int32 × ms)) (r_M_operand : ms → Option (Int32 × ms)) (r_M_primary : ms → Option (Int32 × ms)) (r_M_braces : Int32 → ms → Option (Int32 × ms)) (x1 : Int32) (s : ms) : Option (Int32 × ms) :=
  (fn_M_widthOfNumber N x1 s).bind (fun q_1 => some (q_1.1, q_1.2))
def bk_M_primary_47 (N : Nat) (r_M_exp : ms → Option (Int32 × ms)) (r_M_binary : ms → Option (Int32 × ms)) (r_M_operand : ms → Option (Int32 × ms)) (r_M_primary : ms → Option (Int32 × ms)) (r_M_braces : Int32 → ms → Option (Int32 × ms)) (x1 : Int32) (t0 : Int32) (t1 : Int32) (s : ms) : Option (Int32 × ms) :=
  (fn_M_lay N t1 t0 0 s).bind (fun q_1 => bk_M_primary_51 N r_M_exp r_M_binary r_M_operand r_M_primary r_M_braces x1 q_1.2)
def fb_M_primary (N : Nat) (r_M_exp : ms → Option (Int32 × ms)) (r_M_binary : ms → Option (Int32 × ms)) (r_M_operand : ms → Option (Int32 × ms)) (r_M_primary : ms → Option (Int32 × ms)) (r_M_braces : Int32 → ms → Option (Int32 × ms)) (s1 : ms) : Option (Int32 × ms) :=
  if (s1.1 9 0) = 0 then (if ((s1.1 8 0) < 0 ∨ 65540 ≤ Int32.toNatClampNeg ((s1.1 8 0))) then none else if ((s1.1 4) (Int32.toNatClampNeg ((s1.1 8 0)))) = 402 then ((fn_M_numberOf N ((s1.1 8 0)) (upI s1 8 (fun _ => ((s1.1 8 0) + 1)))).bind (fun q_2 => (fn_M_keepNumber N q_2.1 q_2.2).bind (fun q_5 => bk_M_primary_47 N r_M_exp r_M_binary r_M_operand r_M_primary r_M_braces ((s1.1 8 0)) q_5.1 0 q_5.2))) else (if ((s1.1 8 0) < 0 ∨ 65540 ≤ Int32.toNatClampNeg ((s1.1 8 0))) then none else if ((s1.1 4) (Int32.toNatClampNeg ((s1.1 8 0)))) = 40 then ((r_M_exp (upI s1 8 (fun _ => ((s1.1 8 0) + 1)))).bind (fun q_3 => bk_M_primary_72 N r_M_exp r_M_binary r_M_operand r_M_primary r_M_braces q_3.1 q_3.2)) else (if ((s1.1 8 0) < 0 ∨ 65540 ≤ Int32.toNatClampNeg ((s1.1 8 0))) then none else if ((s1.1 4) (Int32.toNatClampNeg ((s1.1 8 0)))) = 123 then (if ((s1.1 8 0) < 0 ∨ 65540 ≤ Int32.toNatClampNeg ((s1.1 8 0))) then none else (r_M_braces (((s1.1 5) (Int32.toNatClampNeg ((s1.1 8 0))))) (upI s1 8 (fun _ => ((s1.1 8 0) + 1)))).bind (fun q_5 => bk_M_primary_106 N r_M_exp r_M_binary r_M_operand r_M_primary r_M_braces q_5.1 q_5.2)) else ((fn_M_here N ((s1.1 8 0)) (upI s1 8 (fun _ => ((s1.1 8 0) + 1)))).bind (fun q_4 => if 0 ≤ q_4.1 then ((fn_M_lay N 1 q_4.1 0 q_4.2).bind (fun q_7 => bk_M_primary_138 N r_M_exp r_M_binary r_M_operand r_M_primary r_M_braces q_4.1 q_7.2)) else (if ((s1.1 8 0) < 0 ∨ 65540 ≤ Int32.toNatClampNeg ((s1.1 8 0))) then none else (fn_M_fail N 22 (((q_4.2.1 5) (Int32.toNatClampNeg ((s1.1 8 0))))) q_4.2).bind (fun q_8 => some (1, q_8.2)))))))) else (some (1, s1))
def bk_M_braces_185 (N : Nat) (r_M_exp : ms → Option (Int32 × ms)) (r_M_binary : ms → Option (Int32 × ms)) (r_M_operand : ms → Option (Int32 × ms)) (r_M_primary : ms → Option (Int32 × ms)) (r_M_braces : Int32 → ms → Option (Int32 × ms)) (x2 : Int64) (s : ms) : Option (Int32 × ms) :=
  if (s.1 9 0) = 0 then (some ((Int64.toInt32 x2), s)) else (some (1, s))
def bk_M_braces_144 (N : Nat) (r_M_exp : ms → Option (Int32 × ms)) (r_M_binary : ms → Option (Int32 × ms)) (r_M_operand : ms → Option (Int32 × ms)) (r_M_primary : ms → Option (Int32 × ms)) (r_M_braces : Int32 → ms → Option (Int32 × ms)) (k_110 : Int32 → Int64 → ms → Option (Int32 × ms)) (x1 : Int32) (x2 : Int64) (x4 : Int32) (s : ms) : Option (Int32 × ms) :=
  k_110 x1 ((x2 + (Int32.toInt64 x4))) s
def bk_M_braces_133 (N : Nat) (r_M_exp : ms → Option (Int32 × ms)) (r_M_binary : ms → Option (Int32 × ms)) (r_M_operand : ms → Option (Int32 × ms)) (r_M_primary : ms → Option (Int32 × ms)) (r_M_braces : Int32 → ms → Option (Int32 × ms)) (k_110 : Int32 → Int64 → ms → Option (Int32 × ms)) (x1 : Int32) (x2 : Int64) (t0 : Int32) (s : ms) : Option (Int32 × ms) :=
  (fn_M_lay N 7 t0 0 s).bind (fun q_1 => bk_M_braces_144 N r_M_exp r_M_binary r_M_operand r_M_primary r_M_braces k_110 x1 x2 t0 q_1.2)
def bd_M_braces_110 (N : Nat) (r_M_exp : ms → Option (Int32 × ms)) (r_M_binary : ms → Option (Int32 × ms)) (r_M_operand : ms → Option (Int32 × ms)) (r_M_primary : ms → Option (Int32 × ms)) (r_M_braces : Int32 → ms → Option (Int32 × ms)) (k_110 : Int32 → Int64 → ms → Option (Int32 × ms)) (x1 : Int32) (x2 : Int64) (s : ms) : Option (Int32 × ms) :=
  (fn_M_is N 44 s).bind (fun q_1 => if q_1.1 = 0 then (if (q_1.2.1 9 0) = 0 then (if (lg_cmp x2 64) ≤ 0 then (bk_M_braces_185 N r_M_exp r_M_binary r_M_operand r_M_primary r_M_braces x2 (upI q_1.2 8 (fun _ => ((q_1.2.1 8 0) + 1)))) else ((fn_M_fail N 30 x1 (upI q_1.2 8 (fun _ => ((q_1.2.1 8 0) + 1)))).bind (fun q_4 => bk_M_braces_185 N r_M_exp r_M_binary r_M_operand r_M_primary r_M_braces x2 q_4.2))) else (bk_M_braces_185 N r_M_exp r_M_binary r_M_operand r_M_primary r_M_braces x2 (upI q_1.2 8 (fun _ => ((q_1.2.1 8 0) + 1))))) else ((r_M_exp (upI q_1.2 8 (fun _ => ((q_1.2.1 8 0) + 1)))).bind (fun q_4 => bk_M_braces_133 N r_M_exp r_M_binary r_M_operand r_M_primary r_M_braces k_110 x1 x2 q_4.1 q_4.2)))
def hd_M_braces_110 (N : Nat) (r_M_exp : ms → Option (Int32 × ms)) (r_M_binary : ms → Option (Int32 × ms)) (r_M_operand : ms → Option (Int32 × ms)) (r_M_primary : ms → Option (Int32 × ms)) (r_M_braces : Int32 → ms → Option (Int32 × ms)) : Nat → Int32 → Int64 → ms → Option (Int32 × ms)
  | 0, _, _, _ => none
  | n + 1, x1, x2, s => bd_M_braces_110 N r_M_exp r_M_binary r_M_operand r_M_primary r_M_braces (hd_M_braces_110 N r_M_exp r_M_binary r_M_operand r_M_primary r_M_braces n) x1 x2 s
def bk_M_braces_108 (N : Nat) (r_M_exp : ms → Option (Int32 × ms)) (r_M_binary : ms → Option (Int32 × ms)) (r_M_operand : ms → Option (Int32 × ms)) (r_M_primary : ms → Option (Int32 × ms)) (r_M_braces : Int32 → ms → Option (Int32 × ms)) (x1 : Int32) (t0 : Int32) (s : ms) : Option (Int32 × ms) :=
  hd_M_braces_110 N r_M_exp r_M_binary r_M_operand r_M_primary r_M_braces N x1 ((Int32.toInt64 t0)) s
def bk_M_braces_87 (N : Nat) (r_M_exp : ms → Option (Int32 × ms)) (r_M_binary : ms → Option (Int32 × ms)) (r_M_operand : ms → Option (Int32 × ms)) (r_M_primary : ms → Option (Int32 × ms)) (r_M_braces : Int32 → ms → Option (Int32 × ms)) (x2 : Int64) (x4 : Int32) (s : ms) : Option (Int32 × ms) :=
  if (s.1 9 0) = 0 then (some (((Int64.toInt32 x2) * x4), s)) else (some (1, s))
def bk_M_braces_77 (N : Nat) (r_M_exp : ms → Option (Int32 × ms)) (r_M_binary : ms → Option (Int32 × ms)) (r_M_operand : ms → Option (Int32 × ms)) (r_M_primary : ms → Option (Int32 × ms)) (r_M_braces : Int32 → ms → Option (Int32 × ms)) (x2 : Int64) (x4 : Int32) (s : ms) : Option (Int32 × ms) :=
  (fn_M_lay N 8 ((Int64.toInt32 x2)) x4 s).bind (fun q_1 => bk_M_braces_87 N r_M_exp r_M_binary r_M_operand r_M_primary r_M_braces x2 x4 q_1.2)
def bk_M_braces_70 (N : Nat) (r_M_exp : ms → Option (Int32 × ms)) (r_M_binary : ms → Option (Int32 × ms)) (r_M_operand : ms → Option (Int32 × ms)) (r_M_primary : ms → Option (Int32 × ms)) (r_M_braces : Int32 → ms → Option (Int32 × ms)) (x1 : Int32) (x2 : Int64) (x4 : Int32) (s : ms) : Option (Int32 × ms) :=
  (fn_M_fail N 30 x1 s).bind (fun q_1 => bk_M_braces_77 N r_M_exp r_M_binary r_M_operand r_M_primary r_M_braces x2 x4 q_1.2)
def bk_M_braces_33 (N : Nat) (r_M_exp : ms → Option (Int32 × ms)) (r_M_binary : ms → Option (Int32 × ms)) (r_M_operand : ms → Option (Int32 × ms)) (r_M_primary : ms → Option (Int32 × ms)) (r_M_braces : Int32 → ms → Option (Int32 × ms)) (x1 : Int32) (x2 : Int64) (t0 : Int32) (s : ms) : Option (Int32 × ms) :=
  if (s.1 9 0) = 0 then (if (lg_cmp x2 0) = 0 then (bk_M_braces_70 N r_M_exp r_M_binary r_M_operand r_M_primary r_M_braces x1 x2 t0 (upI s 8 (fun _ => ((s.1 8 0) + 2)))) else (if (lg_cmp ((x2 * (Int32.toInt64 t0))) 64) ≤ 0 then (bk_M_braces_77 N r_M_exp r_M_binary r_M_operand r_M_primary r_M_braces x2 t0 (upI s 8 (fun _ => ((s.1 8 0) + 2)))) else (bk_M_braces_70 N r_M_exp r_M_binary r_M_operand r_M_primary r_M_braces x1 x2 t0 (upI s 8 (fun _ => ((s.1 8 0) + 2)))))) else (bk_M_braces_77 N r_M_exp r_M_binary r_M_operand r_M_primary r_M_braces x2 t0 (upI s 8 (fun _ => ((s.1 8 0) + 2))))
def fb_M_braces (N : Nat) (r_M_exp : ms → Option (Int32 × ms)) (r_M_binary : ms → Option (Int32 × ms)) (r_M_operand : ms → Option (Int32 × ms)) (r_M_primary : ms → Option (Int32 × ms)) (r_M_braces : Int32 → ms → Option (Int32 × ms)) (v1 : Int32) (s1 : ms) : Option (Int32 × ms) :=
  (fn_M_kind N s1).bind (fun q_1 => if q_1.1 = 401 then ((fn_M_numberOf N ((q_1.2.1 8 0)) q_1.2).bind (fun q_4 => (r_M_exp (upI q_4.2 8 (fun _ => ((q_4.2.1 8 0) + 2)))).bind (fun q_7 => bk_M_braces_33 N r_M_exp r_M_binary r_M_operand r_M_primary r_M_braces v1 q_4.1 q_7.1 q_7.2))) else ((r_M_exp q_1.2).bind (fun q_4 => bk_M_braces_108 N r_M_exp r_M_binary r_M_operand r_M_primary r_M_braces v1 q_4.1 q_4.2)))
def sg_M_exp (N : Nat) : Nat → (ms → Option (Int32 × ms)) × (ms → Option (Int32 × ms)) × (ms → Option (Int32 × ms)) × (ms → Option (Int32 × ms)) × (Int32 → ms → Option (Int32 × ms))
  | 0 => (fun _ => none, fun _ => none, fun _ => none, fun _ => none, fun _ _ => none)
  | d + 1 => (fb_M_exp N (sg_M_exp N d).1 (sg_M_exp N d).2.1 (sg_M_exp N d).2.2.1 (sg_M_exp N d).2.2.2.1 (sg_M_exp N d).2.2.2.2, fb_M_binary N (sg_M_exp N d).1 (sg_M_exp N d).2.1 (sg_M_exp N d).2.2.1 (sg_M_exp N d).2.2.2.1 (sg_M_exp N d).2.2.2.2, fb_M_operand N (sg_M_exp N d).1 (sg_M_exp N d).2.1 (sg_M_exp N d).2.2.1 (sg_M_exp N d).2.2.2.1 (sg_M_exp N d).2.2.2.2, fb_M_primary N (sg_M_exp N d).1 (sg_M_exp N d).2.1 (sg_M_exp N d).2.2.1 (sg_M_exp N d).2.2.2.1 (sg_M_exp N d).2.2.2.2, fb_M_braces N (sg_M_exp N d).1 (sg_M_exp N d).2.1 (sg_M_exp N d).2.2.1 (sg_M_exp N d).2.2.2.1 (sg_M_exp N d).2.2.2.2)
def fn_M_exp (N : Nat) (s : ms) : Option (Int32 × ms) := (sg_M_exp N 400).1 s
def fn_M_binary (N : Nat) (s : ms) : Option (Int32 × ms) := (sg_M_exp N 400).2.1 s
def fn_M_operand (N : Nat) (s : ms) : Option (Int32 × ms) := (sg_M_exp N 400).2.2.1 s
def fn_M_primary (N : Nat) (s : ms) : Option (Int32 × ms) := (sg_M_exp N 400).2.2.2.1 s
def fn_M_braces (N : Nat) (v1 : Int32) (s : ms) : Option (Int32 × ms) := (sg_M_exp N 400).2.2.2.2 v1 s
def fn_M_isDriven (N : Nat) (v1 : Int32) (s : ms) : Option (Int32 × ms) :=
  if (v1 < 0 ∨ 11000 ≤ Int32.toNatClampNeg v1) then none else if ((s.1 21) (Int32.toNatClampNeg v1)) = 1 then (some (1, s)) else (if (v1 < 0 ∨ 11000 ≤ Int32.toNatClampNeg v1) then none else if ((s.1 21) (Int32.toNatClampNeg v1)) = 3 then (some (1, s)) else (some (0, s)))
def bk_M_link_73 (N : Nat) (s : ms) : Option (Unit × ms) :=
  if ((s.1 8 0) < 0 ∨ 65540 ≤ Int32.toNatClampNeg ((s.1 8 0))) then none else (fn_M_fail N 23 (((s.1 5) (Int32.toNatClampNeg ((s.1 8 0))))) s).bind (fun q_2 => some ((), q_2.2))
def bk_M_link_337 (N : Nat) (s : ms) : Option (Unit × ms) :=
  some ((), upI s 8 (fun _ => ((s.1 8 0) + 1)))
def bk_M_link_261 (N : Nat) (x3 : Int32) (x5 : Int32) (x7 : Int32) (x8 : Int32) (s : ms) : Option (Unit × ms) :=
  if ((s.1 31 0) < 0 ∨ 11000 ≤ Int32.toNatClampNeg ((s.1 31 0))) then none else if ((s.1 31 0) < 0 ∨ 11000 ≤ Int32.toNatClampNeg ((s.1 31 0))) then none else if ((s.1 31 0) < 0 ∨ 11000 ≤ Int32.toNatClampNeg ((s.1 31 0))) then none else if x7 = 0 then (bk_M_link_337 N (upI (upI (upI (upI s 32 (upd (s.1 32) (Int32.toNatClampNeg ((s.1 31 0))) x3)) 33 (upd (s.1 33) (Int32.toNatClampNeg ((s.1 31 0))) x5)) 34 (upd (s.1 34) (Int32.toNatClampNeg ((s.1 31 0))) ((s.1 42 0)))) 31 (fun _ => ((s.1 31 0) + 1)))) else (if (x8 < 0 ∨ 11000 ≤ Int32.toNatClampNeg x8) then none else if (x8 < 0 ∨ 11000 ≤ Int32.toNatClampNeg x8) then none else if (x8 < 0 ∨ 11000 ≤ Int32.toNatClampNeg x8) then none else bk_M_link_337 N (upI (upI (upI (upI (upI (upI (upI s 32 (upd (s.1 32) (Int32.toNatClampNeg ((s.1 31 0))) x3)) 33 (upd (s.1 33) (Int32.toNatClampNeg ((s.1 31 0))) x5)) 34 (upd (s.1 34) (Int32.toNatClampNeg ((s.1 31 0))) ((s.1 42 0)))) 31 (fun _ => ((s.1 31 0) + 1))) 23 (upd (s.1 23) (Int32.toNatClampNeg x8) 2)) 24 (upd (s.1 24) (Int32.toNatClampNeg x8) ((s.1 27 0)))) 25 (upd (s.1 25) (Int32.toNatClampNeg x8) x3)))
def bk_M_link_233 (N : Nat) (x3 : Int32) (x4 : Int32) (x5 : Int32) (x7 : Int32) (x8 : Int32) (s : ms) : Option (Unit × ms) :=
  if x7 = 0 then (bk_M_link_261 N x3 x5 x7 x8 s) else (if (x8 < 0 ∨ 11000 ≤ Int32.toNatClampNeg x8) then none else if ((s.1 23) (Int32.toNatClampNeg x8)) = 0 then (bk_M_link_261 N x3 x5 x7 x8 s) else (if (x4 < 0 ∨ 65540 ≤ Int32.toNatClampNeg x4) then none else (fn_M_fail N 31 (((s.1 5) (Int32.toNatClampNeg x4))) s).bind (fun q_3 => bk_M_link_261 N x3 x5 x7 x8 q_3.2)))
def bk_M_link_215 (N : Nat) (x2 : Int32) (x3 : Int32) (x4 : Int32) (x5 : Int32) (x6 : Int32) (x7 : Int32) (x8 : Int32) (s : ms) : Option (Unit × ms) :=
  if (x3 < 0 ∨ 11000 ≤ Int32.toNatClampNeg x3) then none else if x6 = ((s.1 20) (Int32.toNatClampNeg x3)) then (bk_M_link_233 N x3 x4 x5 x7 x8 s) else ((fn_M_fail N 30 x2 s).bind (fun q_2 => bk_M_link_233 N x3 x4 x5 x7 x8 q_2.2))
def bk_M_link_201 (N : Nat) (x4 : Int32) (s : ms) : Option (Unit × ms) :=
  if (x4 < 0 ∨ 65540 ≤ Int32.toNatClampNeg x4) then none else (fn_M_fail N 25 (((s.1 5) (Int32.toNatClampNeg x4))) s).bind (fun q_2 => some ((), q_2.2))
def bk_M_link_180 (N : Nat) (x2 : Int32) (x3 : Int32) (x4 : Int32) (x5 : Int32) (x6 : Int32) (x7 : Int32) (t0 : Int32) (s : ms) : Option (Unit × ms) :=
  if x7 = 0 then (bk_M_link_215 N x2 x3 x4 x5 x6 x7 t0 s) else (if t0 < 0 then (bk_M_link_201 N x4 s) else ((fn_M_isDriven N t0 s).bind (fun q_1 => if q_1.1 = 0 then (bk_M_link_201 N x4 q_1.2) else (bk_M_link_215 N x2 x3 x4 x5 x6 x7 t0 q_1.2))))
def bk_M_link_179 (N : Nat) (x2 : Int32) (x3 : Int32) (x4 : Int32) (x5 : Int32) (x6 : Int32) (x7 : Int32) (s : ms) : Option (Unit × ms) :=
  bk_M_link_180 N x2 x3 x4 x5 x6 x7 ((-1)) s
def bk_M_link_139 (N : Nat) (x2 : Int32) (x3 : Int32) (x4 : Int32) (x5 : Int32) (x6 : Int32) (t0 : Int32) (s : ms) : Option (Unit × ms) :=
  if t0 = 0 then (bk_M_link_179 N x2 x3 x4 x5 x6 t0 s) else (if (x4 < 0 ∨ 65540 ≤ Int32.toNatClampNeg x4) then none else if ((s.1 4) (Int32.toNatClampNeg x4)) = 400 then (if (s.1 8 0) = (x4 + 1) then ((fn_M_here N x4 s).bind (fun q_2 => bk_M_link_180 N x2 x3 x4 x5 x6 t0 q_2.1 q_2.2)) else (bk_M_link_179 N x2 x3 x4 x5 x6 t0 s)) else (bk_M_link_179 N x2 x3 x4 x5 x6 t0 s))
def bk_M_link_115 (N : Nat) (x2 : Int32) (x3 : Int32) (x4 : Int32) (x5 : Int32) (t0 : Int32) (s : ms) : Option (Unit × ms) :=
  if (s.1 9 0) = 0 then (if (x3 < 0 ∨ 11000 ≤ Int32.toNatClampNeg x3) then none else if ((s.1 21) (Int32.toNatClampNeg x3)) = 0 then (bk_M_link_139 N x2 x3 x4 x5 t0 0 s) else (bk_M_link_139 N x2 x3 x4 x5 t0 1 s)) else (some ((), s))
def fn_M_link (N : Nat) (v1 : Int32) (s1 : ms) : Option (Unit × ms) :=
  if ((s1.1 8 0) < 0 ∨ 65540 ≤ Int32.toNatClampNeg ((s1.1 8 0))) then none else if (v1 < 0 ∨ 3601 ≤ Int32.toNatClampNeg v1) then none else if ((v1 + 1) < 0 ∨ 3601 ≤ Int32.toNatClampNeg ((v1 + 1))) then none else (fn_M_signalNamed N (((s1.1 8 0) + 1)) (((s1.1 14) (Int32.toNatClampNeg v1))) (((s1.1 14) (Int32.toNatClampNeg ((v1 + 1))))) (upI s1 8 (fun _ => ((s1.1 8 0) + 1)))).bind (fun q_4 => if q_4.1 < 0 then (bk_M_link_73 N q_4.2) else (if (q_4.1 < 0 ∨ 11000 ≤ Int32.toNatClampNeg q_4.1) then none else if 2 < ((q_4.2.1 21) (Int32.toNatClampNeg q_4.1)) then (bk_M_link_73 N q_4.2) else ((fn_M_linkOf N ((q_4.2.1 27 0)) ((q_4.2.1 31 0)) q_4.1 q_4.2).bind (fun q_8 => if q_8.1 < 0 then ((fn_M_exp N (upI q_8.2 8 (fun _ => ((q_8.2.1 8 0) + 2)))).bind (fun q_11 => bk_M_link_115 N (((s1.1 5) (Int32.toNatClampNeg ((s1.1 8 0))))) q_4.1 (((q_8.2.1 8 0) + 2)) ((q_8.2.1 42 0)) q_11.1 q_11.2)) else (bk_M_link_73 N q_8.2)))))
def bk_M_instance_254 (N : Nat) (s : ms) : Option (Unit × ms) :=
  if (((s.1 27 0) + 1) < 0 ∨ 11001 ≤ Int32.toNatClampNeg (((s.1 27 0) + 1))) then none else some ((), upI (upI (upI s 8 (fun _ => ((s.1 8 0) + 1))) 27 (fun _ => ((s.1 27 0) + 1))) 30 (upd (s.1 30) (Int32.toNatClampNeg (((s.1 27 0) + 1))) ((s.1 31 0))))
def bd_M_instance_191 (N : Nat) (k_191 : Int32 → Int32 → Int32 → ms → Option (Unit × ms)) (x1 : Int32) (x2 : Int32) (x3 : Int32) (s : ms) : Option (Unit × ms) :=
  if ((x1 + 1) < 0 ∨ 3601 ≤ Int32.toNatClampNeg ((x1 + 1))) then none else if ((s.1 14) (Int32.toNatClampNeg ((x1 + 1)))) ≤ x3 then (bk_M_instance_254 N s) else (if (s.1 9 0) = 0 then (if (x3 < 0 ∨ 11000 ≤ Int32.toNatClampNeg x3) then none else if 3 ≤ ((s.1 21) (Int32.toNatClampNeg x3)) then (k_191 x1 x2 ((x3 + 1)) s) else ((fn_M_linkOf N ((s.1 27 0)) ((s.1 31 0)) x3 s).bind (fun q_3 => if 0 ≤ q_3.1 then (k_191 x1 x2 ((x3 + 1)) q_3.2) else (if (x2 < 0 ∨ 65540 ≤ Int32.toNatClampNeg x2) then none else (fn_M_fail N 24 (((q_3.2.1 5) (Int32.toNatClampNeg x2))) q_3.2).bind (fun q_7 => k_191 x1 x2 ((x3 + 1)) q_7.2))))) else (bk_M_instance_254 N s))
def hd_M_instance_191 (N : Nat) : Nat → Int32 → Int32 → Int32 → ms → Option (Unit × ms)
  | 0, _, _, _, _ => none
  | n + 1, x1, x2, x3, s => bd_M_instance_191 N (hd_M_instance_191 N n) x1 x2 x3 s
def bk_M_instance_168 (N : Nat) (k_131 : Int32 → Int32 → ms → Option (Unit × ms)) (x1 : Int32) (x2 : Int32) (t0 : Int32) (s : ms) : Option (Unit × ms) :=
  k_131 x1 x2 (upI s 8 (fun _ => t0))
def bk_M_instance_145 (N : Nat) (k_131 : Int32 → Int32 → ms → Option (Unit × ms)) (x1 : Int32) (x2 : Int32) (s : ms) : Option (Unit × ms) :=
  (fn_M_kind N s).bind (fun q_1 => if q_1.1 = 44 then (bk_M_instance_168 N k_131 x1 x2 (((q_1.2.1 8 0) + 1)) q_1.2) else (bk_M_instance_168 N k_131 x1 x2 ((q_1.2.1 8 0)) q_1.2))
def bd_M_instance_131 (N : Nat) (k_131 : Int32 → Int32 → ms → Option (Unit × ms)) (x1 : Int32) (x2 : Int32) (s : ms) : Option (Unit × ms) :=
  (fn_M_is N 46 s).bind (fun q_1 => if q_1.1 = 0 then (if (x1 < 0 ∨ 3601 ≤ Int32.toNatClampNeg x1) then none else hd_M_instance_191 N N x1 x2 (((q_1.2.1 14) (Int32.toNatClampNeg x1))) (upI q_1.2 8 (fun _ => ((q_1.2.1 8 0) + 1)))) else ((fn_M_link N x1 q_1.2).bind (fun q_4 => bk_M_instance_145 N k_131 x1 x2 q_4.2)))
def hd_M_instance_131 (N : Nat) : Nat → Int32 → Int32 → ms → Option (Unit × ms)
  | 0, _, _, _ => none
  | n + 1, x1, x2, s => bd_M_instance_131 N (hd_M_instance_131 N n) x1 x2 s
def bk_M_instance_85 (N : Nat) (x1 : Int32) (x2 : Int32) (s : ms) : Option (Unit × ms) :=
  if ((s.1 27 0) < 0 ∨ 11000 ≤ Int32.toNatClampNeg ((s.1 27 0))) then none else if ((s.1 27 0) < 0 ∨ 11000 ≤ Int32.toNatClampNeg ((s.1 27 0))) then none else if ((s.1 27 0) < 0 ∨ 11001 ≤ Int32.toNatClampNeg ((s.1 27 0))) then none else hd_M_instance_131 N N x1 x2 (upI (upI (upI (upI s 28 (upd (s.1 28) (Int32.toNatClampNeg ((s.1 27 0))) x1)) 29 (upd (s.1 29) (Int32.toNatClampNeg ((s.1 27 0))) ((s.1 8 0)))) 30 (upd (s.1 30) (Int32.toNatClampNeg ((s.1 27 0))) ((s.1 31 0)))) 8 (fun _ => ((s.1 8 0) + 2)))
def bk_M_instance_70 (N : Nat) (x1 : Int32) (x2 : Int32) (s : ms) : Option (Unit × ms) :=
  if ((s.1 8 0) < 0 ∨ 65540 ≤ Int32.toNatClampNeg ((s.1 8 0))) then none else (fn_M_fail N 21 (((s.1 5) (Int32.toNatClampNeg ((s.1 8 0))))) s).bind (fun q_2 => bk_M_instance_85 N x1 x2 q_2.2)
def fn_M_instance (N : Nat) (s1 : ms) : Option (Unit × ms) :=
  (fn_M_moduleNamed N ((s1.1 8 0)) ((s1.1 12 0)) s1).bind (fun q_1 => if 0 ≤ q_1.1 then ((fn_M_here N (((q_1.2.1 8 0) + 1)) (upI q_1.2 8 (fun _ => ((q_1.2.1 8 0) + 1)))).bind (fun q_4 => if 0 ≤ q_4.1 then (bk_M_instance_70 N q_1.1 (((q_1.2.1 8 0) + 1)) q_4.2) else ((fn_M_isInstanceName N ((q_4.2.1 8 0)) q_4.2).bind (fun q_7 => if q_7.1 = 0 then (bk_M_instance_85 N q_1.1 (((q_1.2.1 8 0) + 1)) q_7.2) else (bk_M_instance_70 N q_1.1 (((q_1.2.1 8 0) + 1)) q_7.2))))) else (if ((q_1.2.1 8 0) < 0 ∨ 65540 ≤ Int32.toNatClampNeg ((q_1.2.1 8 0))) then none else (fn_M_fail N 22 (((q_1.2.1 5) (Int32.toNatClampNeg ((q_1.2.1 8 0))))) q_1.2).bind (fun q_5 => some ((), q_5.2))))
def fn_M_isRegister (N : Nat) (v1 : Int32) (s : ms) : Option (Int32 × ms) :=
  if (v1 < 0 ∨ 11000 ≤ Int32.toNatClampNeg v1) then none else if ((s.1 21) (Int32.toNatClampNeg v1)) = 2 then (some (1, s)) else (if (v1 < 0 ∨ 11000 ≤ Int32.toNatClampNeg v1) then none else if ((s.1 21) (Int32.toNatClampNeg v1)) = 4 then (some (1, s)) else (some (0, s)))
def bk_M_setting_21 (N : Nat) (s : ms) : Option (Unit × ms) :=
  if ((s.1 8 0) < 0 ∨ 65540 ≤ Int32.toNatClampNeg ((s.1 8 0))) then none else (fn_M_fail N 22 (((s.1 5) (Int32.toNatClampNeg ((s.1 8 0))))) s).bind (fun q_2 => some ((), q_2.2))
def bk_M_setting_203 (N : Nat) (s : ms) : Option (Unit × ms) :=
  some ((), upI s 8 (fun _ => ((s.1 8 0) + 1)))
def bk_M_setting_188 (N : Nat) (x1 : Int32) (x2 : Int32) (x5 : Int32) (s : ms) : Option (Unit × ms) :=
  (fn_M_cost N ((Int32.toInt64 x5)) s).bind (fun q_1 => (fn_M_lay N 9 x1 x2 q_1.2).bind (fun q_3 => bk_M_setting_203 N q_3.2))
def bk_M_setting_150 (N : Nat) (x1 : Int32) (x2 : Int32) (x3 : Int32) (t0 : Int32) (s : ms) : Option (Unit × ms) :=
  if (s.1 9 0) = 0 then (if t0 = (((x2 / 256) - (x2 - x2 / 256 * 256)) + 1) then (bk_M_setting_188 N x1 x2 ((((x2 / 256) - (x2 - x2 / 256 * 256)) + 1)) s) else ((fn_M_fail N 30 x3 s).bind (fun q_1 => bk_M_setting_188 N x1 x2 ((((x2 / 256) - (x2 - x2 / 256 * 256)) + 1)) q_1.2))) else (bk_M_setting_188 N x1 x2 ((((x2 / 256) - (x2 - x2 / 256 * 256)) + 1)) s)
def bk_M_setting_126 (N : Nat) (x1 : Int32) (x2 : Int32) (s : ms) : Option (Unit × ms) :=
  if ((s.1 8 0) < 0 ∨ 65540 ≤ Int32.toNatClampNeg ((s.1 8 0))) then none else (fn_M_exp N (upI s 8 (fun _ => ((s.1 8 0) + 1)))).bind (fun q_2 => bk_M_setting_150 N x1 x2 (((s.1 5) (Int32.toNatClampNeg ((s.1 8 0))))) q_2.1 q_2.2)
def bk_M_setting_76 (N : Nat) (x1 : Int32) (s : ms) : Option (Unit × ms) :=
  if (x1 < 0 ∨ 11000 ≤ Int32.toNatClampNeg x1) then none else if (x1 < 0 ∨ 11000 ≤ Int32.toNatClampNeg x1) then none else (fn_M_kind N (upI (upI s 26 (upd (s.1 26) (Int32.toNatClampNeg x1) (((s.1 38 0) + 1)))) 8 (fun _ => ((s.1 8 0) + 1)))).bind (fun q_3 => if q_3.1 = 91 then ((fn_M_part N x1 q_3.2).bind (fun q_6 => bk_M_setting_126 N x1 q_6.1 q_6.2)) else (bk_M_setting_126 N x1 ((256 * (((s.1 20) (Int32.toNatClampNeg x1)) - 1))) q_3.2))
def fn_M_setting (N : Nat) (s1 : ms) : Option (Unit × ms) :=
  (fn_M_here N ((s1.1 8 0)) s1).bind (fun q_1 => if q_1.1 < 0 then (bk_M_setting_21 N q_1.2) else ((fn_M_isRegister N q_1.1 q_1.2).bind (fun q_4 => if q_4.1 = 0 then (bk_M_setting_21 N q_4.2) else (if (q_1.1 < 0 ∨ 11000 ≤ Int32.toNatClampNeg q_1.1) then none else if ((q_4.2.1 26) (Int32.toNatClampNeg q_1.1)) = 0 then (bk_M_setting_76 N q_1.1 q_4.2) else (if (q_1.1 < 0 ∨ 11000 ≤ Int32.toNatClampNeg q_1.1) then none else if ((q_4.2.1 26) (Int32.toNatClampNeg q_1.1)) = ((q_4.2.1 38 0) + 1) then (bk_M_setting_76 N q_1.1 q_4.2) else (if ((q_4.2.1 8 0) < 0 ∨ 65540 ≤ Int32.toNatClampNeg ((q_4.2.1 8 0))) then none else (fn_M_fail N 32 (((q_4.2.1 5) (Int32.toNatClampNeg ((q_4.2.1 8 0))))) q_4.2).bind (fun q_10 => bk_M_setting_76 N q_1.1 q_10.2)))))))
def bd_M_patch_2 (N : Nat) (k_2 : Int32 → ms → Option (Unit × ms)) (x2 : Int32) (s : ms) : Option (Unit × ms) :=
  if x2 < 0 then (some ((), s)) else (if ((x2 + 1) < 0 ∨ (s.1 91 0).toNatClampNeg ≤ Int32.toNatClampNeg ((x2 + 1))) then none else if ((x2 + 1) < 0 ∨ (s.1 91 0).toNatClampNeg ≤ Int32.toNatClampNeg ((x2 + 1))) then none else k_2 (((s.1 41) (Int32.toNatClampNeg ((x2 + 1))))) (upI s 41 (upd (s.1 41) (Int32.toNatClampNeg ((x2 + 1))) ((s.1 42 0)))))
def hd_M_patch_2 (N : Nat) : Nat → Int32 → ms → Option (Unit × ms)
  | 0, _, _ => none
  | n + 1, x2, s => bd_M_patch_2 N (hd_M_patch_2 N n) x2 s
def fn_M_patch (N : Nat) (v1 : Int32) (s : ms) : Option (Unit × ms) :=
  hd_M_patch_2 N N v1 s
def bk_M_statement_221 (N : Nat) (r_M_statement : ms → Option (Unit × ms)) (r_M_caseOf : ms → Option (Unit × ms)) (s : ms) : Option (Unit × ms) :=
  some ((), s)
def bk_M_statement_214 (N : Nat) (r_M_statement : ms → Option (Unit × ms)) (r_M_caseOf : ms → Option (Unit × ms)) (s : ms) : Option (Unit × ms) :=
  bk_M_statement_221 N r_M_statement r_M_caseOf s
def bk_M_statement_170 (N : Nat) (r_M_statement : ms → Option (Unit × ms)) (r_M_caseOf : ms → Option (Unit × ms)) (x2 : Int32) (s : ms) : Option (Unit × ms) :=
  if ((x2 + 1) < 0 ∨ (s.1 91 0).toNatClampNeg ≤ Int32.toNatClampNeg ((x2 + 1))) then none else bk_M_statement_221 N r_M_statement r_M_caseOf (upI s 41 (upd (s.1 41) (Int32.toNatClampNeg ((x2 + 1))) ((s.1 42 0))))
def bk_M_statement_154 (N : Nat) (r_M_statement : ms → Option (Unit × ms)) (r_M_caseOf : ms → Option (Unit × ms)) (x1 : Int32) (x2 : Int32) (s : ms) : Option (Unit × ms) :=
  if ((x1 + 1) < 0 ∨ (s.1 91 0).toNatClampNeg ≤ Int32.toNatClampNeg ((x1 + 1))) then none else (r_M_statement (upI s 41 (upd (s.1 41) (Int32.toNatClampNeg ((x1 + 1))) ((s.1 42 0))))).bind (fun q_2 => bk_M_statement_170 N r_M_statement r_M_caseOf x2 q_2.2)
def bk_M_statement_121 (N : Nat) (r_M_statement : ms → Option (Unit × ms)) (r_M_caseOf : ms → Option (Unit × ms)) (x1 : Int32) (s : ms) : Option (Unit × ms) :=
  (fn_M_is N 313 s).bind (fun q_1 => if q_1.1 = 0 then (if ((x1 + 1) < 0 ∨ (q_1.2.1 91 0).toNatClampNeg ≤ Int32.toNatClampNeg ((x1 + 1))) then none else bk_M_statement_221 N r_M_statement r_M_caseOf (upI q_1.2 41 (upd (q_1.2.1 41) (Int32.toNatClampNeg ((x1 + 1))) ((q_1.2.1 42 0))))) else ((fn_M_lay N 11 0 0 (upI q_1.2 8 (fun _ => ((q_1.2.1 8 0) + 1)))).bind (fun q_4 => bk_M_statement_154 N r_M_statement r_M_caseOf x1 ((q_1.2.1 42 0)) q_4.2)))
def bk_M_statement_117 (N : Nat) (r_M_statement : ms → Option (Unit × ms)) (r_M_caseOf : ms → Option (Unit × ms)) (x1 : Int32) (s : ms) : Option (Unit × ms) :=
  (r_M_statement s).bind (fun q_1 => bk_M_statement_121 N r_M_statement r_M_caseOf x1 q_1.2)
def bk_M_statement_90 (N : Nat) (r_M_statement : ms → Option (Unit × ms)) (r_M_caseOf : ms → Option (Unit × ms)) (t0 : Int32) (s : ms) : Option (Unit × ms) :=
  (fn_M_cost N ((Int32.toInt64 t0)) s).bind (fun q_1 => (fn_M_lay N 10 0 0 (upI q_1.2 8 (fun _ => ((q_1.2.1 8 0) + 1)))).bind (fun q_3 => bk_M_statement_117 N r_M_statement r_M_caseOf ((q_1.2.1 42 0)) q_3.2))
def bk_M_statement_52 (N : Nat) (r_M_statement : ms → Option (Unit × ms)) (r_M_caseOf : ms → Option (Unit × ms)) (s : ms) : Option (Unit × ms) :=
  bk_M_statement_221 N r_M_statement r_M_caseOf (upI s 8 (fun _ => ((s.1 8 0) + 1)))
def bk_M_statement_49 (N : Nat) (r_M_statement : ms → Option (Unit × ms)) (r_M_caseOf : ms → Option (Unit × ms)) (k_28 : ms → Option (Unit × ms)) (s : ms) : Option (Unit × ms) :=
  k_28 s
def bd_M_statement_28 (N : Nat) (r_M_statement : ms → Option (Unit × ms)) (r_M_caseOf : ms → Option (Unit × ms)) (k_28 : ms → Option (Unit × ms)) (s : ms) : Option (Unit × ms) :=
  if (s.1 9 0) = 0 then ((fn_M_kind N s).bind (fun q_1 => if q_1.1 = 311 then (bk_M_statement_52 N r_M_statement r_M_caseOf q_1.2) else ((r_M_statement q_1.2).bind (fun q_4 => bk_M_statement_49 N r_M_statement r_M_caseOf k_28 q_4.2)))) else (bk_M_statement_52 N r_M_statement r_M_caseOf s)
def hd_M_statement_28 (N : Nat) (r_M_statement : ms → Option (Unit × ms)) (r_M_caseOf : ms → Option (Unit × ms)) : Nat → ms → Option (Unit × ms)
  | 0, _ => none
  | n + 1, s => bd_M_statement_28 N r_M_statement r_M_caseOf (hd_M_statement_28 N r_M_statement r_M_caseOf n) s
def fb_M_statement (N : Nat) (r_M_statement : ms → Option (Unit × ms)) (r_M_caseOf : ms → Option (Unit × ms)) (s1 : ms) : Option (Unit × ms) :=
  if (s1.1 9 0) = 0 then ((fn_M_kind N s1).bind (fun q_1 => if q_1.1 = 310 then (hd_M_statement_28 N r_M_statement r_M_caseOf N (upI q_1.2 8 (fun _ => ((q_1.2.1 8 0) + 1)))) else ((fn_M_kind N q_1.2).bind (fun q_4 => if q_4.1 = 312 then ((fn_M_exp N (upI q_4.2 8 (fun _ => ((q_4.2.1 8 0) + 2)))).bind (fun q_7 => bk_M_statement_90 N r_M_statement r_M_caseOf q_7.1 q_7.2)) else ((fn_M_kind N q_4.2).bind (fun q_7 => if q_7.1 = 314 then ((r_M_caseOf q_7.2).bind (fun q_10 => bk_M_statement_214 N r_M_statement r_M_caseOf q_10.2)) else ((fn_M_setting N q_7.2).bind (fun q_10 => bk_M_statement_221 N r_M_statement r_M_caseOf q_10.2)))))))) else (some ((), s1))
def bk_M_caseOf_246 (N : Nat) (r_M_statement : ms → Option (Unit × ms)) (r_M_caseOf : ms → Option (Unit × ms)) (x2 : Int32) (s : ms) : Option (Unit × ms) :=
  (fn_M_patch N x2 s).bind (fun q_1 => some ((), upI q_1.2 8 (fun _ => ((q_1.2.1 8 0) + 1))))
def bk_M_caseOf_222 (N : Nat) (r_M_statement : ms → Option (Unit × ms)) (r_M_caseOf : ms → Option (Unit × ms)) (x2 : Int32) (s : ms) : Option (Unit × ms) :=
  (fn_M_is N 316 s).bind (fun q_1 => if q_1.1 = 0 then (bk_M_caseOf_246 N r_M_statement r_M_caseOf x2 q_1.2) else ((r_M_statement (upI q_1.2 8 (fun _ => ((q_1.2.1 8 0) + 2)))).bind (fun q_4 => bk_M_caseOf_246 N r_M_statement r_M_caseOf x2 q_4.2)))
def bk_M_caseOf_191 (N : Nat) (r_M_statement : ms → Option (Unit × ms)) (r_M_caseOf : ms → Option (Unit × ms)) (k_27 : Int32 → Int32 → ms → Option (Unit × ms)) (x1 : Int32) (x5 : Int32) (s : ms) : Option (Unit × ms) :=
  if ((x5 + 1) < 0 ∨ (s.1 91 0).toNatClampNeg ≤ Int32.toNatClampNeg ((x5 + 1))) then none else k_27 x1 (((s.1 42 0) - 3)) (upI s 41 (upd (s.1 41) (Int32.toNatClampNeg ((x5 + 1))) ((s.1 42 0))))
def bk_M_caseOf_183 (N : Nat) (r_M_statement : ms → Option (Unit × ms)) (r_M_caseOf : ms → Option (Unit × ms)) (k_27 : Int32 → Int32 → ms → Option (Unit × ms)) (x1 : Int32) (x2 : Int32) (x5 : Int32) (s : ms) : Option (Unit × ms) :=
  (fn_M_lay N 11 x2 0 s).bind (fun q_1 => bk_M_caseOf_191 N r_M_statement r_M_caseOf k_27 x1 x5 q_1.2)
def bk_M_caseOf_179 (N : Nat) (r_M_statement : ms → Option (Unit × ms)) (r_M_caseOf : ms → Option (Unit × ms)) (k_27 : Int32 → Int32 → ms → Option (Unit × ms)) (x1 : Int32) (x2 : Int32) (x5 : Int32) (s : ms) : Option (Unit × ms) :=
  (r_M_statement s).bind (fun q_1 => bk_M_caseOf_183 N r_M_statement r_M_caseOf k_27 x1 x2 x5 q_1.2)
def bk_M_caseOf_166 (N : Nat) (r_M_statement : ms → Option (Unit × ms)) (r_M_caseOf : ms → Option (Unit × ms)) (k_27 : Int32 → Int32 → ms → Option (Unit × ms)) (x1 : Int32) (x2 : Int32) (x3 : Int32) (x5 : Int32) (s : ms) : Option (Unit × ms) :=
  (fn_M_patch N x3 s).bind (fun q_1 => (fn_M_lay N 13 0 0 q_1.2).bind (fun q_3 => bk_M_caseOf_179 N r_M_statement r_M_caseOf k_27 x1 x2 x5 q_3.2))
def bk_M_caseOf_152 (N : Nat) (r_M_statement : ms → Option (Unit × ms)) (r_M_caseOf : ms → Option (Unit × ms)) (k_27 : Int32 → Int32 → ms → Option (Unit × ms)) (x1 : Int32) (x2 : Int32) (x3 : Int32) (s : ms) : Option (Unit × ms) :=
  (fn_M_lay N 11 0 0 s).bind (fun q_1 => bk_M_caseOf_166 N r_M_statement r_M_caseOf k_27 x1 x2 x3 ((s.1 42 0)) q_1.2)
def bk_M_caseOf_137 (N : Nat) (r_M_statement : ms → Option (Unit × ms)) (r_M_caseOf : ms → Option (Unit × ms)) (k_27 : Int32 → Int32 → ms → Option (Unit × ms)) (k_42 : Int32 → Int32 → Int32 → Int32 → ms → Option (Unit × ms)) (x1 : Int32) (x2 : Int32) (x3 : Int32) (t0 : Int32) (s : ms) : Option (Unit × ms) :=
  k_42 x1 x2 x3 t0 (upI s 8 (fun _ => ((s.1 8 0) + 1)))
def bk_M_caseOf_106 (N : Nat) (r_M_statement : ms → Option (Unit × ms)) (r_M_caseOf : ms → Option (Unit × ms)) (k_27 : Int32 → Int32 → ms → Option (Unit × ms)) (k_42 : Int32 → Int32 → Int32 → Int32 → ms → Option (Unit × ms)) (x1 : Int32) (x2 : Int32) (s : ms) : Option (Unit × ms) :=
  (fn_M_kind N (upI s 8 (fun _ => ((s.1 8 0) + 1)))).bind (fun q_1 => if q_1.1 = 44 then (bk_M_caseOf_137 N r_M_statement r_M_caseOf k_27 k_42 x1 x2 (((s.1 42 0) - 3)) 1 q_1.2) else (bk_M_caseOf_137 N r_M_statement r_M_caseOf k_27 k_42 x1 x2 (((s.1 42 0) - 3)) 0 q_1.2))
def bk_M_caseOf_103 (N : Nat) (r_M_statement : ms → Option (Unit × ms)) (r_M_caseOf : ms → Option (Unit × ms)) (k_27 : Int32 → Int32 → ms → Option (Unit × ms)) (k_42 : Int32 → Int32 → Int32 → Int32 → ms → Option (Unit × ms)) (x1 : Int32) (x2 : Int32) (t0 : Int32) (t1 : Int32) (t2 : Int32) (s : ms) : Option (Unit × ms) :=
  (fn_M_lay N t2 t1 t0 s).bind (fun q_1 => bk_M_caseOf_106 N r_M_statement r_M_caseOf k_27 k_42 x1 x2 q_1.2)
def bk_M_caseOf_81 (N : Nat) (r_M_statement : ms → Option (Unit × ms)) (r_M_caseOf : ms → Option (Unit × ms)) (k_27 : Int32 → Int32 → ms → Option (Unit × ms)) (k_42 : Int32 → Int32 → Int32 → Int32 → ms → Option (Unit × ms)) (x1 : Int32) (x2 : Int32) (x3 : Int32) (s : ms) : Option (Unit × ms) :=
  (fn_M_cost N ((Int32.toInt64 x1)) s).bind (fun q_1 => (fn_M_numberOf N ((q_1.2.1 8 0)) q_1.2).bind (fun q_3 => (fn_M_keepNumber N q_3.1 q_3.2).bind (fun q_6 => bk_M_caseOf_103 N r_M_statement r_M_caseOf k_27 k_42 x1 x2 q_6.1 x3 12 q_6.2)))
def bd_M_caseOf_42 (N : Nat) (r_M_statement : ms → Option (Unit × ms)) (r_M_caseOf : ms → Option (Unit × ms)) (k_27 : Int32 → Int32 → ms → Option (Unit × ms)) (k_42 : Int32 → Int32 → Int32 → Int32 → ms → Option (Unit × ms)) (x1 : Int32) (x2 : Int32) (x3 : Int32) (x4 : Int32) (s : ms) : Option (Unit × ms) :=
  if x4 = 0 then (bk_M_caseOf_152 N r_M_statement r_M_caseOf k_27 x1 x2 x3 s) else (if (s.1 9 0) = 0 then ((fn_M_widthOfNumber N ((s.1 8 0)) s).bind (fun q_1 => if q_1.1 = x1 then (bk_M_caseOf_81 N r_M_statement r_M_caseOf k_27 k_42 x1 x2 x3 q_1.2) else (if ((q_1.2.1 8 0) < 0 ∨ 65540 ≤ Int32.toNatClampNeg ((q_1.2.1 8 0))) then none else (fn_M_fail N 30 (((q_1.2.1 5) (Int32.toNatClampNeg ((q_1.2.1 8 0))))) q_1.2).bind (fun q_5 => bk_M_caseOf_81 N r_M_statement r_M_caseOf k_27 k_42 x1 x2 x3 q_5.2)))) else (bk_M_caseOf_152 N r_M_statement r_M_caseOf k_27 x1 x2 x3 s))
def hd_M_caseOf_42 (N : Nat) (r_M_statement : ms → Option (Unit × ms)) (r_M_caseOf : ms → Option (Unit × ms)) (k_27 : Int32 → Int32 → ms → Option (Unit × ms)) : Nat → Int32 → Int32 → Int32 → Int32 → ms → Option (Unit × ms)
  | 0, _, _, _, _, _ => none
  | n + 1, x1, x2, x3, x4, s => bd_M_caseOf_42 N r_M_statement r_M_caseOf k_27 (hd_M_caseOf_42 N r_M_statement r_M_caseOf k_27 n) x1 x2 x3 x4 s
def bd_M_caseOf_27 (N : Nat) (r_M_statement : ms → Option (Unit × ms)) (r_M_caseOf : ms → Option (Unit × ms)) (k_27 : Int32 → Int32 → ms → Option (Unit × ms)) (x1 : Int32) (x2 : Int32) (s : ms) : Option (Unit × ms) :=
  (fn_M_is N 402 s).bind (fun q_1 => if q_1.1 = 0 then ((fn_M_lay N 13 0 0 q_1.2).bind (fun q_4 => bk_M_caseOf_222 N r_M_statement r_M_caseOf x2 q_4.2)) else (hd_M_caseOf_42 N r_M_statement r_M_caseOf k_27 N x1 x2 ((-1)) 1 q_1.2))
def hd_M_caseOf_27 (N : Nat) (r_M_statement : ms → Option (Unit × ms)) (r_M_caseOf : ms → Option (Unit × ms)) : Nat → Int32 → Int32 → ms → Option (Unit × ms)
  | 0, _, _, _ => none
  | n + 1, x1, x2, s => bd_M_caseOf_27 N r_M_statement r_M_caseOf (hd_M_caseOf_27 N r_M_statement r_M_caseOf n) x1 x2 s
def bk_M_caseOf_14 (N : Nat) (r_M_statement : ms → Option (Unit × ms)) (r_M_caseOf : ms → Option (Unit × ms)) (t0 : Int32) (s : ms) : Option (Unit × ms) :=
  hd_M_caseOf_27 N r_M_statement r_M_caseOf N t0 ((-1)) (upI s 8 (fun _ => ((s.1 8 0) + 1)))
def fb_M_caseOf (N : Nat) (r_M_statement : ms → Option (Unit × ms)) (r_M_caseOf : ms → Option (Unit × ms)) (s1 : ms) : Option (Unit × ms) :=
  (fn_M_exp N (upI s1 8 (fun _ => ((s1.1 8 0) + 2)))).bind (fun q_1 => bk_M_caseOf_14 N r_M_statement r_M_caseOf q_1.1 q_1.2)
def sg_M_statement (N : Nat) : Nat → (ms → Option (Unit × ms)) × (ms → Option (Unit × ms))
  | 0 => (fun _ => none, fun _ => none)
  | d + 1 => (fb_M_statement N (sg_M_statement N d).1 (sg_M_statement N d).2, fb_M_caseOf N (sg_M_statement N d).1 (sg_M_statement N d).2)
def fn_M_statement (N : Nat) (s : ms) : Option (Unit × ms) := (sg_M_statement N 400).1 s
def fn_M_caseOf (N : Nat) (s : ms) : Option (Unit × ms) := (sg_M_statement N 400).2 s
def bk_M_assign_31 (N : Nat) (s : ms) : Option (Unit × ms) :=
  if ((s.1 8 0) < 0 ∨ 65540 ≤ Int32.toNatClampNeg ((s.1 8 0))) then none else (fn_M_fail N 22 (((s.1 5) (Int32.toNatClampNeg ((s.1 8 0))))) s).bind (fun q_2 => some ((), q_2.2))
def bk_M_assign_137 (N : Nat) (x1 : Int32) (x3 : Int32) (s : ms) : Option (Unit × ms) :=
  if (x1 < 0 ∨ 11000 ≤ Int32.toNatClampNeg x1) then none else if (x1 < 0 ∨ 11000 ≤ Int32.toNatClampNeg x1) then none else if (x1 < 0 ∨ 11000 ≤ Int32.toNatClampNeg x1) then none else some ((), upI (upI (upI (upI s 23 (upd (s.1 23) (Int32.toNatClampNeg x1) 1)) 24 (upd (s.1 24) (Int32.toNatClampNeg x1) x3)) 25 (upd (s.1 25) (Int32.toNatClampNeg x1) ((s.1 42 0)))) 8 (fun _ => ((s.1 8 0) + 1)))
def bk_M_assign_110 (N : Nat) (x1 : Int32) (x2 : Int32) (x3 : Int32) (t0 : Int32) (s : ms) : Option (Unit × ms) :=
  if (s.1 9 0) = 0 then (if (x1 < 0 ∨ 11000 ≤ Int32.toNatClampNeg x1) then none else if t0 = ((s.1 20) (Int32.toNatClampNeg x1)) then (bk_M_assign_137 N x1 x3 s) else ((fn_M_fail N 30 x2 s).bind (fun q_2 => bk_M_assign_137 N x1 x3 q_2.2))) else (bk_M_assign_137 N x1 x3 s)
def bk_M_assign_71 (N : Nat) (x1 : Int32) (s : ms) : Option (Unit × ms) :=
  if (((s.1 8 0) + 1) < 0 ∨ 65540 ≤ Int32.toNatClampNeg (((s.1 8 0) + 1))) then none else (fn_M_exp N (upI (upI s 8 (fun _ => ((s.1 8 0) + 1))) 8 (fun _ => (((s.1 8 0) + 1) + 1)))).bind (fun q_2 => bk_M_assign_110 N x1 (((s.1 5) (Int32.toNatClampNeg (((s.1 8 0) + 1))))) ((s.1 42 0)) q_2.1 q_2.2)
def fn_M_assign (N : Nat) (s1 : ms) : Option (Unit × ms) :=
  (fn_M_here N (((s1.1 8 0) + 1)) (upI s1 8 (fun _ => ((s1.1 8 0) + 1)))).bind (fun q_1 => if q_1.1 < 0 then (bk_M_assign_31 N q_1.2) else ((fn_M_isDriven N q_1.1 q_1.2).bind (fun q_4 => if q_4.1 = 0 then (bk_M_assign_31 N q_4.2) else (if (q_1.1 < 0 ∨ 11000 ≤ Int32.toNatClampNeg q_1.1) then none else if ((q_4.2.1 23) (Int32.toNatClampNeg q_1.1)) = 0 then (bk_M_assign_71 N q_1.1 q_4.2) else (if ((q_4.2.1 8 0) < 0 ∨ 65540 ≤ Int32.toNatClampNeg ((q_4.2.1 8 0))) then none else (fn_M_fail N 31 (((q_4.2.1 5) (Int32.toNatClampNeg ((q_4.2.1 8 0))))) q_4.2).bind (fun q_9 => bk_M_assign_71 N q_1.1 q_9.2))))))
def bk_M_item_239 (N : Nat) (s : ms) : Option (Unit × ms) :=
  some ((), s)
def bk_M_item_56 (N : Nat) (t0 : Int32) (s : ms) : Option (Unit × ms) :=
  (fn_M_range N s).bind (fun q_1 => (fn_M_declare N t0 q_1.1 q_1.2).bind (fun q_4 => bk_M_item_239 N (upI q_4.2 8 (fun _ => ((q_4.2.1 8 0) + 1)))))
def bk_M_item_35 (N : Nat) (t0 : Int32) (s : ms) : Option (Unit × ms) :=
  if t0 = 0 then (bk_M_item_56 N 3 (upI s 8 (fun _ => ((s.1 8 0) + 1)))) else (bk_M_item_56 N 4 (upI s 8 (fun _ => ((s.1 8 0) + 1))))
def bk_M_item_20 (N : Nat) (s : ms) : Option (Unit × ms) :=
  (fn_M_kind N s).bind (fun q_1 => if q_1.1 = 305 then (bk_M_item_35 N 1 q_1.2) else (bk_M_item_35 N 0 q_1.2))
def bk_M_item_195 (N : Nat) (t0 : Int32) (s : ms) : Option (Unit × ms) :=
  (fn_M_cost N ((Int32.toInt64 t0)) s).bind (fun q_1 => if ((q_1.2.1 35 0) < 0 ∨ 6600 ≤ Int32.toNatClampNeg ((q_1.2.1 35 0))) then none else bk_M_item_239 N (upI (upI (upI q_1.2 37 (upd (q_1.2.1 37) (Int32.toNatClampNeg ((q_1.2.1 35 0))) ((q_1.2.1 42 0)))) 35 (fun _ => ((q_1.2.1 35 0) + 1))) 8 (fun _ => ((q_1.2.1 8 0) + 2))))
def bk_M_item_131 (N : Nat) (s : ms) : Option (Unit × ms) :=
  if ((s.1 38 0) < 0 ∨ 6600 ≤ Int32.toNatClampNeg ((s.1 38 0))) then none else bk_M_item_239 N (upI (upI s 40 (upd (s.1 40) (Int32.toNatClampNeg ((s.1 38 0))) ((s.1 42 0)))) 38 (fun _ => ((s.1 38 0) + 1)))
def bk_M_item_90 (N : Nat) (s : ms) : Option (Unit × ms) :=
  bk_M_item_239 N s
def fn_M_item (N : Nat) (s1 : ms) : Option (Unit × ms) :=
  (fn_M_kind N s1).bind (fun q_1 => if q_1.1 = 304 then (bk_M_item_20 N q_1.2) else ((fn_M_kind N q_1.2).bind (fun q_4 => if q_4.1 = 305 then (bk_M_item_20 N q_4.2) else ((fn_M_kind N q_4.2).bind (fun q_7 => if q_7.1 = 306 then ((fn_M_assign N q_7.2).bind (fun q_10 => bk_M_item_90 N q_10.2)) else ((fn_M_kind N q_7.2).bind (fun q_10 => if q_10.1 = 307 then (if ((q_10.2.1 38 0) < 0 ∨ 6600 ≤ Int32.toNatClampNeg ((q_10.2.1 38 0))) then none else (fn_M_statement N (upI (upI q_10.2 8 (fun _ => ((q_10.2.1 8 0) + 6))) 39 (upd (q_10.2.1 39) (Int32.toNatClampNeg ((q_10.2.1 38 0))) ((q_10.2.1 42 0))))).bind (fun q_14 => bk_M_item_131 N q_14.2)) else ((fn_M_kind N q_10.2).bind (fun q_13 => if q_13.1 = 317 then (if ((q_13.2.1 35 0) < 0 ∨ 6600 ≤ Int32.toNatClampNeg ((q_13.2.1 35 0))) then none else (fn_M_exp N (upI (upI q_13.2 8 (fun _ => ((q_13.2.1 8 0) + 2))) 36 (upd (q_13.2.1 36) (Int32.toNatClampNeg ((q_13.2.1 35 0))) ((q_13.2.1 42 0))))).bind (fun q_17 => bk_M_item_195 N q_17.1 q_17.2)) else ((fn_M_instance N q_13.2).bind (fun q_16 => bk_M_item_239 N q_16.2)))))))))))
def fn_M_most (N : Nat) (v0 : Int64) (s : ms) : Option (Int64 × ms) :=
  if (lg_cmp v0 1000000000) ≤ 0 then (some (v0, s)) else (some (1000000000, s))
def bk_M_module_172 (N : Nat) (k_125 : ms → Option (Unit × ms)) (t0 : Int32) (s : ms) : Option (Unit × ms) :=
  k_125 (upI s 8 (fun _ => t0))
def bk_M_module_145 (N : Nat) (k_125 : ms → Option (Unit × ms)) (s : ms) : Option (Unit × ms) :=
  (fn_M_port N s).bind (fun q_1 => (fn_M_kind N q_1.2).bind (fun q_3 => if q_3.1 = 44 then (bk_M_module_172 N k_125 (((q_3.2.1 8 0) + 1)) q_3.2) else (bk_M_module_172 N k_125 ((q_3.2.1 8 0)) q_3.2)))
def bd_M_module_376 (N : Nat) (k_376 : Int64 → Int64 → Int64 → Int64 → Int32 → ms → Option (Unit × ms)) (x1 : Int64) (x3 : Int64) (x5 : Int64) (x7 : Int64) (x9 : Int32) (s : ms) : Option (Unit × ms) :=
  if (s.1 27 0) ≤ x9 then (if ((s.1 12 0) < 0 ∨ 3600 ≤ Int32.toNatClampNeg ((s.1 12 0))) then none else if ((s.1 12 0) < 0 ∨ 3600 ≤ Int32.toNatClampNeg ((s.1 12 0))) then none else if ((s.1 12 0) < 0 ∨ 3600 ≤ Int32.toNatClampNeg ((s.1 12 0))) then none else (fn_M_most N x7 (upJ (upJ (upJ s 48 (vp_updL (s.2 48) (Int32.toNatClampNeg ((s.1 12 0))) x1)) 47 (vp_updL (s.2 47) (Int32.toNatClampNeg ((s.1 12 0))) x3)) 46 (vp_updL (s.2 46) (Int32.toNatClampNeg ((s.1 12 0))) x5))).bind (fun q_4 => if ((s.1 12 0) < 0 ∨ 3600 ≤ Int32.toNatClampNeg ((s.1 12 0))) then none else if (((q_4.2.1 12 0) + 1) < 0 ∨ 3601 ≤ Int32.toNatClampNeg (((q_4.2.1 12 0) + 1))) then none else if (((q_4.2.1 12 0) + 1) < 0 ∨ 3601 ≤ Int32.toNatClampNeg (((q_4.2.1 12 0) + 1))) then none else if (((q_4.2.1 12 0) + 1) < 0 ∨ 3601 ≤ Int32.toNatClampNeg (((q_4.2.1 12 0) + 1))) then none else if (((q_4.2.1 12 0) + 1) < 0 ∨ 3601 ≤ Int32.toNatClampNeg (((q_4.2.1 12 0) + 1))) then none else some ((), upI (upI (upI (upI (upI (upJ q_4.2 45 (vp_updL (q_4.2.2 45) (Int32.toNatClampNeg ((s.1 12 0))) q_4.1)) 12 (fun _ => ((q_4.2.1 12 0) + 1))) 14 (upd (q_4.2.1 14) (Int32.toNatClampNeg (((q_4.2.1 12 0) + 1))) ((q_4.2.1 18 0)))) 15 (upd (q_4.2.1 15) (Int32.toNatClampNeg (((q_4.2.1 12 0) + 1))) ((q_4.2.1 27 0)))) 16 (upd (q_4.2.1 16) (Int32.toNatClampNeg (((q_4.2.1 12 0) + 1))) ((q_4.2.1 35 0)))) 17 (upd (q_4.2.1 17) (Int32.toNatClampNeg (((q_4.2.1 12 0) + 1))) ((q_4.2.1 38 0)))))) else (if (x9 < 0 ∨ 11000 ≤ Int32.toNatClampNeg x9) then none else if (((s.1 28) (Int32.toNatClampNeg x9)) < 0 ∨ 3600 ≤ Int32.toNatClampNeg (((s.1 28) (Int32.toNatClampNeg x9)))) then none else (fn_M_most N ((x1 + ((s.2 48) (Int32.toNatClampNeg (((s.1 28) (Int32.toNatClampNeg x9))))))) s).bind (fun q_3 => if (((s.1 28) (Int32.toNatClampNeg x9)) < 0 ∨ 3600 ≤ Int32.toNatClampNeg (((s.1 28) (Int32.toNatClampNeg x9)))) then none else (fn_M_most N ((x3 + ((q_3.2.2 47) (Int32.toNatClampNeg (((s.1 28) (Int32.toNatClampNeg x9))))))) q_3.2).bind (fun q_7 => if (((s.1 28) (Int32.toNatClampNeg x9)) < 0 ∨ 3600 ≤ Int32.toNatClampNeg (((s.1 28) (Int32.toNatClampNeg x9)))) then none else (fn_M_most N (((x5 + 1) + ((q_7.2.2 46) (Int32.toNatClampNeg (((s.1 28) (Int32.toNatClampNeg x9))))))) q_7.2).bind (fun q_11 => if (((s.1 28) (Int32.toNatClampNeg x9)) < 0 ∨ 3600 ≤ Int32.toNatClampNeg (((s.1 28) (Int32.toNatClampNeg x9)))) then none else (fn_M_most N ((x7 + ((q_11.2.2 45) (Int32.toNatClampNeg (((s.1 28) (Int32.toNatClampNeg x9))))))) q_11.2).bind (fun q_15 => k_376 q_3.1 q_7.1 q_11.1 q_15.1 ((x9 + 1)) q_15.2)))))
def hd_M_module_376 (N : Nat) : Nat → Int64 → Int64 → Int64 → Int64 → Int32 → ms → Option (Unit × ms)
  | 0, _, _, _, _, _, _ => none
  | n + 1, x1, x3, x5, x7, x9, s => bd_M_module_376 N (hd_M_module_376 N n) x1 x3 x5 x7 x9 s
def bd_M_module_299 (N : Nat) (k_299 : Int64 → Int32 → ms → Option (Unit × ms)) (x1 : Int64) (x3 : Int32) (s : ms) : Option (Unit × ms) :=
  if (s.1 18 0) ≤ x3 then (if ((s.1 12 0) < 0 ∨ 3601 ≤ Int32.toNatClampNeg ((s.1 12 0))) then none else if ((s.1 12 0) < 0 ∨ 3600 ≤ Int32.toNatClampNeg ((s.1 12 0))) then none else if ((s.1 12 0) < 0 ∨ 3601 ≤ Int32.toNatClampNeg ((s.1 12 0))) then none else hd_M_module_376 N N x1 ((Int32.toInt64 (((s.1 18 0) - ((s.1 14) (Int32.toNatClampNeg ((s.1 12 0)))))))) 0 (((s.2 45) (Int32.toNatClampNeg ((s.1 12 0))))) (((s.1 15) (Int32.toNatClampNeg ((s.1 12 0))))) s) else ((fn_M_isRegister N x3 s).bind (fun q_1 => if q_1.1 = 0 then (k_299 x1 ((x3 + 1)) q_1.2) else (if (x3 < 0 ∨ 11000 ≤ Int32.toNatClampNeg x3) then none else k_299 ((x1 + (Int32.toInt64 (((q_1.2.1 20) (Int32.toNatClampNeg x3)))))) ((x3 + 1)) q_1.2)))
def hd_M_module_299 (N : Nat) : Nat → Int64 → Int32 → ms → Option (Unit × ms)
  | 0, _, _, _ => none
  | n + 1, x1, x3, s => bd_M_module_299 N (hd_M_module_299 N n) x1 x3 s
def bk_M_module_277 (N : Nat) (s : ms) : Option (Unit × ms) :=
  if ((s.1 12 0) < 0 ∨ 3601 ≤ Int32.toNatClampNeg ((s.1 12 0))) then none else hd_M_module_299 N N 0 (((s.1 14) (Int32.toNatClampNeg ((s.1 12 0))))) (upI s 8 (fun _ => ((s.1 8 0) + 1)))
def bd_M_module_222 (N : Nat) (k_222 : Int32 → ms → Option (Unit × ms)) (x1 : Int32) (s : ms) : Option (Unit × ms) :=
  if (s.1 18 0) ≤ x1 then (bk_M_module_277 N s) else (if (s.1 9 0) = 0 then ((fn_M_isDriven N x1 s).bind (fun q_1 => if q_1.1 = 0 then (k_222 ((x1 + 1)) q_1.2) else (if (x1 < 0 ∨ 11000 ≤ Int32.toNatClampNeg x1) then none else if ((q_1.2.1 23) (Int32.toNatClampNeg x1)) = 0 then (if (x1 < 0 ∨ 11000 ≤ Int32.toNatClampNeg x1) then none else if (((q_1.2.1 19) (Int32.toNatClampNeg x1)) < 0 ∨ 65540 ≤ Int32.toNatClampNeg (((q_1.2.1 19) (Int32.toNatClampNeg x1)))) then none else (fn_M_fail N 33 (((q_1.2.1 5) (Int32.toNatClampNeg (((q_1.2.1 19) (Int32.toNatClampNeg x1)))))) q_1.2).bind (fun q_7 => k_222 ((x1 + 1)) q_7.2)) else (k_222 ((x1 + 1)) q_1.2)))) else (bk_M_module_277 N s))
def hd_M_module_222 (N : Nat) : Nat → Int32 → ms → Option (Unit × ms)
  | 0, _, _ => none
  | n + 1, x1, s => bd_M_module_222 N (hd_M_module_222 N n) x1 s
def bk_M_module_212 (N : Nat) (s : ms) : Option (Unit × ms) :=
  if ((s.1 12 0) < 0 ∨ 3601 ≤ Int32.toNatClampNeg ((s.1 12 0))) then none else hd_M_module_222 N N (((s.1 14) (Int32.toNatClampNeg ((s.1 12 0))))) s
def bk_M_module_209 (N : Nat) (k_188 : ms → Option (Unit × ms)) (s : ms) : Option (Unit × ms) :=
  k_188 s
def bd_M_module_188 (N : Nat) (k_188 : ms → Option (Unit × ms)) (s : ms) : Option (Unit × ms) :=
  if (s.1 9 0) = 0 then ((fn_M_kind N s).bind (fun q_1 => if q_1.1 = 301 then (bk_M_module_212 N q_1.2) else ((fn_M_item N q_1.2).bind (fun q_4 => bk_M_module_209 N k_188 q_4.2)))) else (bk_M_module_212 N s)
def hd_M_module_188 (N : Nat) : Nat → ms → Option (Unit × ms)
  | 0, _ => none
  | n + 1, s => bd_M_module_188 N (hd_M_module_188 N n) s
def bd_M_module_125 (N : Nat) (k_125 : ms → Option (Unit × ms)) (s : ms) : Option (Unit × ms) :=
  (fn_M_is N 302 s).bind (fun q_1 => if q_1.1 = 0 then ((fn_M_is N 303 q_1.2).bind (fun q_4 => if q_4.1 = 0 then (hd_M_module_188 N N (upI q_4.2 8 (fun _ => ((q_4.2.1 8 0) + 2)))) else (bk_M_module_145 N k_125 q_4.2))) else (bk_M_module_145 N k_125 q_1.2))
def hd_M_module_125 (N : Nat) : Nat → ms → Option (Unit × ms)
  | 0, _ => none
  | n + 1, s => bd_M_module_125 N (hd_M_module_125 N n) s
def bk_M_module_40 (N : Nat) (s : ms) : Option (Unit × ms) :=
  if ((s.1 12 0) < 0 ∨ 3600 ≤ Int32.toNatClampNeg ((s.1 12 0))) then none else if ((s.1 12 0) < 0 ∨ 3601 ≤ Int32.toNatClampNeg ((s.1 12 0))) then none else if ((s.1 12 0) < 0 ∨ 3601 ≤ Int32.toNatClampNeg ((s.1 12 0))) then none else if ((s.1 12 0) < 0 ∨ 3601 ≤ Int32.toNatClampNeg ((s.1 12 0))) then none else if ((s.1 12 0) < 0 ∨ 3601 ≤ Int32.toNatClampNeg ((s.1 12 0))) then none else if ((s.1 12 0) < 0 ∨ 3600 ≤ Int32.toNatClampNeg ((s.1 12 0))) then none else hd_M_module_125 N N (upI (upJ (upI (upI (upI (upI (upI s 13 (upd (s.1 13) (Int32.toNatClampNeg ((s.1 12 0))) ((s.1 8 0)))) 14 (upd (s.1 14) (Int32.toNatClampNeg ((s.1 12 0))) ((s.1 18 0)))) 15 (upd (s.1 15) (Int32.toNatClampNeg ((s.1 12 0))) ((s.1 27 0)))) 16 (upd (s.1 16) (Int32.toNatClampNeg ((s.1 12 0))) ((s.1 35 0)))) 17 (upd (s.1 17) (Int32.toNatClampNeg ((s.1 12 0))) ((s.1 38 0)))) 45 (vp_updL (s.2 45) (Int32.toNatClampNeg ((s.1 12 0))) 0)) 8 (fun _ => ((s.1 8 0) + 2)))
def fn_M_module (N : Nat) (s1 : ms) : Option (Unit × ms) :=
  (fn_M_moduleNamed N (((s1.1 8 0) + 1)) ((s1.1 12 0)) (upI s1 8 (fun _ => ((s1.1 8 0) + 1)))).bind (fun q_1 => if q_1.1 < 0 then (bk_M_module_40 N q_1.2) else (if ((q_1.2.1 8 0) < 0 ∨ 65540 ≤ Int32.toNatClampNeg ((q_1.2.1 8 0))) then none else (fn_M_fail N 20 (((q_1.2.1 5) (Int32.toNatClampNeg ((q_1.2.1 8 0))))) q_1.2).bind (fun q_5 => bk_M_module_40 N q_5.2)))
def bk_M_design_83 (N : Nat) (k_62 : ms → Option (Unit × ms)) (s : ms) : Option (Unit × ms) :=
  k_62 s
def bd_M_design_62 (N : Nat) (k_62 : ms → Option (Unit × ms)) (s : ms) : Option (Unit × ms) :=
  if (s.1 9 0) = 0 then ((fn_M_kind N s).bind (fun q_1 => if q_1.1 = 403 then (some ((), q_1.2)) else ((fn_M_module N q_1.2).bind (fun q_4 => bk_M_design_83 N k_62 q_4.2)))) else (some ((), s))
def hd_M_design_62 (N : Nat) : Nat → ms → Option (Unit × ms)
  | 0, _ => none
  | n + 1, s => bd_M_design_62 N (hd_M_design_62 N n) s
def fn_M_design (N : Nat) (s1 : ms) : Option (Unit × ms) :=
  hd_M_design_62 N N (upI (upI (upI (upI (upI (upI (upI (upI (upI (upI (upI (upI s1 8 (fun _ => 0)) 12 (fun _ => 0)) 18 (fun _ => 0)) 27 (fun _ => 0)) 31 (fun _ => 0)) 35 (fun _ => 0)) 38 (fun _ => 0)) 42 (fun _ => 0)) 44 (fun _ => 0)) 51 (fun _ => 0)) 53 (fun _ => 0)) 30 (upd (s1.1 30) 0 0))
def fn_M_bound (N : Nat) (v1 : Int32) (v2 : Int32) (v3 : Int32) (s : ms) : Option (Unit × ms) :=
  if v1 = 0 then ((fn_M_fail N v2 v3 s).bind (fun q_1 => some ((), q_1.2))) else (some ((), s))
def bk_M_limits_291 (N : Nat) (x2 : Int32) (t0 : Int32) (s : ms) : Option (Unit × ms) :=
  (fn_M_bound N t0 46 x2 s).bind (fun q_1 => some ((), q_1.2))
def bk_M_limits_286 (N : Nat) (x2 : Int32) (s : ms) : Option (Unit × ms) :=
  bk_M_limits_291 N x2 1 s
def bk_M_limits_260 (N : Nat) (x2 : Int32) (x5 : Int64) (x7 : Int64) (t0 : Int32) (s : ms) : Option (Unit × ms) :=
  (fn_M_bound N t0 44 x2 s).bind (fun q_1 => if (q_1.2.1 9 0) = 0 then (if 0 < (lg_cmp ((x5 * x7)) 16777216) then (bk_M_limits_291 N x2 0 q_1.2) else (bk_M_limits_286 N x2 q_1.2)) else (bk_M_limits_286 N x2 q_1.2))
def bk_M_limits_235 (N : Nat) (x1 : Int32) (x2 : Int32) (x5 : Int64) (x7 : Int64) (t0 : Int32) (s : ms) : Option (Unit × ms) :=
  (fn_M_bound N t0 43 x2 s).bind (fun q_1 => if (x1 < 0 ∨ 3600 ≤ Int32.toNatClampNeg x1) then none else if 0 < (lg_cmp (((q_1.2.2 45) (Int32.toNatClampNeg x1))) 1500) then (bk_M_limits_260 N x2 x5 x7 0 q_1.2) else (bk_M_limits_260 N x2 x5 x7 1 q_1.2))
def bk_M_limits_215 (N : Nat) (x1 : Int32) (x2 : Int32) (x3 : Int64) (x5 : Int64) (x7 : Int64) (t0 : Int32) (s : ms) : Option (Unit × ms) :=
  (fn_M_bound N t0 42 x2 s).bind (fun q_1 => if 0 < (lg_cmp x3 6) then (bk_M_limits_235 N x1 x2 x5 x7 0 q_1.2) else (bk_M_limits_235 N x1 x2 x5 x7 1 q_1.2))
def bk_M_limits_190 (N : Nat) (x1 : Int32) (x2 : Int32) (x3 : Int64) (x5 : Int64) (x7 : Int64) (t0 : Int32) (s : ms) : Option (Unit × ms) :=
  (fn_M_bound N t0 41 x2 s).bind (fun q_1 => if (x1 < 0 ∨ 3600 ≤ Int32.toNatClampNeg x1) then none else if 0 < (lg_cmp (((q_1.2.2 48) (Int32.toNatClampNeg x1))) 12) then (bk_M_limits_215 N x1 x2 x3 x5 x7 0 q_1.2) else (bk_M_limits_215 N x1 x2 x3 x5 x7 1 q_1.2))
def bk_M_limits_165 (N : Nat) (x1 : Int32) (x2 : Int32) (x3 : Int64) (x5 : Int64) (x7 : Int64) (t0 : Int32) (s : ms) : Option (Unit × ms) :=
  (fn_M_bound N t0 40 x2 s).bind (fun q_1 => if (x1 < 0 ∨ 3600 ≤ Int32.toNatClampNeg x1) then none else if 0 < (lg_cmp (((q_1.2.2 47) (Int32.toNatClampNeg x1))) 1024) then (bk_M_limits_190 N x1 x2 x3 x5 x7 0 q_1.2) else (bk_M_limits_190 N x1 x2 x3 x5 x7 1 q_1.2))
def bk_M_limits_144 (N : Nat) (x1 : Int32) (x2 : Int32) (x3 : Int64) (x5 : Int64) (t0 : Int64) (s : ms) : Option (Unit × ms) :=
  if (x1 < 0 ∨ 3600 ≤ Int32.toNatClampNeg x1) then none else if 0 < (lg_cmp (((s.2 46) (Int32.toNatClampNeg x1))) 256) then (bk_M_limits_165 N x1 x2 x3 x5 t0 0 s) else (bk_M_limits_165 N x1 x2 x3 x5 t0 1 s)
def bk_M_limits_118 (N : Nat) (x1 : Int32) (x2 : Int32) (x3 : Int64) (t0 : Int64) (t1 : Int32) (t2 : Int64) (s : ms) : Option (Unit × ms) :=
  if (x1 < 0 ∨ 3600 ≤ Int32.toNatClampNeg x1) then none else if (lg_cmp (((s.2 45) (Int32.toNatClampNeg x1))) 1) ≤ 0 then (bk_M_limits_144 N x1 x2 x3 (((t2 : Int64) <<< ((Int32.toInt64 ((t1 + (Int64.toInt32 t0)))) &&& 63))) 1 s) else (if (x1 < 0 ∨ 3600 ≤ Int32.toNatClampNeg x1) then none else bk_M_limits_144 N x1 x2 x3 (((t2 : Int64) <<< ((Int32.toInt64 ((t1 + (Int64.toInt32 t0)))) &&& 63))) (((s.2 45) (Int32.toNatClampNeg x1))) s)
def bk_M_limits_102 (N : Nat) (x1 : Int32) (x2 : Int32) (x3 : Int64) (t0 : Int64) (t1 : Int64) (s : ms) : Option (Unit × ms) :=
  if (lg_cmp x3 20) ≤ 0 then (bk_M_limits_118 N x1 x2 x3 x3 ((Int64.toInt32 t0)) t1 s) else (bk_M_limits_118 N x1 x2 x3 20 ((Int64.toInt32 t0)) t1 s)
def bd_M_limits_29 (N : Nat) (k_29 : Int32 → Int32 → Int64 → Int32 → ms → Option (Unit × ms)) (x1 : Int32) (x2 : Int32) (x3 : Int64) (x5 : Int32) (s : ms) : Option (Unit × ms) :=
  if ((x1 + 1) < 0 ∨ 3601 ≤ Int32.toNatClampNeg ((x1 + 1))) then none else if ((s.1 14) (Int32.toNatClampNeg ((x1 + 1)))) ≤ x5 then (if (x1 < 0 ∨ 3600 ≤ Int32.toNatClampNeg x1) then none else (fn_M_most N (((s.2 48) (Int32.toNatClampNeg x1))) s).bind (fun q_3 => if (lg_cmp q_3.1 40) ≤ 0 then (if (x1 < 0 ∨ 3600 ≤ Int32.toNatClampNeg x1) then none else bk_M_limits_102 N x1 x2 x3 (((q_3.2.2 48) (Int32.toNatClampNeg x1))) 1 q_3.2) else (bk_M_limits_102 N x1 x2 x3 40 1 q_3.2))) else (if (x5 < 0 ∨ 11000 ≤ Int32.toNatClampNeg x5) then none else if ((s.1 21) (Int32.toNatClampNeg x5)) = 0 then (if (x5 < 0 ∨ 11000 ≤ Int32.toNatClampNeg x5) then none else k_29 x1 x2 ((x3 + (Int32.toInt64 (((s.1 20) (Int32.toNatClampNeg x5)))))) ((x5 + 1)) s) else (k_29 x1 x2 x3 ((x5 + 1)) s))
def hd_M_limits_29 (N : Nat) : Nat → Int32 → Int32 → Int64 → Int32 → ms → Option (Unit × ms)
  | 0, _, _, _, _, _ => none
  | n + 1, x1, x2, x3, x5, s => bd_M_limits_29 N (hd_M_limits_29 N n) x1 x2 x3 x5 s
def fn_M_limits (N : Nat) (s : ms) : Option (Unit × ms) :=
  if (((s.1 12 0) - 1) < 0 ∨ 3600 ≤ Int32.toNatClampNeg (((s.1 12 0) - 1))) then none else if (((s.1 13) (Int32.toNatClampNeg (((s.1 12 0) - 1)))) < 0 ∨ 65540 ≤ Int32.toNatClampNeg (((s.1 13) (Int32.toNatClampNeg (((s.1 12 0) - 1)))))) then none else if (((s.1 12 0) - 1) < 0 ∨ 3601 ≤ Int32.toNatClampNeg (((s.1 12 0) - 1))) then none else hd_M_limits_29 N N (((s.1 12 0) - 1)) (((s.1 5) (Int32.toNatClampNeg (((s.1 13) (Int32.toNatClampNeg (((s.1 12 0) - 1)))))))) 0 (((s.1 14) (Int32.toNatClampNeg (((s.1 12 0) - 1))))) s
def bd_M_begin_51 (N : Nat) (k_51 : Int32 → Int32 → ms → Option (Unit × ms)) (x1 : Int32) (x4 : Int32) (s : ms) : Option (Unit × ms) :=
  if ((x1 + 1) < 0 ∨ 3601 ≤ Int32.toNatClampNeg ((x1 + 1))) then none else if ((s.1 14) (Int32.toNatClampNeg ((x1 + 1)))) ≤ x4 then (some ((), upI s 56 (fun _ => ((s.1 56 0) + 1)))) else (if ((s.1 63 0) < 0 ∨ 1100 ≤ Int32.toNatClampNeg ((s.1 63 0))) then none else if ((s.1 63 0) < 0 ∨ 1100 ≤ Int32.toNatClampNeg ((s.1 63 0))) then none else k_51 x1 ((x4 + 1)) (upI (upI (upI s 64 (upd (s.1 64) (Int32.toNatClampNeg ((s.1 63 0))) x4)) 65 (upd (s.1 65) (Int32.toNatClampNeg ((s.1 63 0))) ((s.1 56 0)))) 63 (fun _ => ((s.1 63 0) + 1))))
def hd_M_begin_51 (N : Nat) : Nat → Int32 → Int32 → ms → Option (Unit × ms)
  | 0, _, _, _ => none
  | n + 1, x1, x4, s => bd_M_begin_51 N (hd_M_begin_51 N n) x1 x4 s
def fn_M_begin (N : Nat) (v1 : Int32) (v2 : Int32) (v3 : Int32) (s : ms) : Option (Unit × ms) :=
  if ((s.1 56 0) < 0 ∨ 260 ≤ Int32.toNatClampNeg ((s.1 56 0))) then none else if ((s.1 56 0) < 0 ∨ 260 ≤ Int32.toNatClampNeg ((s.1 56 0))) then none else if ((s.1 56 0) < 0 ∨ 260 ≤ Int32.toNatClampNeg ((s.1 56 0))) then none else if ((s.1 56 0) < 0 ∨ 260 ≤ Int32.toNatClampNeg ((s.1 56 0))) then none else if (v1 < 0 ∨ 3601 ≤ Int32.toNatClampNeg v1) then none else hd_M_begin_51 N N v1 (((s.1 14) (Int32.toNatClampNeg v1))) (upI (upI (upI (upI s 57 (upd (s.1 57) (Int32.toNatClampNeg ((s.1 56 0))) v1)) 58 (upd (s.1 58) (Int32.toNatClampNeg ((s.1 56 0))) ((s.1 63 0)))) 59 (upd (s.1 59) (Int32.toNatClampNeg ((s.1 56 0))) v2)) 60 (upd (s.1 60) (Int32.toNatClampNeg ((s.1 56 0))) v3))
def fn_M_signalOf (N : Nat) (v1 : Int32) (v2 : Int32) (s : ms) : Option (Int32 × ms) :=
  if (v1 < 0 ∨ 260 ≤ Int32.toNatClampNeg v1) then none else if (v1 < 0 ∨ 260 ≤ Int32.toNatClampNeg v1) then none else if (((s.1 57) (Int32.toNatClampNeg v1)) < 0 ∨ 3601 ≤ Int32.toNatClampNeg (((s.1 57) (Int32.toNatClampNeg v1)))) then none else some (((((s.1 58) (Int32.toNatClampNeg v1)) + v2) - ((s.1 14) (Int32.toNatClampNeg (((s.1 57) (Int32.toNatClampNeg v1)))))), s)
def bd_M_findRule_178 (N : Nat) (k_178 : Int32 → Int32 → Int32 → Int32 → ms → Option (Unit × ms)) (x1 : Int32) (x2 : Int32) (x3 : Int32) (x4 : Int32) (s : ms) : Option (Unit × ms) :=
  if (x4 < 0 ∨ 260 ≤ Int32.toNatClampNeg x4) then none else if ((s.1 59) (Int32.toNatClampNeg x4)) = x3 then (if (x4 < 0 ∨ 260 ≤ Int32.toNatClampNeg x4) then none else if (x2 < 0 ∨ 11000 ≤ Int32.toNatClampNeg x2) then none else if ((s.1 60) (Int32.toNatClampNeg x4)) = ((s.1 24) (Int32.toNatClampNeg x2)) then (if (x1 < 0 ∨ 1100 ≤ Int32.toNatClampNeg x1) then none else if (x2 < 0 ∨ 11000 ≤ Int32.toNatClampNeg x2) then none else (fn_M_signalOf N x4 (((s.1 25) (Int32.toNatClampNeg x2))) (upI s 66 (upd (s.1 66) (Int32.toNatClampNeg x1) 2))).bind (fun q_6 => if (x1 < 0 ∨ 1100 ≤ Int32.toNatClampNeg x1) then none else some ((), upI q_6.2 67 (upd (q_6.2.1 67) (Int32.toNatClampNeg x1) q_6.1)))) else (k_178 x1 x2 x3 ((x4 + 1)) s)) else (k_178 x1 x2 x3 ((x4 + 1)) s)
def hd_M_findRule_178 (N : Nat) : Nat → Int32 → Int32 → Int32 → Int32 → ms → Option (Unit × ms)
  | 0, _, _, _, _, _ => none
  | n + 1, x1, x2, x3, x4, s => bd_M_findRule_178 N (hd_M_findRule_178 N n) x1 x2 x3 x4 s
def bk_M_findRule_167 (N : Nat) (x1 : Int32) (x2 : Int32) (x3 : Int32) (s : ms) : Option (Unit × ms) :=
  (fn_M_isDriven N x2 s).bind (fun q_1 => if q_1.1 = 0 then (some ((), q_1.2)) else (hd_M_findRule_178 N N x1 x2 x3 0 q_1.2))
def bk_M_findRule_108 (N : Nat) (x1 : Int32) (x2 : Int32) (x3 : Int32) (s : ms) : Option (Unit × ms) :=
  (fn_M_isDriven N x2 s).bind (fun q_1 => if q_1.1 = 0 then (bk_M_findRule_167 N x1 x2 x3 q_1.2) else (if (x2 < 0 ∨ 11000 ≤ Int32.toNatClampNeg x2) then none else if ((q_1.2.1 23) (Int32.toNatClampNeg x2)) = 1 then (if (x1 < 0 ∨ 1100 ≤ Int32.toNatClampNeg x1) then none else if (x2 < 0 ∨ 11000 ≤ Int32.toNatClampNeg x2) then none else if (x1 < 0 ∨ 1100 ≤ Int32.toNatClampNeg x1) then none else if (x2 < 0 ∨ 11000 ≤ Int32.toNatClampNeg x2) then none else if (x1 < 0 ∨ 1100 ≤ Int32.toNatClampNeg x1) then none else if (x1 < 0 ∨ 1100 ≤ Int32.toNatClampNeg x1) then none else some ((), upI (upI (upI (upI q_1.2 66 (upd (q_1.2.1 66) (Int32.toNatClampNeg x1) 1)) 67 (upd (q_1.2.1 67) (Int32.toNatClampNeg x1) (((q_1.2.1 24) (Int32.toNatClampNeg x2))))) 68 (upd (q_1.2.1 68) (Int32.toNatClampNeg x1) (((q_1.2.1 25) (Int32.toNatClampNeg x2))))) 69 (upd (q_1.2.1 69) (Int32.toNatClampNeg x1) x3))) else (bk_M_findRule_167 N x1 x2 x3 q_1.2)))
def fn_M_findRule (N : Nat) (v1 : Int32) (s : ms) : Option (Unit × ms) :=
  if (v1 < 0 ∨ 1100 ≤ Int32.toNatClampNeg v1) then none else if (v1 < 0 ∨ 1100 ≤ Int32.toNatClampNeg v1) then none else if (v1 < 0 ∨ 1100 ≤ Int32.toNatClampNeg v1) then none else if (((s.1 64) (Int32.toNatClampNeg v1)) < 0 ∨ 11000 ≤ Int32.toNatClampNeg (((s.1 64) (Int32.toNatClampNeg v1)))) then none else if ((s.1 21) (Int32.toNatClampNeg (((s.1 64) (Int32.toNatClampNeg v1))))) = 0 then (if ((s.1 65) (Int32.toNatClampNeg v1)) ≤ 0 then (bk_M_findRule_108 N v1 (((s.1 64) (Int32.toNatClampNeg v1))) (((s.1 65) (Int32.toNatClampNeg v1))) (upI s 66 (upd (s.1 66) (Int32.toNatClampNeg v1) 0))) else (if (((s.1 65) (Int32.toNatClampNeg v1)) < 0 ∨ 260 ≤ Int32.toNatClampNeg (((s.1 65) (Int32.toNatClampNeg v1)))) then none else if (((s.1 65) (Int32.toNatClampNeg v1)) < 0 ∨ 260 ≤ Int32.toNatClampNeg (((s.1 65) (Int32.toNatClampNeg v1)))) then none else if ((((s.1 60) (Int32.toNatClampNeg (((s.1 65) (Int32.toNatClampNeg v1))))) + 1) < 0 ∨ 11001 ≤ Int32.toNatClampNeg ((((s.1 60) (Int32.toNatClampNeg (((s.1 65) (Int32.toNatClampNeg v1))))) + 1))) then none else (fn_M_linkOf N (((s.1 60) (Int32.toNatClampNeg (((s.1 65) (Int32.toNatClampNeg v1)))))) (((s.1 30) (Int32.toNatClampNeg ((((s.1 60) (Int32.toNatClampNeg (((s.1 65) (Int32.toNatClampNeg v1))))) + 1))))) (((s.1 64) (Int32.toNatClampNeg v1))) (upI s 66 (upd (s.1 66) (Int32.toNatClampNeg v1) 0))).bind (fun q_8 => if (v1 < 0 ∨ 1100 ≤ Int32.toNatClampNeg v1) then none else if (q_8.1 < 0 ∨ 11000 ≤ Int32.toNatClampNeg q_8.1) then none else if (v1 < 0 ∨ 1100 ≤ Int32.toNatClampNeg v1) then none else if (q_8.1 < 0 ∨ 11000 ≤ Int32.toNatClampNeg q_8.1) then none else if (v1 < 0 ∨ 1100 ≤ Int32.toNatClampNeg v1) then none else if (((s.1 65) (Int32.toNatClampNeg v1)) < 0 ∨ 260 ≤ Int32.toNatClampNeg (((s.1 65) (Int32.toNatClampNeg v1)))) then none else if (v1 < 0 ∨ 1100 ≤ Int32.toNatClampNeg v1) then none else some ((), upI (upI (upI (upI q_8.2 66 (upd (q_8.2.1 66) (Int32.toNatClampNeg v1) 1)) 67 (upd (q_8.2.1 67) (Int32.toNatClampNeg v1) (((q_8.2.1 33) (Int32.toNatClampNeg q_8.1))))) 68 (upd (q_8.2.1 68) (Int32.toNatClampNeg v1) (((q_8.2.1 34) (Int32.toNatClampNeg q_8.1))))) 69 (upd (q_8.2.1 69) (Int32.toNatClampNeg v1) (((q_8.2.1 59) (Int32.toNatClampNeg (((s.1 65) (Int32.toNatClampNeg v1))))))))))) else (bk_M_findRule_108 N v1 (((s.1 64) (Int32.toNatClampNeg v1))) (((s.1 65) (Int32.toNatClampNeg v1))) (upI s 66 (upd (s.1 66) (Int32.toNatClampNeg v1) 0)))
def bd_M_writeOut_155 (N : Nat) (k_155 : Int32 → ms → Option (Unit × ms)) (x2 : Int32) (s : ms) : Option (Unit × ms) :=
  if (s.1 63 0) ≤ x2 then (some ((), s)) else ((fn_M_findRule N x2 s).bind (fun q_1 => k_155 ((x2 + 1)) q_1.2))
def hd_M_writeOut_155 (N : Nat) : Nat → Int32 → ms → Option (Unit × ms)
  | 0, _, _ => none
  | n + 1, x2, s => bd_M_writeOut_155 N (hd_M_writeOut_155 N n) x2 s
def bd_M_writeOut_50 (N : Nat) (k_50 : Int32 → ms → Option (Unit × ms)) (x1 : Int32) (s : ms) : Option (Unit × ms) :=
  if x1 ≤ 0 then (hd_M_writeOut_155 N N 0 s) else (if ((x1 - 1) < 0 ∨ 260 ≤ Int32.toNatClampNeg ((x1 - 1))) then none else if ((x1 - 1) < 0 ∨ 260 ≤ Int32.toNatClampNeg ((x1 - 1))) then none else if (((s.1 61) (Int32.toNatClampNeg ((x1 - 1)))) < 0 ∨ 260 ≤ Int32.toNatClampNeg (((s.1 61) (Int32.toNatClampNeg ((x1 - 1)))))) then none else if ((((s.1 57) (Int32.toNatClampNeg (((s.1 61) (Int32.toNatClampNeg ((x1 - 1))))))) + 1) < 0 ∨ 3601 ≤ Int32.toNatClampNeg ((((s.1 57) (Int32.toNatClampNeg (((s.1 61) (Int32.toNatClampNeg ((x1 - 1))))))) + 1))) then none else if ((s.1 62) (Int32.toNatClampNeg ((x1 - 1)))) = ((s.1 15) (Int32.toNatClampNeg ((((s.1 57) (Int32.toNatClampNeg (((s.1 61) (Int32.toNatClampNeg ((x1 - 1))))))) + 1)))) then (k_50 ((x1 + (-1))) s) else (if ((x1 - 1) < 0 ∨ 260 ≤ Int32.toNatClampNeg ((x1 - 1))) then none else if (((s.1 62) (Int32.toNatClampNeg ((x1 - 1)))) < 0 ∨ 11000 ≤ Int32.toNatClampNeg (((s.1 62) (Int32.toNatClampNeg ((x1 - 1)))))) then none else (fn_M_begin N (((s.1 28) (Int32.toNatClampNeg (((s.1 62) (Int32.toNatClampNeg ((x1 - 1)))))))) (((s.1 61) (Int32.toNatClampNeg ((x1 - 1))))) (((s.1 62) (Int32.toNatClampNeg ((x1 - 1))))) (upI s 62 (upd (s.1 62) (Int32.toNatClampNeg ((x1 - 1))) ((((s.1 62) (Int32.toNatClampNeg ((x1 - 1)))) + 1))))).bind (fun q_7 => if (x1 < 0 ∨ 260 ≤ Int32.toNatClampNeg x1) then none else if (((s.1 62) (Int32.toNatClampNeg ((x1 - 1)))) < 0 ∨ 11000 ≤ Int32.toNatClampNeg (((s.1 62) (Int32.toNatClampNeg ((x1 - 1)))))) then none else if (((q_7.2.1 28) (Int32.toNatClampNeg (((s.1 62) (Int32.toNatClampNeg ((x1 - 1))))))) < 0 ∨ 3601 ≤ Int32.toNatClampNeg (((q_7.2.1 28) (Int32.toNatClampNeg (((s.1 62) (Int32.toNatClampNeg ((x1 - 1))))))))) then none else if (x1 < 0 ∨ 260 ≤ Int32.toNatClampNeg x1) then none else k_50 ((x1 + 1)) (upI (upI q_7.2 61 (upd (q_7.2.1 61) (Int32.toNatClampNeg x1) (((q_7.2.1 56 0) - 1)))) 62 (upd (q_7.2.1 62) (Int32.toNatClampNeg x1) (((q_7.2.1 15) (Int32.toNatClampNeg (((q_7.2.1 28) (Int32.toNatClampNeg (((s.1 62) (Int32.toNatClampNeg ((x1 - 1))))))))))))))))
def hd_M_writeOut_50 (N : Nat) : Nat → Int32 → ms → Option (Unit × ms)
  | 0, _, _ => none
  | n + 1, x1, s => bd_M_writeOut_50 N (hd_M_writeOut_50 N n) x1 s
def fn_M_writeOut (N : Nat) (s : ms) : Option (Unit × ms) :=
  (fn_M_begin N (((s.1 12 0) - 1)) ((-1)) ((-1)) (upI (upI s 56 (fun _ => 0)) 63 (fun _ => 0))).bind (fun q_1 => if (((q_1.2.1 12 0) - 1) < 0 ∨ 3601 ≤ Int32.toNatClampNeg (((q_1.2.1 12 0) - 1))) then none else hd_M_writeOut_50 N N 1 (upI (upI q_1.2 61 (upd (q_1.2.1 61) 0 0)) 62 (upd (q_1.2.1 62) 0 (((q_1.2.1 15) (Int32.toNatClampNeg (((q_1.2.1 12 0) - 1))))))))
def bk_M_dependsOnItself_177 (N : Nat) (k_34 : Int32 → Int32 → Int32 → ms → Option (Int32 × ms)) (k_114 : Int32 → Int32 → Int32 → Int32 → Int32 → Int32 → ms → Option (Int32 × ms)) (x1 : Int32) (x2 : Int32) (x3 : Int32) (x4 : Int32) (x6 : Int32) (x7 : Int32) (t0 : Int32) (s : ms) : Option (Int32 × ms) :=
  if t0 = x1 then (some (1, s)) else (if t0 < 0 then (k_114 x1 x2 x3 x4 x6 ((x7 + 3)) s) else (if (t0 < 0 ∨ 1100 ≤ Int32.toNatClampNeg t0) then none else if ((s.1 73) (Int32.toNatClampNeg t0)) = 0 then (if (t0 < 0 ∨ 1100 ≤ Int32.toNatClampNeg t0) then none else if (x2 < 0 ∨ 1100 ≤ Int32.toNatClampNeg x2) then none else k_114 x1 ((x2 + 1)) x3 x4 x6 ((x7 + 3)) (upI (upI s 73 (upd (s.1 73) (Int32.toNatClampNeg t0) (vp_nar .boolean 1))) 74 (upd (s.1 74) (Int32.toNatClampNeg x2) t0))) else (k_114 x1 x2 x3 x4 x6 ((x7 + 3)) s)))
def bd_M_dependsOnItself_114 (N : Nat) (k_34 : Int32 → Int32 → Int32 → ms → Option (Int32 × ms)) (k_114 : Int32 → Int32 → Int32 → Int32 → Int32 → Int32 → ms → Option (Int32 × ms)) (x1 : Int32) (x2 : Int32) (x3 : Int32) (x4 : Int32) (x6 : Int32) (x7 : Int32) (s : ms) : Option (Int32 × ms) :=
  if x6 ≤ x7 then (k_34 x1 x2 ((x3 + 1)) s) else (if (x4 < 0 ∨ 1100 ≤ Int32.toNatClampNeg x4) then none else if ((s.1 66) (Int32.toNatClampNeg x4)) = 2 then (if (x4 < 0 ∨ 1100 ≤ Int32.toNatClampNeg x4) then none else bk_M_dependsOnItself_177 N k_34 k_114 x1 x2 x3 x4 x6 x7 (((s.1 67) (Int32.toNatClampNeg x4))) s) else (if (x7 < 0 ∨ (s.1 91 0).toNatClampNeg ≤ Int32.toNatClampNeg x7) then none else if ((s.1 41) (Int32.toNatClampNeg x7)) = 1 then (if (x4 < 0 ∨ 1100 ≤ Int32.toNatClampNeg x4) then none else if ((x7 + 1) < 0 ∨ (s.1 91 0).toNatClampNeg ≤ Int32.toNatClampNeg ((x7 + 1))) then none else (fn_M_signalOf N (((s.1 69) (Int32.toNatClampNeg x4))) (((s.1 41) (Int32.toNatClampNeg ((x7 + 1))))) s).bind (fun q_5 => bk_M_dependsOnItself_177 N k_34 k_114 x1 x2 x3 x4 x6 x7 q_5.1 q_5.2)) else (bk_M_dependsOnItself_177 N k_34 k_114 x1 x2 x3 x4 x6 x7 ((-1)) s)))
def hd_M_dependsOnItself_114 (N : Nat) (k_34 : Int32 → Int32 → Int32 → ms → Option (Int32 × ms)) : Nat → Int32 → Int32 → Int32 → Int32 → Int32 → Int32 → ms → Option (Int32 × ms)
  | 0, _, _, _, _, _, _, _ => none
  | n + 1, x1, x2, x3, x4, x6, x7, s => bd_M_dependsOnItself_114 N k_34 (hd_M_dependsOnItself_114 N k_34 n) x1 x2 x3 x4 x6 x7 s
def bk_M_dependsOnItself_69 (N : Nat) (k_34 : Int32 → Int32 → Int32 → ms → Option (Int32 × ms)) (x1 : Int32) (x2 : Int32) (x3 : Int32) (x4 : Int32) (t0 : Int32) (s : ms) : Option (Int32 × ms) :=
  if (x4 < 0 ∨ 1100 ≤ Int32.toNatClampNeg x4) then none else if ((s.1 66) (Int32.toNatClampNeg x4)) = 1 then (if (x4 < 0 ∨ 1100 ≤ Int32.toNatClampNeg x4) then none else hd_M_dependsOnItself_114 N k_34 N x1 x2 x3 x4 (((s.1 68) (Int32.toNatClampNeg x4))) t0 s) else (if (x4 < 0 ∨ 1100 ≤ Int32.toNatClampNeg x4) then none else if ((s.1 66) (Int32.toNatClampNeg x4)) = 2 then (hd_M_dependsOnItself_114 N k_34 N x1 x2 x3 x4 3 t0 s) else (hd_M_dependsOnItself_114 N k_34 N x1 x2 x3 x4 0 t0 s))
def bd_M_dependsOnItself_34 (N : Nat) (k_34 : Int32 → Int32 → Int32 → ms → Option (Int32 × ms)) (x1 : Int32) (x2 : Int32) (x3 : Int32) (s : ms) : Option (Int32 × ms) :=
  if x2 ≤ x3 then (some (0, s)) else (if (x3 < 0 ∨ 1100 ≤ Int32.toNatClampNeg x3) then none else if (((s.1 74) (Int32.toNatClampNeg x3)) < 0 ∨ 1100 ≤ Int32.toNatClampNeg (((s.1 74) (Int32.toNatClampNeg x3)))) then none else if ((s.1 66) (Int32.toNatClampNeg (((s.1 74) (Int32.toNatClampNeg x3))))) = 1 then (if (((s.1 74) (Int32.toNatClampNeg x3)) < 0 ∨ 1100 ≤ Int32.toNatClampNeg (((s.1 74) (Int32.toNatClampNeg x3)))) then none else bk_M_dependsOnItself_69 N k_34 x1 x2 x3 (((s.1 74) (Int32.toNatClampNeg x3))) (((s.1 67) (Int32.toNatClampNeg (((s.1 74) (Int32.toNatClampNeg x3)))))) s) else (bk_M_dependsOnItself_69 N k_34 x1 x2 x3 (((s.1 74) (Int32.toNatClampNeg x3))) 0 s))
def hd_M_dependsOnItself_34 (N : Nat) : Nat → Int32 → Int32 → Int32 → ms → Option (Int32 × ms)
  | 0, _, _, _, _ => none
  | n + 1, x1, x2, x3, s => bd_M_dependsOnItself_34 N (hd_M_dependsOnItself_34 N n) x1 x2 x3 s
def bd_M_dependsOnItself_2 (N : Nat) (k_2 : Int32 → Int32 → ms → Option (Int32 × ms)) (x1 : Int32) (x2 : Int32) (s : ms) : Option (Int32 × ms) :=
  if (s.1 63 0) ≤ x2 then (hd_M_dependsOnItself_34 N N x1 1 0 (upI s 74 (upd (s.1 74) 0 x1))) else (if (x2 < 0 ∨ 1100 ≤ Int32.toNatClampNeg x2) then none else k_2 x1 ((x2 + 1)) (upI s 73 (upd (s.1 73) (Int32.toNatClampNeg x2) (vp_nar .boolean 0))))
def hd_M_dependsOnItself_2 (N : Nat) : Nat → Int32 → Int32 → ms → Option (Int32 × ms)
  | 0, _, _, _ => none
  | n + 1, x1, x2, s => bd_M_dependsOnItself_2 N (hd_M_dependsOnItself_2 N n) x1 x2 s
def fn_M_dependsOnItself (N : Nat) (v1 : Int32) (s : ms) : Option (Int32 × ms) :=
  hd_M_dependsOnItself_2 N N v1 0 s
def bk_M_canBe_81 (N : Nat) (k_31 : Int32 → Int32 → Int32 → ms → Option (Int32 × ms)) (x1 : Int32) (x3 : Int32) (s : ms) : Option (Int32 × ms) :=
  k_31 x1 1 ((x3 + 3)) s
def bd_M_canBe_31 (N : Nat) (k_31 : Int32 → Int32 → Int32 → ms → Option (Int32 × ms)) (x1 : Int32) (x2 : Int32) (x3 : Int32) (s : ms) : Option (Int32 × ms) :=
  if (x1 < 0 ∨ 1100 ≤ Int32.toNatClampNeg x1) then none else if ((s.1 68) (Int32.toNatClampNeg x1)) ≤ x3 then (if ¬ (x2 = 0 ∨ x2 = 1) then none else some (x2, s)) else (if x2 = 0 then (k_31 x1 0 ((x3 + 3)) s) else (if (x3 < 0 ∨ (s.1 91 0).toNatClampNeg ≤ Int32.toNatClampNeg x3) then none else if ((s.1 41) (Int32.toNatClampNeg x3)) = 1 then (if (x1 < 0 ∨ 1100 ≤ Int32.toNatClampNeg x1) then none else if ((x3 + 1) < 0 ∨ (s.1 91 0).toNatClampNeg ≤ Int32.toNatClampNeg ((x3 + 1))) then none else (fn_M_signalOf N (((s.1 69) (Int32.toNatClampNeg x1))) (((s.1 41) (Int32.toNatClampNeg ((x3 + 1))))) s).bind (fun q_5 => if (q_5.1 < 0 ∨ 1100 ≤ Int32.toNatClampNeg q_5.1) then none else if ((q_5.2.1 72) (Int32.toNatClampNeg q_5.1)) = 0 then (k_31 x1 0 ((x3 + 3)) q_5.2) else (bk_M_canBe_81 N k_31 x1 x3 q_5.2))) else (bk_M_canBe_81 N k_31 x1 x3 s)))
def hd_M_canBe_31 (N : Nat) : Nat → Int32 → Int32 → Int32 → ms → Option (Int32 × ms)
  | 0, _, _, _, _ => none
  | n + 1, x1, x2, x3, s => bd_M_canBe_31 N (hd_M_canBe_31 N n) x1 x2 x3 s
def fn_M_canBe (N : Nat) (v1 : Int32) (s : ms) : Option (Int32 × ms) :=
  if (v1 < 0 ∨ 1100 ≤ Int32.toNatClampNeg v1) then none else if ((s.1 66) (Int32.toNatClampNeg v1)) = 2 then (if (v1 < 0 ∨ 1100 ≤ Int32.toNatClampNeg v1) then none else if (((s.1 67) (Int32.toNatClampNeg v1)) < 0 ∨ 1100 ≤ Int32.toNatClampNeg (((s.1 67) (Int32.toNatClampNeg v1)))) then none else if ¬ (((s.1 72) (Int32.toNatClampNeg (((s.1 67) (Int32.toNatClampNeg v1))))) = 0 ∨ ((s.1 72) (Int32.toNatClampNeg (((s.1 67) (Int32.toNatClampNeg v1))))) = 1) then none else some (((s.1 72) (Int32.toNatClampNeg (((s.1 67) (Int32.toNatClampNeg v1))))), s)) else (if (v1 < 0 ∨ 1100 ≤ Int32.toNatClampNeg v1) then none else hd_M_canBe_31 N N v1 1 (((s.1 67) (Int32.toNatClampNeg v1))) s)
def bd_M_putInOrder_116 (N : Nat) (k_116 : Int32 → ms → Option (Unit × ms)) (x2 : Int32) (s : ms) : Option (Unit × ms) :=
  if (s.1 63 0) ≤ x2 then (some ((), s)) else (if (s.1 9 0) = 0 then (if (x2 < 0 ∨ 1100 ≤ Int32.toNatClampNeg x2) then none else if ((s.1 72) (Int32.toNatClampNeg x2)) = 0 then ((fn_M_dependsOnItself N x2 s).bind (fun q_2 => if q_2.1 = 0 then (k_116 ((x2 + 1)) q_2.2) else (if (x2 < 0 ∨ 1100 ≤ Int32.toNatClampNeg x2) then none else if (((q_2.2.1 64) (Int32.toNatClampNeg x2)) < 0 ∨ 11000 ≤ Int32.toNatClampNeg (((q_2.2.1 64) (Int32.toNatClampNeg x2)))) then none else if (((q_2.2.1 19) (Int32.toNatClampNeg (((q_2.2.1 64) (Int32.toNatClampNeg x2))))) < 0 ∨ 65540 ≤ Int32.toNatClampNeg (((q_2.2.1 19) (Int32.toNatClampNeg (((q_2.2.1 64) (Int32.toNatClampNeg x2))))))) then none else (fn_M_fail N 45 (((q_2.2.1 5) (Int32.toNatClampNeg (((q_2.2.1 19) (Int32.toNatClampNeg (((q_2.2.1 64) (Int32.toNatClampNeg x2))))))))) q_2.2).bind (fun q_8 => k_116 ((x2 + 1)) q_8.2)))) else (k_116 ((x2 + 1)) s)) else (some ((), s)))
def hd_M_putInOrder_116 (N : Nat) : Nat → Int32 → ms → Option (Unit × ms)
  | 0, _, _ => none
  | n + 1, x2, s => bd_M_putInOrder_116 N (hd_M_putInOrder_116 N n) x2 s
def bd_M_putInOrder_51 (N : Nat) (k_43 : Int32 → ms → Option (Unit × ms)) (k_51 : Int32 → Int32 → ms → Option (Unit × ms)) (x1 : Int32) (x2 : Int32) (s : ms) : Option (Unit × ms) :=
  if (s.1 63 0) ≤ x2 then (k_43 x1 s) else (if (x2 < 0 ∨ 1100 ≤ Int32.toNatClampNeg x2) then none else if ((s.1 72) (Int32.toNatClampNeg x2)) = 0 then ((fn_M_canBe N x2 s).bind (fun q_2 => if q_2.1 = 0 then (k_51 x1 ((x2 + 1)) q_2.2) else (if (x2 < 0 ∨ 1100 ≤ Int32.toNatClampNeg x2) then none else if ((q_2.2.1 71 0) < 0 ∨ 1100 ≤ Int32.toNatClampNeg ((q_2.2.1 71 0))) then none else k_51 1 ((x2 + 1)) (upI (upI (upI q_2.2 72 (upd (q_2.2.1 72) (Int32.toNatClampNeg x2) (vp_nar .boolean 1))) 70 (upd (q_2.2.1 70) (Int32.toNatClampNeg ((q_2.2.1 71 0))) x2)) 71 (fun _ => ((q_2.2.1 71 0) + 1)))))) else (k_51 x1 ((x2 + 1)) s))
def hd_M_putInOrder_51 (N : Nat) (k_43 : Int32 → ms → Option (Unit × ms)) : Nat → Int32 → Int32 → ms → Option (Unit × ms)
  | 0, _, _, _ => none
  | n + 1, x1, x2, s => bd_M_putInOrder_51 N k_43 (hd_M_putInOrder_51 N k_43 n) x1 x2 s
def bd_M_putInOrder_43 (N : Nat) (k_43 : Int32 → ms → Option (Unit × ms)) (x1 : Int32) (s : ms) : Option (Unit × ms) :=
  if x1 = 0 then (hd_M_putInOrder_116 N N 0 s) else (hd_M_putInOrder_51 N k_43 N 0 0 s)
def hd_M_putInOrder_43 (N : Nat) : Nat → Int32 → ms → Option (Unit × ms)
  | 0, _, _ => none
  | n + 1, x1, s => bd_M_putInOrder_43 N (hd_M_putInOrder_43 N n) x1 s
def bk_M_putInOrder_34 (N : Nat) (k_7 : Int32 → ms → Option (Unit × ms)) (x1 : Int32) (t0 : Int32) (t1 : Int32) (s : ms) : Option (Unit × ms) :=
  if (t1 < 0 ∨ 1100 ≤ Int32.toNatClampNeg t1) then none else k_7 ((x1 + 1)) (upI s 72 (upd (s.1 72) (Int32.toNatClampNeg t1) (vp_nar .boolean t0)))
def bd_M_putInOrder_7 (N : Nat) (k_7 : Int32 → ms → Option (Unit × ms)) (x1 : Int32) (s : ms) : Option (Unit × ms) :=
  if (s.1 63 0) ≤ x1 then (hd_M_putInOrder_43 N N 1 s) else (if (x1 < 0 ∨ 1100 ≤ Int32.toNatClampNeg x1) then none else if ((s.1 66) (Int32.toNatClampNeg x1)) = 0 then (bk_M_putInOrder_34 N k_7 x1 1 x1 s) else (bk_M_putInOrder_34 N k_7 x1 0 x1 s))
def hd_M_putInOrder_7 (N : Nat) : Nat → Int32 → ms → Option (Unit × ms)
  | 0, _, _ => none
  | n + 1, x1, s => bd_M_putInOrder_7 N (hd_M_putInOrder_7 N n) x1 s
def fn_M_putInOrder (N : Nat) (s : ms) : Option (Unit × ms) :=
  hd_M_putInOrder_7 N N 0 (upI s 71 (fun _ => 0))
def bk_M_readSource_40 (N : Nat) (s : ms) : Option (Unit × ms) :=
  if (s.1 9 0) = 0 then ((fn_M_writeOut N s).bind (fun q_1 => (fn_M_putInOrder N q_1.2).bind (fun q_3 => some ((), q_3.2)))) else (some ((), s))
def bk_M_readSource_29 (N : Nat) (s : ms) : Option (Unit × ms) :=
  if (s.1 9 0) = 0 then ((fn_M_limits N s).bind (fun q_1 => bk_M_readSource_40 N q_1.2)) else (bk_M_readSource_40 N s)
def fn_M_readSource (N : Nat) (s1 : ms) : Option (Unit × ms) :=
  (fn_M_cutTokens N (upI (upI s1 9 (fun _ => 0)) 10 (fun _ => (-1)))).bind (fun q_1 => (fn_M_designGrammar N q_1.2).bind (fun q_3 => if (q_3.2.1 9 0) = 0 then ((fn_M_design N q_3.2).bind (fun q_5 => bk_M_readSource_29 N q_5.2)) else (bk_M_readSource_29 N q_3.2)))
def bd_M_sumUp_116 (N : Nat) (k_116 : Int32 → ms → Option (Unit × ms)) (x2 : Int32) (s : ms) : Option (Unit × ms) :=
  if (s.1 56 0) ≤ x2 then (some ((), s)) else (if (x2 < 0 ∨ 260 ≤ Int32.toNatClampNeg x2) then none else if ((((s.1 57) (Int32.toNatClampNeg x2)) + 1) < 0 ∨ 3601 ≤ Int32.toNatClampNeg ((((s.1 57) (Int32.toNatClampNeg x2)) + 1))) then none else if (((s.1 57) (Int32.toNatClampNeg x2)) < 0 ∨ 3601 ≤ Int32.toNatClampNeg (((s.1 57) (Int32.toNatClampNeg x2)))) then none else k_116 ((x2 + 1)) (upI s 78 (fun _ => (((s.1 78 0) + ((s.1 16) (Int32.toNatClampNeg ((((s.1 57) (Int32.toNatClampNeg x2)) + 1))))) - ((s.1 16) (Int32.toNatClampNeg (((s.1 57) (Int32.toNatClampNeg x2)))))))))
def hd_M_sumUp_116 (N : Nat) : Nat → Int32 → ms → Option (Unit × ms)
  | 0, _, _ => none
  | n + 1, x2, s => bd_M_sumUp_116 N (hd_M_sumUp_116 N n) x2 s
def bk_M_sumUp_100 (N : Nat) (k_43 : Int32 → Int32 → ms → Option (Unit × ms)) (x1 : Int32) (x2 : Int32) (t0 : Int32) (s : ms) : Option (Unit × ms) :=
  k_43 x1 ((x2 + 1)) (upI s 77 (fun _ => t0))
def bd_M_sumUp_43 (N : Nat) (k_43 : Int32 → Int32 → ms → Option (Unit × ms)) (x1 : Int32) (x2 : Int32) (s : ms) : Option (Unit × ms) :=
  if ((x1 + 1) < 0 ∨ 3601 ≤ Int32.toNatClampNeg ((x1 + 1))) then none else if (x1 < 0 ∨ 3601 ≤ Int32.toNatClampNeg x1) then none else if (((s.1 14) (Int32.toNatClampNeg ((x1 + 1)))) - ((s.1 14) (Int32.toNatClampNeg x1))) ≤ x2 then (hd_M_sumUp_116 N N 0 (upI s 78 (fun _ => 0))) else (if (x2 < 0 ∨ 1100 ≤ Int32.toNatClampNeg x2) then none else if (((s.1 64) (Int32.toNatClampNeg x2)) < 0 ∨ 11000 ≤ Int32.toNatClampNeg (((s.1 64) (Int32.toNatClampNeg x2)))) then none else if ((s.1 21) (Int32.toNatClampNeg (((s.1 64) (Int32.toNatClampNeg x2))))) = 0 then (if (x2 < 0 ∨ 1100 ≤ Int32.toNatClampNeg x2) then none else if (((s.1 64) (Int32.toNatClampNeg x2)) < 0 ∨ 11000 ≤ Int32.toNatClampNeg (((s.1 64) (Int32.toNatClampNeg x2)))) then none else bk_M_sumUp_100 N k_43 x1 x2 (((s.1 77 0) + ((s.1 20) (Int32.toNatClampNeg (((s.1 64) (Int32.toNatClampNeg x2))))))) s) else (bk_M_sumUp_100 N k_43 x1 x2 ((s.1 77 0)) s))
def hd_M_sumUp_43 (N : Nat) : Nat → Int32 → Int32 → ms → Option (Unit × ms)
  | 0, _, _, _ => none
  | n + 1, x1, x2, s => bd_M_sumUp_43 N (hd_M_sumUp_43 N n) x1 x2 s
def fn_M_sumUp (N : Nat) (s : ms) : Option (Unit × ms) :=
  if (((s.1 12 0) - 1) < 0 ∨ 3600 ≤ Int32.toNatClampNeg (((s.1 12 0) - 1))) then none else if (((s.1 12 0) - 1) < 0 ∨ 3600 ≤ Int32.toNatClampNeg (((s.1 12 0) - 1))) then none else hd_M_sumUp_43 N N (((s.1 12 0) - 1)) 0 (upI (upJ (upI (upI s 75 (fun _ => (s.1 12 0))) 76 (fun _ => (Int64.toInt32 (((s.2 48) (Int32.toNatClampNeg (((s.1 12 0) - 1)))))))) 79 (fun _ => ((s.2 45) (Int32.toNatClampNeg (((s.1 12 0) - 1)))))) 77 (fun _ => 0))
def fn_M_push (N : Nat) (v1 : Int64) (s : ms) : Option (Unit × ms) :=
  if ((s.1 85 0) < 0 ∨ 4096 ≤ Int32.toNatClampNeg ((s.1 85 0))) then none else some ((), upI (upJ s 84 (vp_updL (s.2 84) (Int32.toNatClampNeg ((s.1 85 0))) v1)) 85 (fun _ => ((s.1 85 0) + 1)))
def fn_M_pop (N : Nat) (s : ms) : Option (Int64 × ms) :=
  if (((s.1 85 0) - 1) < 0 ∨ 4096 ≤ Int32.toNatClampNeg (((s.1 85 0) - 1))) then none else some (((s.2 84) (Int32.toNatClampNeg (((s.1 85 0) - 1)))), upI s 85 (fun _ => ((s.1 85 0) - 1)))
def fn_M_mask (N : Nat) (v0 : Int32) (s : ms) : Option (Int64 × ms) :=
  if v0 < 64 then (some ((((1 : Int64) <<< ((Int32.toInt64 v0) &&& 63)) - 1), s)) else (some ((-1), s))
def bd_M_one_116 (N : Nat) (k_116 : Int32 → Int64 → Int64 → Int32 → ms → Option (Int64 × ms)) (x1 : Int32) (x2 : Int64) (x4 : Int64) (x6 : Int32) (s : ms) : Option (Int64 × ms) :=
  if x1 ≤ x6 then (some (x4, s)) else (k_116 x1 x2 ((x4 ^^^ (((x2 : Int64) >>> ((Int32.toInt64 x6) &&& 63)) &&& 1))) ((x6 + 1)) s)
def hd_M_one_116 (N : Nat) : Nat → Int32 → Int64 → Int64 → Int32 → ms → Option (Int64 × ms)
  | 0, _, _, _, _, _ => none
  | n + 1, x1, x2, x4, x6, s => bd_M_one_116 N (hd_M_one_116 N n) x1 x2 x4 x6 s
def fn_M_one (N : Nat) (v0 : Int32) (v1 : Int32) (v2 : Int64) (s : ms) : Option (Int64 × ms) :=
  if v0 = 33 then (if (lg_cmp v2 0) = 0 then (some (1, s)) else (some (0, s))) else (if v0 = 38 then ((fn_M_mask N v1 s).bind (fun q_1 => if (lg_cmp v2 q_1.1) = 0 then (some (1, q_1.2)) else (some (0, q_1.2)))) else (if v0 = 45 then ((fn_M_mask N v1 s).bind (fun q_1 => some (((-v2) &&& q_1.1), q_1.2))) else (if v0 = 124 then (if (lg_cmp v2 0) = 0 then (some (0, s)) else (some (1, s))) else (if v0 = 126 then ((fn_M_mask N v1 s).bind (fun q_1 => some (((v2 ^^^ (-1)) &&& q_1.1), q_1.2))) else (hd_M_one_116 N N v1 v2 0 0 s)))))
def fn_M_below (N : Nat) (v0 : Int64) (v2 : Int64) (s : ms) : Option (Int32 × ms) :=
  if 0 ≤ (lg_cmp ((v0 ^^^ (-9223372036854775808))) ((v2 ^^^ (-9223372036854775808)))) then (some (0, s)) else (some (1, s))
def fn_M_two (N : Nat) (v0 : Int32) (v1 : Int32) (v2 : Int64) (v4 : Int64) (s : ms) : Option (Int64 × ms) :=
  if v0 = 38 then (some ((v2 &&& v4), s)) else (if v0 = 43 then ((fn_M_mask N v1 s).bind (fun q_1 => some (((v2 + v4) &&& q_1.1), q_1.2))) else (if v0 = 45 then ((fn_M_mask N v1 s).bind (fun q_1 => some (((v2 - v4) &&& q_1.1), q_1.2))) else (if v0 = 60 then ((fn_M_below N v2 v4 s).bind (fun q_1 => if q_1.1 = 0 then (some (0, q_1.2)) else (some (1, q_1.2)))) else (if v0 = 62 then ((fn_M_below N v4 v2 s).bind (fun q_1 => if q_1.1 = 0 then (some (0, q_1.2)) else (some (1, q_1.2)))) else (if v0 = 94 then (some ((v2 ^^^ v4), s)) else (if v0 = 124 then (some ((v2 ||| v4), s)) else (if v0 = 256 then (if (lg_cmp v2 0) = 0 then (some (0, s)) else (if (lg_cmp v4 0) = 0 then (some (0, s)) else (some (1, s)))) else (if v0 = 257 then (if (lg_cmp v2 0) = 0 then (if (lg_cmp v4 0) = 0 then (some (0, s)) else (some (1, s))) else (some (1, s))) else (if v0 = 258 then (if (lg_cmp v2 v4) = 0 then (some (1, s)) else (some (0, s))) else (if v0 = 259 then (if (lg_cmp v2 v4) = 0 then (some (0, s)) else (some (1, s))) else (if v0 = 260 then ((fn_M_below N v4 v2 s).bind (fun q_1 => if q_1.1 = 0 then (some (1, q_1.2)) else (some (0, q_1.2)))) else (if v0 = 261 then ((fn_M_below N v2 v4 s).bind (fun q_1 => if q_1.1 = 0 then (some (1, q_1.2)) else (some (0, q_1.2)))) else (if v0 = 262 then (if (lg_cmp v4 0) < 0 then (some (0, s)) else (if (lg_cmp v4 63) ≤ 0 then ((fn_M_mask N v1 s).bind (fun q_1 => some ((((v2 : Int64) <<< ((Int32.toInt64 ((Int64.toInt32 v4))) &&& 63)) &&& q_1.1), q_1.2))) else (some (0, s)))) else (if v0 = 263 then (if (lg_cmp v4 0) < 0 then (some (0, s)) else (if (lg_cmp v4 63) ≤ 0 then (some (((Int64.toUInt64 v2 >>> (Int64.toUInt64 (Int32.toInt64 ((Int64.toInt32 v4))) &&& Int64.toUInt64 63)).toInt64), s)) else (some (0, s)))) else ((fn_M_mask N v1 s).bind (fun q_1 => some (((v2 * v4) &&& q_1.1), q_1.2)))))))))))))))))
def bk_M_run_211 (N : Nat) (k_3 : Int32 → Int32 → Int32 → ms → Option (Unit × ms)) (x2 : Int32) (x3 : Int32) (x7 : Int32) (t0 : Int64) (s : ms) : Option (Unit × ms) :=
  (fn_M_push N t0 s).bind (fun q_1 => k_3 x2 x3 x7 q_1.2)
def bk_M_run_199 (N : Nat) (k_3 : Int32 → Int32 → Int32 → ms → Option (Unit × ms)) (x2 : Int32) (x3 : Int32) (x7 : Int32) (s : ms) : Option (Unit × ms) :=
  bk_M_run_211 N k_3 x2 x3 x7 0 s
def bk_M_run_294 (N : Nat) (k_3 : Int32 → Int32 → Int32 → ms → Option (Unit × ms)) (x2 : Int32) (x3 : Int32) (x7 : Int32) (t0 : Int64) (s : ms) : Option (Unit × ms) :=
  (fn_M_push N t0 s).bind (fun q_1 => k_3 x2 x3 x7 q_1.2)
def bd_M_run_336 (N : Nat) (k_3 : Int32 → Int32 → Int32 → ms → Option (Unit × ms)) (k_336 : Int32 → Int32 → Int32 → Int32 → Int32 → Int64 → Int64 → Int32 → ms → Option (Unit × ms)) (x2 : Int32) (x3 : Int32) (x5 : Int32) (x6 : Int32) (x7 : Int32) (x22 : Int64) (x24 : Int64) (x26 : Int32) (s : ms) : Option (Unit × ms) :=
  if x5 ≤ x26 then ((fn_M_push N x24 s).bind (fun q_1 => k_3 x2 x3 x7 q_1.2)) else (k_336 x2 x3 x5 x6 x7 x22 ((((x24 : Int64) <<< ((Int32.toInt64 x6) &&& 63)) ||| x22)) ((x26 + 1)) s)
def hd_M_run_336 (N : Nat) (k_3 : Int32 → Int32 → Int32 → ms → Option (Unit × ms)) : Nat → Int32 → Int32 → Int32 → Int32 → Int32 → Int64 → Int64 → Int32 → ms → Option (Unit × ms)
  | 0, _, _, _, _, _, _, _, _, _ => none
  | n + 1, x2, x3, x5, x6, x7, x22, x24, x26, s => bd_M_run_336 N k_3 (hd_M_run_336 N k_3 n) x2 x3 x5 x6 x7 x22 x24 x26 s
def bk_M_run_456 (N : Nat) (k_3 : Int32 → Int32 → Int32 → ms → Option (Unit × ms)) (x2 : Int32) (x3 : Int32) (t0 : Int32) (s : ms) : Option (Unit × ms) :=
  k_3 x2 x3 t0 s
def bk_M_run_497 (N : Nat) (k_3 : Int32 → Int32 → Int32 → ms → Option (Unit × ms)) (x2 : Int32) (x3 : Int32) (t0 : Int32) (s : ms) : Option (Unit × ms) :=
  k_3 x2 x3 t0 s
def bd_M_run_3 (N : Nat) (k_3 : Int32 → Int32 → Int32 → ms → Option (Unit × ms)) (x2 : Int32) (x3 : Int32) (x4 : Int32) (s : ms) : Option (Unit × ms) :=
  if x2 ≤ x4 then (some ((), s)) else (if ((x4 + 1) < 0 ∨ (s.1 91 0).toNatClampNeg ≤ Int32.toNatClampNeg ((x4 + 1))) then none else if ((x4 + 2) < 0 ∨ (s.1 91 0).toNatClampNeg ≤ Int32.toNatClampNeg ((x4 + 2))) then none else if (x4 < 0 ∨ (s.1 91 0).toNatClampNeg ≤ Int32.toNatClampNeg x4) then none else if ((s.1 41) (Int32.toNatClampNeg x4)) = 0 then (if (((s.1 41) (Int32.toNatClampNeg ((x4 + 1)))) < 0 ∨ (s.1 92 0).toNatClampNeg ≤ Int32.toNatClampNeg (((s.1 41) (Int32.toNatClampNeg ((x4 + 1)))))) then none else (fn_M_push N (((s.2 43) (Int32.toNatClampNeg (((s.1 41) (Int32.toNatClampNeg ((x4 + 1)))))))) s).bind (fun q_5 => k_3 x2 x3 ((x4 + 3)) q_5.2)) else (if ((s.1 41) (Int32.toNatClampNeg x4)) = 1 then ((fn_M_signalOf N x3 (((s.1 41) (Int32.toNatClampNeg ((x4 + 1))))) s).bind (fun q_4 => if (q_4.1 < 0 ∨ 1100 ≤ Int32.toNatClampNeg q_4.1) then none else (fn_M_push N (((q_4.2.2 80) (Int32.toNatClampNeg q_4.1))) q_4.2).bind (fun q_8 => k_3 x2 x3 ((x4 + 3)) q_8.2))) else (if ((s.1 41) (Int32.toNatClampNeg x4)) = 2 then ((fn_M_pop N s).bind (fun q_4 => (fn_M_mask N (((((s.1 41) (Int32.toNatClampNeg ((x4 + 1)))) - ((s.1 41) (Int32.toNatClampNeg ((x4 + 2))))) + 1)) q_4.2).bind (fun q_7 => (fn_M_push N ((((Int64.toUInt64 q_4.1 >>> (Int64.toUInt64 (Int32.toInt64 (((s.1 41) (Int32.toNatClampNeg ((x4 + 2)))))) &&& Int64.toUInt64 63)).toInt64) &&& q_7.1)) q_7.2).bind (fun q_10 => k_3 x2 x3 ((x4 + 3)) q_10.2)))) else (if ((s.1 41) (Int32.toNatClampNeg x4)) = 3 then ((fn_M_pop N s).bind (fun q_4 => (fn_M_pop N q_4.2).bind (fun q_7 => if (lg_cmp q_4.1 0) < 0 then (bk_M_run_199 N k_3 x2 x3 ((x4 + 3)) q_7.2) else (if (lg_cmp q_4.1 ((Int32.toInt64 (((s.1 41) (Int32.toNatClampNeg ((x4 + 1)))))))) < 0 then (bk_M_run_211 N k_3 x2 x3 ((x4 + 3)) ((((Int64.toUInt64 q_7.1 >>> (Int64.toUInt64 (Int32.toInt64 ((Int64.toInt32 q_4.1))) &&& Int64.toUInt64 63)).toInt64) &&& 1)) q_7.2) else (bk_M_run_199 N k_3 x2 x3 ((x4 + 3)) q_7.2))))) else (if ((s.1 41) (Int32.toNatClampNeg x4)) = 4 then ((fn_M_pop N s).bind (fun q_4 => (fn_M_one N (((s.1 41) (Int32.toNatClampNeg ((x4 + 1))))) (((s.1 41) (Int32.toNatClampNeg ((x4 + 2))))) q_4.1 q_4.2).bind (fun q_7 => (fn_M_push N q_7.1 q_7.2).bind (fun q_10 => k_3 x2 x3 ((x4 + 3)) q_10.2)))) else (if ((s.1 41) (Int32.toNatClampNeg x4)) = 5 then ((fn_M_pop N s).bind (fun q_4 => (fn_M_pop N q_4.2).bind (fun q_7 => (fn_M_two N (((s.1 41) (Int32.toNatClampNeg ((x4 + 1))))) (((s.1 41) (Int32.toNatClampNeg ((x4 + 2))))) q_7.1 q_4.1 q_7.2).bind (fun q_10 => (fn_M_push N q_10.1 q_10.2).bind (fun q_13 => k_3 x2 x3 ((x4 + 3)) q_13.2))))) else (if ((s.1 41) (Int32.toNatClampNeg x4)) = 6 then ((fn_M_pop N s).bind (fun q_4 => (fn_M_pop N q_4.2).bind (fun q_7 => (fn_M_pop N q_7.2).bind (fun q_10 => if (lg_cmp q_10.1 0) = 0 then (bk_M_run_294 N k_3 x2 x3 ((x4 + 3)) q_4.1 q_10.2) else (bk_M_run_294 N k_3 x2 x3 ((x4 + 3)) q_7.1 q_10.2))))) else (if ((s.1 41) (Int32.toNatClampNeg x4)) = 7 then ((fn_M_pop N s).bind (fun q_4 => (fn_M_pop N q_4.2).bind (fun q_7 => (fn_M_push N ((((q_7.1 : Int64) <<< ((Int32.toInt64 (((s.1 41) (Int32.toNatClampNeg ((x4 + 1)))))) &&& 63)) ||| q_4.1)) q_7.2).bind (fun q_10 => k_3 x2 x3 ((x4 + 3)) q_10.2)))) else (if ((s.1 41) (Int32.toNatClampNeg x4)) = 8 then ((fn_M_pop N s).bind (fun q_4 => hd_M_run_336 N k_3 N x2 x3 (((s.1 41) (Int32.toNatClampNeg ((x4 + 1))))) (((s.1 41) (Int32.toNatClampNeg ((x4 + 2))))) ((x4 + 3)) q_4.1 q_4.1 1 q_4.2)) else (if ((s.1 41) (Int32.toNatClampNeg x4)) = 9 then ((fn_M_signalOf N x3 (((s.1 41) (Int32.toNatClampNeg ((x4 + 1))))) s).bind (fun q_4 => (fn_M_mask N ((((((s.1 41) (Int32.toNatClampNeg ((x4 + 2)))) / 256) - (((s.1 41) (Int32.toNatClampNeg ((x4 + 2)))) - ((s.1 41) (Int32.toNatClampNeg ((x4 + 2)))) / 256 * 256)) + 1)) q_4.2).bind (fun q_7 => if (q_4.1 < 0 ∨ 1100 ≤ Int32.toNatClampNeg q_4.1) then none else (fn_M_pop N q_7.2).bind (fun q_11 => if (q_4.1 < 0 ∨ 1100 ≤ Int32.toNatClampNeg q_4.1) then none else k_3 x2 x3 ((x4 + 3)) (upJ q_11.2 81 (vp_updL (q_11.2.2 81) (Int32.toNatClampNeg q_4.1) (((((q_7.2.2 81) (Int32.toNatClampNeg q_4.1)) &&& (((q_7.1 : Int64) <<< ((Int32.toInt64 ((((s.1 41) (Int32.toNatClampNeg ((x4 + 2)))) - ((s.1 41) (Int32.toNatClampNeg ((x4 + 2)))) / 256 * 256))) &&& 63)) ^^^ (-1))) ||| ((q_11.1 : Int64) <<< ((Int32.toInt64 ((((s.1 41) (Int32.toNatClampNeg ((x4 + 2)))) - ((s.1 41) (Int32.toNatClampNeg ((x4 + 2)))) / 256 * 256))) &&& 63)))))))))) else (if ((s.1 41) (Int32.toNatClampNeg x4)) = 10 then ((fn_M_pop N s).bind (fun q_4 => if (lg_cmp q_4.1 0) = 0 then (bk_M_run_456 N k_3 x2 x3 (((s.1 41) (Int32.toNatClampNeg ((x4 + 1))))) q_4.2) else (bk_M_run_456 N k_3 x2 x3 ((x4 + 3)) q_4.2))) else (if ((s.1 41) (Int32.toNatClampNeg x4)) = 11 then (k_3 x2 x3 (((s.1 41) (Int32.toNatClampNeg ((x4 + 1))))) s) else (if ((s.1 41) (Int32.toNatClampNeg x4)) = 12 then (if (((s.1 85 0) - 1) < 0 ∨ 4096 ≤ Int32.toNatClampNeg (((s.1 85 0) - 1))) then none else if (((s.1 41) (Int32.toNatClampNeg ((x4 + 2)))) < 0 ∨ (s.1 92 0).toNatClampNeg ≤ Int32.toNatClampNeg (((s.1 41) (Int32.toNatClampNeg ((x4 + 2)))))) then none else if (lg_cmp (((s.2 84) (Int32.toNatClampNeg (((s.1 85 0) - 1))))) (((s.2 43) (Int32.toNatClampNeg (((s.1 41) (Int32.toNatClampNeg ((x4 + 2))))))))) = 0 then (bk_M_run_497 N k_3 x2 x3 (((s.1 41) (Int32.toNatClampNeg ((x4 + 1))))) s) else (bk_M_run_497 N k_3 x2 x3 ((x4 + 3)) s)) else (k_3 x2 x3 ((x4 + 3)) (upI s 85 (fun _ => ((s.1 85 0) - 1)))))))))))))))))
def hd_M_run_3 (N : Nat) : Nat → Int32 → Int32 → Int32 → ms → Option (Unit × ms)
  | 0, _, _, _, _ => none
  | n + 1, x2, x3, x4, s => bd_M_run_3 N (hd_M_run_3 N n) x2 x3 x4 s
def fn_M_run (N : Nat) (v1 : Int32) (v2 : Int32) (v3 : Int32) (s : ms) : Option (Unit × ms) :=
  hd_M_run_3 N N v2 v3 v1 s
def bd_M_settle_82_83_56 (N : Nat) (k_56 : Int32 → ms → Option (Unit × ms)) (x3 : Int32) (s : ms) : Option (Unit × ms) :=
  if (s.1 71 0) ≤ x3 then (some ((), s)) else (if (x3 < 0 ∨ 1100 ≤ Int32.toNatClampNeg x3) then none else if (((s.1 70) (Int32.toNatClampNeg x3)) < 0 ∨ 1100 ≤ Int32.toNatClampNeg (((s.1 70) (Int32.toNatClampNeg x3)))) then none else if ((s.1 66) (Int32.toNatClampNeg (((s.1 70) (Int32.toNatClampNeg x3))))) = 2 then (if (((s.1 70) (Int32.toNatClampNeg x3)) < 0 ∨ 1100 ≤ Int32.toNatClampNeg (((s.1 70) (Int32.toNatClampNeg x3)))) then none else if (((s.1 67) (Int32.toNatClampNeg (((s.1 70) (Int32.toNatClampNeg x3))))) < 0 ∨ 1100 ≤ Int32.toNatClampNeg (((s.1 67) (Int32.toNatClampNeg (((s.1 70) (Int32.toNatClampNeg x3))))))) then none else if (((s.1 70) (Int32.toNatClampNeg x3)) < 0 ∨ 1100 ≤ Int32.toNatClampNeg (((s.1 70) (Int32.toNatClampNeg x3)))) then none else k_56 ((x3 + 1)) (upJ s 80 (vp_updL (s.2 80) (Int32.toNatClampNeg (((s.1 70) (Int32.toNatClampNeg x3)))) (((s.2 80) (Int32.toNatClampNeg (((s.1 67) (Int32.toNatClampNeg (((s.1 70) (Int32.toNatClampNeg x3)))))))))))) else (if (((s.1 70) (Int32.toNatClampNeg x3)) < 0 ∨ 1100 ≤ Int32.toNatClampNeg (((s.1 70) (Int32.toNatClampNeg x3)))) then none else if (((s.1 70) (Int32.toNatClampNeg x3)) < 0 ∨ 1100 ≤ Int32.toNatClampNeg (((s.1 70) (Int32.toNatClampNeg x3)))) then none else if (((s.1 70) (Int32.toNatClampNeg x3)) < 0 ∨ 1100 ≤ Int32.toNatClampNeg (((s.1 70) (Int32.toNatClampNeg x3)))) then none else (fn_M_run N (((s.1 67) (Int32.toNatClampNeg (((s.1 70) (Int32.toNatClampNeg x3)))))) (((s.1 68) (Int32.toNatClampNeg (((s.1 70) (Int32.toNatClampNeg x3)))))) (((s.1 69) (Int32.toNatClampNeg (((s.1 70) (Int32.toNatClampNeg x3)))))) s).bind (fun q_6 => (fn_M_pop N q_6.2).bind (fun q_8 => if (((s.1 70) (Int32.toNatClampNeg x3)) < 0 ∨ 1100 ≤ Int32.toNatClampNeg (((s.1 70) (Int32.toNatClampNeg x3)))) then none else k_56 ((x3 + 1)) (upJ q_8.2 80 (vp_updL (q_8.2.2 80) (Int32.toNatClampNeg (((s.1 70) (Int32.toNatClampNeg x3)))) q_8.1))))))
def hd_M_settle_82_83_56 (N : Nat) : Nat → Int32 → ms → Option (Unit × ms)
  | 0, _, _ => none
  | n + 1, x3, s => bd_M_settle_82_83_56 N (hd_M_settle_82_83_56 N n) x3 s
def bk_M_settle_82_83_47 (N : Nat) (k_2 : Int32 → ms → Option (Unit × ms)) (x3 : Int32) (t0 : Int64) (t1 : Int32) (s : ms) : Option (Unit × ms) :=
  if (t1 < 0 ∨ 1100 ≤ Int32.toNatClampNeg t1) then none else k_2 ((x3 + 1)) (upJ s 80 (vp_updL (s.2 80) (Int32.toNatClampNeg t1) t0))
def bd_M_settle_82_83_2 (N : Nat) (k_2 : Int32 → ms → Option (Unit × ms)) (x3 : Int32) (s : ms) : Option (Unit × ms) :=
  if (s.1 63 0) ≤ x3 then (hd_M_settle_82_83_56 N N 0 s) else (if (x3 < 0 ∨ 1100 ≤ Int32.toNatClampNeg x3) then none else if ((s.1 66) (Int32.toNatClampNeg x3)) = 0 then (if (x3 < 0 ∨ 1100 ≤ Int32.toNatClampNeg x3) then none else if (((s.1 64) (Int32.toNatClampNeg x3)) < 0 ∨ 11000 ≤ Int32.toNatClampNeg (((s.1 64) (Int32.toNatClampNeg x3)))) then none else if ((s.1 21) (Int32.toNatClampNeg (((s.1 64) (Int32.toNatClampNeg x3))))) = 0 then (if (x3 < 0 ∨ 1100 ≤ Int32.toNatClampNeg x3) then none else bk_M_settle_82_83_47 N k_2 x3 (((s.2 83) (Int32.toNatClampNeg x3))) x3 s) else (if (x3 < 0 ∨ 1100 ≤ Int32.toNatClampNeg x3) then none else bk_M_settle_82_83_47 N k_2 x3 (((s.2 82) (Int32.toNatClampNeg x3))) x3 s)) else (k_2 ((x3 + 1)) s))
def hd_M_settle_82_83_2 (N : Nat) : Nat → Int32 → ms → Option (Unit × ms)
  | 0, _, _ => none
  | n + 1, x3, s => bd_M_settle_82_83_2 N (hd_M_settle_82_83_2 N n) x3 s
def fn_M_settle_82_83 (N : Nat) (s : ms) : Option (Unit × ms) :=
  hd_M_settle_82_83_2 N N 0 s
def bd_M_begin0_7 (N : Nat) (k_7 : Int32 → ms → Option (Unit × ms)) (x1 : Int32) (s : ms) : Option (Unit × ms) :=
  if (s.1 63 0) ≤ x1 then ((fn_M_settle_82_83 N s).bind (fun q_1 => some ((), q_1.2))) else (if (x1 < 0 ∨ 1100 ≤ Int32.toNatClampNeg x1) then none else if (((s.1 64) (Int32.toNatClampNeg x1)) < 0 ∨ 11000 ≤ Int32.toNatClampNeg (((s.1 64) (Int32.toNatClampNeg x1)))) then none else if (x1 < 0 ∨ 1100 ≤ Int32.toNatClampNeg x1) then none else if (x1 < 0 ∨ 1100 ≤ Int32.toNatClampNeg x1) then none else k_7 ((x1 + 1)) (upJ (upJ s 82 (vp_updL (s.2 82) (Int32.toNatClampNeg x1) (((s.2 22) (Int32.toNatClampNeg (((s.1 64) (Int32.toNatClampNeg x1)))))))) 83 (vp_updL (s.2 83) (Int32.toNatClampNeg x1) 0)))
def hd_M_begin0_7 (N : Nat) : Nat → Int32 → ms → Option (Unit × ms)
  | 0, _, _ => none
  | n + 1, x1, s => bd_M_begin0_7 N (hd_M_begin0_7 N n) x1 s
def fn_M_begin0 (N : Nat) (s : ms) : Option (Unit × ms) :=
  hd_M_begin0_7 N N 0 (upI s 86 (fun _ => 0))
def bd_M_read_I_166 (N : Nat) (k_166 : Int32 → ms → Option (Int32 × ms)) (x2 : Int32) (s : ms) : Option (Int32 × ms) :=
  if (s.1 63 0) ≤ x2 then ((fn_M_begin0 N s).bind (fun q_1 => some ((-1), q_1.2))) else (if (x2 < 0 ∨ 1100 ≤ Int32.toNatClampNeg x2) then none else k_166 ((x2 + 1)) (upJ s 83 (vp_updL (s.2 83) (Int32.toNatClampNeg x2) 0)))
def hd_M_read_I_166 (N : Nat) : Nat → Int32 → ms → Option (Int32 × ms)
  | 0, _, _ => none
  | n + 1, x2, s => bd_M_read_I_166 N (hd_M_read_I_166 N n) x2 s
def bd_M_read_I_121 (N : Nat) (k_121 : Int32 → ms → Option (Int32 × ms)) (x2 : Int32) (s : ms) : Option (Int32 × ms) :=
  if (s.1 2 0) ≤ x2 then ((fn_M_sumUp N (upI (upI s 89 (fun _ => (s.1 2 0))) 54 (fun _ => 1))).bind (fun q_1 => hd_M_read_I_166 N N 0 q_1.2)) else (if (x2 < 0 ∨ 65536 ≤ Int32.toNatClampNeg x2) then none else if (x2 < 0 ∨ 65536 ≤ Int32.toNatClampNeg x2) then none else k_121 ((x2 + 1)) (upI s 55 (upd (s.1 55) (Int32.toNatClampNeg x2) (vp_nar .byte (((s.1 90) (Int32.toNatClampNeg x2)))))))
def hd_M_read_I_121 (N : Nat) : Nat → Int32 → ms → Option (Int32 × ms)
  | 0, _, _ => none
  | n + 1, x2, s => bd_M_read_I_121 N (hd_M_read_I_121 N n) x2 s
def bk_M_read_I_117 (N : Nat) (x1 : Int32) (s : ms) : Option (Int32 × ms) :=
  some (x1, s)
def bd_M_read_I_79 (N : Nat) (k_79 : Int32 → Int32 → ms → Option (Int32 × ms)) (x1 : Int32) (x2 : Int32) (s : ms) : Option (Int32 × ms) :=
  if (s.1 89 0) ≤ x2 then ((fn_M_readSource N (upI s 2 (fun _ => (s.1 89 0)))).bind (fun q_1 => bk_M_read_I_117 N x1 q_1.2)) else (if (x2 < 0 ∨ 65536 ≤ Int32.toNatClampNeg x2) then none else if (x2 < 0 ∨ 65536 ≤ Int32.toNatClampNeg x2) then none else k_79 x1 ((x2 + 1)) (upI s 90 (upd (s.1 90) (Int32.toNatClampNeg x2) (vp_nar .byte (((s.1 55) (Int32.toNatClampNeg x2)))))))
def hd_M_read_I_79 (N : Nat) : Nat → Int32 → Int32 → ms → Option (Int32 × ms)
  | 0, _, _, _ => none
  | n + 1, x1, x2, s => bd_M_read_I_79 N (hd_M_read_I_79 N n) x1 x2 s
def bk_M_read_I_50 (N : Nat) (s : ms) : Option (Int32 × ms) :=
  if (s.1 9 0) = 0 then (hd_M_read_I_121 N N 0 (upI s 3 (fun _ => (s.1 9 0)))) else (if (s.1 54 0) = 0 then (bk_M_read_I_117 N ((s.1 10 0)) (upI s 3 (fun _ => (s.1 9 0)))) else (hd_M_read_I_79 N N ((s.1 10 0)) 0 (upI s 3 (fun _ => (s.1 9 0)))))
def bd_M_read_I_7 (N : Nat) (k_7 : Int32 → ms → Option (Int32 × ms)) (x1 : Int32) (s : ms) : Option (Int32 × ms) :=
  if (s.1 88 0) ≤ x1 then ((fn_M_readSource N (upI (upI s 2 (fun _ => (s.1 88 0))) 88 (fun _ => 0))).bind (fun q_1 => bk_M_read_I_50 N q_1.2)) else (if (x1 < 0 ∨ 65536 ≤ Int32.toNatClampNeg x1) then none else if (x1 < 0 ∨ 65536 ≤ Int32.toNatClampNeg x1) then none else k_7 ((x1 + 1)) (upI s 90 (upd (s.1 90) (Int32.toNatClampNeg x1) (vp_nar .byte (((s.1 1) (Int32.toNatClampNeg x1)))))))
def hd_M_read_I_7 (N : Nat) : Nat → Int32 → ms → Option (Int32 × ms)
  | 0, _, _ => none
  | n + 1, x1, s => bd_M_read_I_7 N (hd_M_read_I_7 N n) x1 s
def fn_M_read_I (N : Nat) (s1 : ms) : Option (Int32 × ms) :=
  hd_M_read_I_7 N N 0 (upI s1 0 (fun _ => 0))
def bk_M_feed_89 (N : Nat) (k_36 : Int32 → Int32 → Int32 → Int32 → Int32 → Int32 → ms → Option (Int32 × ms)) (x1 : Int32) (x2 : Int32) (x3 : Int32) (x4 : Int32) (x5 : Int32) (x6 : Int32) (t0 : Int32) (s : ms) : Option (Int32 × ms) :=
  if (((s.1 88 0) + x6) < 0 ∨ 65536 ≤ Int32.toNatClampNeg (((s.1 88 0) + x6))) then none else k_36 x1 x2 x3 x4 x5 ((x6 + 1)) (upI s 1 (upd (s.1 1) (Int32.toNatClampNeg (((s.1 88 0) + x6))) (vp_nar .byte (((Int32.toInt8 (((t0 : Int32) >>> ((24 - (8 * (x6 - x6 / 4 * 4))) &&& 31)))).toInt32)))))
def bd_M_feed_36 (N : Nat) (k_36 : Int32 → Int32 → Int32 → Int32 → Int32 → Int32 → ms → Option (Int32 × ms)) (x1 : Int32) (x2 : Int32) (x3 : Int32) (x4 : Int32) (x5 : Int32) (x6 : Int32) (s : ms) : Option (Int32 × ms) :=
  if 20 ≤ x6 then (some (((s.1 88 0) + 20), upI s 88 (fun _ => ((s.1 88 0) + 20)))) else (if 4 ≤ x6 then (if 8 ≤ x6 then (if 12 ≤ x6 then (if 16 ≤ x6 then (bk_M_feed_89 N k_36 x1 x2 x3 x4 x5 x6 x5 s) else (bk_M_feed_89 N k_36 x1 x2 x3 x4 x5 x6 x4 s)) else (bk_M_feed_89 N k_36 x1 x2 x3 x4 x5 x6 x3 s)) else (bk_M_feed_89 N k_36 x1 x2 x3 x4 x5 x6 x2 s)) else (bk_M_feed_89 N k_36 x1 x2 x3 x4 x5 x6 x1 s))
def hd_M_feed_36 (N : Nat) : Nat → Int32 → Int32 → Int32 → Int32 → Int32 → Int32 → ms → Option (Int32 × ms)
  | 0, _, _, _, _, _, _, _ => none
  | n + 1, x1, x2, x3, x4, x5, x6, s => bd_M_feed_36 N (hd_M_feed_36 N n) x1 x2 x3 x4 x5 x6 s
def bk_M_feed_21 (N : Nat) (x1 : Int32) (x2 : Int32) (x3 : Int32) (x4 : Int32) (x5 : Int32) (t0 : Int32) (s : ms) : Option (Int32 × ms) :=
  if t0 ≤ 0 then (hd_M_feed_36 N N x1 x2 x3 x4 x5 0 (upI s 0 (fun _ => t0))) else (some (0, upI s 0 (fun _ => t0)))
def fn_M_feed (N : Nat) (v1 : Int32) (v2 : Int32) (v3 : Int32) (v4 : Int32) (v5 : Int32) (s : ms) : Option (Int32 × ms) :=
  if ((s.1 88 0) + 20) ≤ 65536 then (bk_M_feed_21 N v1 v2 v3 v4 v5 0 s) else (bk_M_feed_21 N v1 v2 v3 v4 v5 1 s)
def bk_M_end_37 (N : Nat) (t0 : Int32) (s : ms) : Option (Unit × ms) :=
  some ((), upI s 88 (fun _ => t0))
def bk_M_end_18 (N : Nat) (x1 : Int32) (t0 : Int32) (s : ms) : Option (Unit × ms) :=
  if t0 ≤ 0 then (bk_M_end_37 N x1 (upI s 0 (fun _ => t0))) else (bk_M_end_37 N ((s.1 88 0)) (upI s 0 (fun _ => t0)))
def bk_M_end_13 (N : Nat) (x1 : Int32) (s : ms) : Option (Unit × ms) :=
  bk_M_end_18 N x1 1 s
def fn_M_end (N : Nat) (v1 : Int32) (s : ms) : Option (Unit × ms) :=
  if v1 < 0 then (bk_M_end_13 N v1 s) else (if v1 ≤ (s.1 88 0) then (bk_M_end_18 N v1 0 s) else (bk_M_end_13 N v1 s))
def fn_M_fault (N : Nat) (s : ms) : Option (Int32 × ms) :=
  some ((s.1 3 0), upI s 0 (fun _ => 0))
def bk_M_count_27 (N : Nat) (x1 : Int32) (t0 : Int32) (s : ms) : Option (Int32 × ms) :=
  if t0 ≤ 0 then (if x1 = 0 then (some ((s.1 75 0), upI s 0 (fun _ => t0))) else (if x1 = 1 then (some (((s.1 56 0) - 1), upI s 0 (fun _ => t0))) else (if x1 = 2 then (some ((s.1 63 0), upI s 0 (fun _ => t0))) else (if x1 = 3 then (some ((s.1 76 0), upI s 0 (fun _ => t0))) else (if x1 = 4 then (some ((s.1 77 0), upI s 0 (fun _ => t0))) else (if x1 = 5 then (some ((s.1 78 0), upI s 0 (fun _ => t0))) else (some ((Int64.toInt32 ((s.2 79 0))), upI s 0 (fun _ => t0))))))))) else (some (0, upI s 0 (fun _ => t0)))
def bk_M_count_22 (N : Nat) (x1 : Int32) (s : ms) : Option (Int32 × ms) :=
  bk_M_count_27 N x1 2 s
def fn_M_count (N : Nat) (v1 : Int32) (s : ms) : Option (Int32 × ms) :=
  if (s.1 54 0) = 0 then (bk_M_count_27 N v1 1 s) else (if v1 < 0 then (bk_M_count_22 N v1 s) else (if v1 ≤ 6 then (bk_M_count_27 N v1 0 s) else (bk_M_count_22 N v1 s)))
def bd_M_goesOn_31 (N : Nat) (k_31 : Int32 → Int32 → Int32 → Int32 → ms → Option (Int32 × ms)) (x1 : Int32) (x2 : Int32) (x3 : Int32) (x4 : Int32) (s : ms) : Option (Int32 × ms) :=
  if x3 = 0 then (if ¬ (x3 = 0 ∨ x3 = 1) then none else some (x3, s)) else (if (x2 < 0 ∨ 65540 ≤ Int32.toNatClampNeg x2) then none else if (x2 < 0 ∨ 65540 ≤ Int32.toNatClampNeg x2) then none else if (((s.1 6) (Int32.toNatClampNeg x2)) - ((s.1 5) (Int32.toNatClampNeg x2))) ≤ x4 then (if ¬ (x3 = 0 ∨ x3 = 1) then none else some (x3, s)) else (if ((x1 + x4) < 0 ∨ 65536 ≤ Int32.toNatClampNeg ((x1 + x4))) then none else if (x2 < 0 ∨ 65540 ≤ Int32.toNatClampNeg x2) then none else if ((((s.1 5) (Int32.toNatClampNeg x2)) + x4) < 0 ∨ 65536 ≤ Int32.toNatClampNeg ((((s.1 5) (Int32.toNatClampNeg x2)) + x4))) then none else if ((s.1 1) (Int32.toNatClampNeg ((x1 + x4)))) = ((s.1 90) (Int32.toNatClampNeg ((((s.1 5) (Int32.toNatClampNeg x2)) + x4)))) then (k_31 x1 x2 1 ((x4 + 1)) s) else (k_31 x1 x2 0 ((x4 + 1)) s)))
def hd_M_goesOn_31 (N : Nat) : Nat → Int32 → Int32 → Int32 → Int32 → ms → Option (Int32 × ms)
  | 0, _, _, _, _, _ => none
  | n + 1, x1, x2, x3, x4, s => bd_M_goesOn_31 N (hd_M_goesOn_31 N n) x1 x2 x3 x4 s
def fn_M_goesOn (N : Nat) (v1 : Int32) (v2 : Int32) (s : ms) : Option (Int32 × ms) :=
  if (v2 < 0 ∨ 65540 ≤ Int32.toNatClampNeg v2) then none else if (v2 < 0 ∨ 65540 ≤ Int32.toNatClampNeg v2) then none else if (s.1 88 0) < ((v1 + ((s.1 6) (Int32.toNatClampNeg v2))) - ((s.1 5) (Int32.toNatClampNeg v2))) then (hd_M_goesOn_31 N N v1 v2 0 0 s) else (hd_M_goesOn_31 N N v1 v2 1 0 s)
def bk_M_isNamed_145 (N : Nat) (x1 : Int32) (x4 : Int32) (x5 : Int32) (s : ms) : Option (Int32 × ms) :=
  if (x1 < 0 ∨ 1100 ≤ Int32.toNatClampNeg x1) then none else if (((s.1 64) (Int32.toNatClampNeg x1)) < 0 ∨ 11000 ≤ Int32.toNatClampNeg (((s.1 64) (Int32.toNatClampNeg x1)))) then none else if x5 = 0 then (some (0, s)) else ((fn_M_goesOn N x4 (((s.1 19) (Int32.toNatClampNeg (((s.1 64) (Int32.toNatClampNeg x1)))))) s).bind (fun q_3 => if q_3.1 = 0 then (some (0, q_3.2)) else (if (((s.1 19) (Int32.toNatClampNeg (((s.1 64) (Int32.toNatClampNeg x1))))) < 0 ∨ 65540 ≤ Int32.toNatClampNeg (((s.1 19) (Int32.toNatClampNeg (((s.1 64) (Int32.toNatClampNeg x1))))))) then none else if (((s.1 19) (Int32.toNatClampNeg (((s.1 64) (Int32.toNatClampNeg x1))))) < 0 ∨ 65540 ≤ Int32.toNatClampNeg (((s.1 19) (Int32.toNatClampNeg (((s.1 64) (Int32.toNatClampNeg x1))))))) then none else if ((x4 + ((q_3.2.1 6) (Int32.toNatClampNeg (((s.1 19) (Int32.toNatClampNeg (((s.1 64) (Int32.toNatClampNeg x1))))))))) - ((q_3.2.1 5) (Int32.toNatClampNeg (((s.1 19) (Int32.toNatClampNeg (((s.1 64) (Int32.toNatClampNeg x1))))))))) = (q_3.2.1 88 0) then (some (1, q_3.2)) else (some (0, q_3.2)))))
def bk_M_isNamed_133 (N : Nat) (k_49 : Int32 → Int32 → Int32 → Int32 → ms → Option (Int32 × ms)) (x1 : Int32) (x4 : Int32) (x6 : Int32) (s : ms) : Option (Int32 × ms) :=
  k_49 x1 ((x4 + 1)) 0 ((x6 + (-1))) s
def bd_M_isNamed_49 (N : Nat) (k_49 : Int32 → Int32 → Int32 → Int32 → ms → Option (Int32 × ms)) (x1 : Int32) (x4 : Int32) (x5 : Int32) (x6 : Int32) (s : ms) : Option (Int32 × ms) :=
  if x6 < 0 then (bk_M_isNamed_145 N x1 x4 x5 s) else (if x5 = 0 then (bk_M_isNamed_145 N x1 x4 x5 s) else (if (x6 < 0 ∨ 1100 ≤ Int32.toNatClampNeg x6) then none else if (((s.1 74) (Int32.toNatClampNeg x6)) < 0 ∨ 11000 ≤ Int32.toNatClampNeg (((s.1 74) (Int32.toNatClampNeg x6)))) then none else (fn_M_goesOn N x4 (((s.1 29) (Int32.toNatClampNeg (((s.1 74) (Int32.toNatClampNeg x6)))))) s).bind (fun q_3 => if (((s.1 29) (Int32.toNatClampNeg (((s.1 74) (Int32.toNatClampNeg x6))))) < 0 ∨ 65540 ≤ Int32.toNatClampNeg (((s.1 29) (Int32.toNatClampNeg (((s.1 74) (Int32.toNatClampNeg x6))))))) then none else if (((s.1 29) (Int32.toNatClampNeg (((s.1 74) (Int32.toNatClampNeg x6))))) < 0 ∨ 65540 ≤ Int32.toNatClampNeg (((s.1 29) (Int32.toNatClampNeg (((s.1 74) (Int32.toNatClampNeg x6))))))) then none else if q_3.1 = 0 then (bk_M_isNamed_133 N k_49 x1 (((x4 + ((q_3.2.1 6) (Int32.toNatClampNeg (((s.1 29) (Int32.toNatClampNeg (((s.1 74) (Int32.toNatClampNeg x6))))))))) - ((q_3.2.1 5) (Int32.toNatClampNeg (((s.1 29) (Int32.toNatClampNeg (((s.1 74) (Int32.toNatClampNeg x6)))))))))) x6 q_3.2) else (if (q_3.2.1 88 0) ≤ ((x4 + ((q_3.2.1 6) (Int32.toNatClampNeg (((s.1 29) (Int32.toNatClampNeg (((s.1 74) (Int32.toNatClampNeg x6))))))))) - ((q_3.2.1 5) (Int32.toNatClampNeg (((s.1 29) (Int32.toNatClampNeg (((s.1 74) (Int32.toNatClampNeg x6))))))))) then (bk_M_isNamed_133 N k_49 x1 (((x4 + ((q_3.2.1 6) (Int32.toNatClampNeg (((s.1 29) (Int32.toNatClampNeg (((s.1 74) (Int32.toNatClampNeg x6))))))))) - ((q_3.2.1 5) (Int32.toNatClampNeg (((s.1 29) (Int32.toNatClampNeg (((s.1 74) (Int32.toNatClampNeg x6)))))))))) x6 q_3.2) else (if (((x4 + ((q_3.2.1 6) (Int32.toNatClampNeg (((s.1 29) (Int32.toNatClampNeg (((s.1 74) (Int32.toNatClampNeg x6))))))))) - ((q_3.2.1 5) (Int32.toNatClampNeg (((s.1 29) (Int32.toNatClampNeg (((s.1 74) (Int32.toNatClampNeg x6))))))))) < 0 ∨ 65536 ≤ Int32.toNatClampNeg (((x4 + ((q_3.2.1 6) (Int32.toNatClampNeg (((s.1 29) (Int32.toNatClampNeg (((s.1 74) (Int32.toNatClampNeg x6))))))))) - ((q_3.2.1 5) (Int32.toNatClampNeg (((s.1 29) (Int32.toNatClampNeg (((s.1 74) (Int32.toNatClampNeg x6))))))))))) then none else if ((q_3.2.1 1) (Int32.toNatClampNeg (((x4 + ((q_3.2.1 6) (Int32.toNatClampNeg (((s.1 29) (Int32.toNatClampNeg (((s.1 74) (Int32.toNatClampNeg x6))))))))) - ((q_3.2.1 5) (Int32.toNatClampNeg (((s.1 29) (Int32.toNatClampNeg (((s.1 74) (Int32.toNatClampNeg x6)))))))))))) = 46 then (k_49 x1 ((((x4 + ((q_3.2.1 6) (Int32.toNatClampNeg (((s.1 29) (Int32.toNatClampNeg (((s.1 74) (Int32.toNatClampNeg x6))))))))) - ((q_3.2.1 5) (Int32.toNatClampNeg (((s.1 29) (Int32.toNatClampNeg (((s.1 74) (Int32.toNatClampNeg x6))))))))) + 1)) 1 ((x6 + (-1))) q_3.2) else (bk_M_isNamed_133 N k_49 x1 (((x4 + ((q_3.2.1 6) (Int32.toNatClampNeg (((s.1 29) (Int32.toNatClampNeg (((s.1 74) (Int32.toNatClampNeg x6))))))))) - ((q_3.2.1 5) (Int32.toNatClampNeg (((s.1 29) (Int32.toNatClampNeg (((s.1 74) (Int32.toNatClampNeg x6)))))))))) x6 q_3.2))))))
def hd_M_isNamed_49 (N : Nat) : Nat → Int32 → Int32 → Int32 → Int32 → ms → Option (Int32 × ms)
  | 0, _, _, _, _, _ => none
  | n + 1, x1, x4, x5, x6, s => bd_M_isNamed_49 N (hd_M_isNamed_49 N n) x1 x4 x5 x6 s
def bd_M_isNamed_9 (N : Nat) (k_9 : Int32 → Int32 → Int32 → ms → Option (Int32 × ms)) (x1 : Int32) (x2 : Int32) (x3 : Int32) (s : ms) : Option (Int32 × ms) :=
  if x3 ≤ 0 then (hd_M_isNamed_49 N N x1 0 1 ((x2 - 1)) s) else (if (x3 < 0 ∨ 260 ≤ Int32.toNatClampNeg x3) then none else if (x2 < 0 ∨ 1100 ≤ Int32.toNatClampNeg x2) then none else if (x3 < 0 ∨ 260 ≤ Int32.toNatClampNeg x3) then none else k_9 x1 ((x2 + 1)) (((s.1 59) (Int32.toNatClampNeg x3))) (upI s 74 (upd (s.1 74) (Int32.toNatClampNeg x2) (((s.1 60) (Int32.toNatClampNeg x3))))))
def hd_M_isNamed_9 (N : Nat) : Nat → Int32 → Int32 → Int32 → ms → Option (Int32 × ms)
  | 0, _, _, _, _ => none
  | n + 1, x1, x2, x3, s => bd_M_isNamed_9 N (hd_M_isNamed_9 N n) x1 x2 x3 s
def fn_M_isNamed (N : Nat) (v1 : Int32) (s : ms) : Option (Int32 × ms) :=
  if (v1 < 0 ∨ 1100 ≤ Int32.toNatClampNeg v1) then none else hd_M_isNamed_9 N N v1 0 (((s.1 65) (Int32.toNatClampNeg v1))) s
def bd_M_find_29 (N : Nat) (k_29 : Int32 → Int32 → ms → Option (Int32 × ms)) (x1 : Int32) (x2 : Int32) (s : ms) : Option (Int32 × ms) :=
  if (s.1 63 0) ≤ x2 then (some (x1, upI s 88 (fun _ => 0))) else (if 0 ≤ x1 then (k_29 x1 ((x2 + 1)) s) else ((fn_M_isNamed N x2 s).bind (fun q_1 => if q_1.1 = 0 then (k_29 x1 ((x2 + 1)) q_1.2) else (k_29 x2 ((x2 + 1)) q_1.2))))
def hd_M_find_29 (N : Nat) : Nat → Int32 → Int32 → ms → Option (Int32 × ms)
  | 0, _, _, _ => none
  | n + 1, x1, x2, s => bd_M_find_29 N (hd_M_find_29 N n) x1 x2 s
def bk_M_find_13 (N : Nat) (t0 : Int32) (s : ms) : Option (Int32 × ms) :=
  if t0 ≤ 0 then (hd_M_find_29 N N ((-1)) 0 (upI s 0 (fun _ => t0))) else (some (0, upI s 0 (fun _ => t0)))
def fn_M_find (N : Nat) (s : ms) : Option (Int32 × ms) :=
  if (s.1 54 0) = 0 then (bk_M_find_13 N 1 s) else (bk_M_find_13 N 0 s)
def fn_M_isSignal (N : Nat) (v1 : Int32) (s : ms) : Option (Int32 × ms) :=
  if v1 < 0 then (some (0, s)) else (if (s.1 63 0) ≤ v1 then (some (0, s)) else (some (1, s)))
def fn_M_kindOf (N : Nat) (v1 : Int32) (s : ms) : Option (Int32 × ms) :=
  if (v1 < 0 ∨ 1100 ≤ Int32.toNatClampNeg v1) then none else (fn_M_isRegister N (((s.1 64) (Int32.toNatClampNeg v1))) s).bind (fun q_2 => if q_2.1 = 0 then (if (((s.1 64) (Int32.toNatClampNeg v1)) < 0 ∨ 11000 ≤ Int32.toNatClampNeg (((s.1 64) (Int32.toNatClampNeg v1)))) then none else if ((q_2.2.1 21) (Int32.toNatClampNeg (((s.1 64) (Int32.toNatClampNeg v1))))) = 0 then (if (v1 < 0 ∨ 1100 ≤ Int32.toNatClampNeg v1) then none else if ((q_2.2.1 65) (Int32.toNatClampNeg v1)) = 0 then (some (0, q_2.2)) else (some (1, q_2.2))) else (some (1, q_2.2))) else (some (2, q_2.2)))
def bk_M_signal_38 (N : Nat) (x1 : Int32) (x2 : Int32) (t0 : Int32) (s : ms) : Option (Int32 × ms) :=
  if t0 ≤ 0 then (if x2 = 0 then (if (x1 < 0 ∨ 1100 ≤ Int32.toNatClampNeg x1) then none else if (((s.1 64) (Int32.toNatClampNeg x1)) < 0 ∨ 11000 ≤ Int32.toNatClampNeg (((s.1 64) (Int32.toNatClampNeg x1)))) then none else some (((s.1 20) (Int32.toNatClampNeg (((s.1 64) (Int32.toNatClampNeg x1))))), upI s 0 (fun _ => t0))) else (if x2 = 1 then ((fn_M_kindOf N x1 (upI s 0 (fun _ => t0))).bind (fun q_1 => some (q_1.1, q_1.2))) else (if (x1 < 0 ∨ 1100 ≤ Int32.toNatClampNeg x1) then none else if (((s.1 64) (Int32.toNatClampNeg x1)) < 0 ∨ 11000 ≤ Int32.toNatClampNeg (((s.1 64) (Int32.toNatClampNeg x1)))) then none else if (((s.1 19) (Int32.toNatClampNeg (((s.1 64) (Int32.toNatClampNeg x1))))) < 0 ∨ 65540 ≤ Int32.toNatClampNeg (((s.1 19) (Int32.toNatClampNeg (((s.1 64) (Int32.toNatClampNeg x1))))))) then none else some (((s.1 5) (Int32.toNatClampNeg (((s.1 19) (Int32.toNatClampNeg (((s.1 64) (Int32.toNatClampNeg x1)))))))), upI s 0 (fun _ => t0))))) else (some (0, upI s 0 (fun _ => t0)))
def bk_M_signal_33 (N : Nat) (x1 : Int32) (x2 : Int32) (s : ms) : Option (Int32 × ms) :=
  bk_M_signal_38 N x1 x2 3 s
def fn_M_signal (N : Nat) (v1 : Int32) (v2 : Int32) (s : ms) : Option (Int32 × ms) :=
  if (s.1 54 0) = 0 then (bk_M_signal_38 N v1 v2 1 s) else ((fn_M_isSignal N v1 s).bind (fun q_1 => if q_1.1 = 0 then (bk_M_signal_38 N v1 v2 2 q_1.2) else (if v2 < 0 then (bk_M_signal_33 N v1 v2 q_1.2) else (if v2 ≤ 2 then (bk_M_signal_38 N v1 v2 0 q_1.2) else (bk_M_signal_33 N v1 v2 q_1.2)))))
def bk_M_reset_13 (N : Nat) (t0 : Int32) (s : ms) : Option (Unit × ms) :=
  if (s.1 54 0) = 0 then (some ((), upI s 0 (fun _ => t0))) else ((fn_M_begin0 N (upI s 0 (fun _ => t0))).bind (fun q_1 => some ((), q_1.2)))
def fn_M_reset (N : Nat) (s : ms) : Option (Unit × ms) :=
  if (s.1 54 0) = 0 then (bk_M_reset_13 N 1 s) else (bk_M_reset_13 N 0 s)
def bk_M_set_57 (N : Nat) (x1 : Int32) (x2 : Int32) (t0 : Int32) (s : ms) : Option (Unit × ms) :=
  if t0 = 0 then (if (x1 < 0 ∨ 1100 ≤ Int32.toNatClampNeg x1) then none else (fn_M_settle_82_83 N (upJ (upI s 0 (fun _ => t0)) 83 (vp_updL (s.2 83) (Int32.toNatClampNeg x1) ((Int32.toInt64 x2))))).bind (fun q_2 => some ((), q_2.2))) else (some ((), upI s 0 (fun _ => t0)))
def bk_M_set_52 (N : Nat) (x1 : Int32) (x2 : Int32) (s : ms) : Option (Unit × ms) :=
  bk_M_set_57 N x1 x2 3 s
def fn_M_set (N : Nat) (v1 : Int32) (v2 : Int32) (s : ms) : Option (Unit × ms) :=
  if (s.1 54 0) = 0 then (bk_M_set_57 N v1 v2 1 s) else ((fn_M_isSignal N v1 s).bind (fun q_1 => if q_1.1 = 0 then (bk_M_set_57 N v1 v2 2 q_1.2) else ((fn_M_kindOf N v1 q_1.2).bind (fun q_4 => if q_4.1 = 0 then (if v2 < 0 then (bk_M_set_52 N v1 v2 q_4.2) else (if (v1 < 0 ∨ 1100 ≤ Int32.toNatClampNeg v1) then none else if (((q_4.2.1 64) (Int32.toNatClampNeg v1)) < 0 ∨ 11000 ≤ Int32.toNatClampNeg (((q_4.2.1 64) (Int32.toNatClampNeg v1)))) then none else if ((v2 : Int32) >>> (((q_4.2.1 20) (Int32.toNatClampNeg (((q_4.2.1 64) (Int32.toNatClampNeg v1))))) &&& 31)) = 0 then (bk_M_set_57 N v1 v2 0 q_4.2) else (bk_M_set_52 N v1 v2 q_4.2))) else (bk_M_set_52 N v1 v2 q_4.2)))))
def bd_M_goOn_82_50 (N : Nat) (k_27 : Int32 → ms → Option (Unit × ms)) (k_50 : Int32 → Int32 → Int32 → ms → Option (Unit × ms)) (x2 : Int32) (x3 : Int32) (x4 : Int32) (s : ms) : Option (Unit × ms) :=
  if ((x3 + 1) < 0 ∨ 3601 ≤ Int32.toNatClampNeg ((x3 + 1))) then none else if ((s.1 17) (Int32.toNatClampNeg ((x3 + 1)))) ≤ x4 then (k_27 ((x2 + 1)) s) else (if (x4 < 0 ∨ 6600 ≤ Int32.toNatClampNeg x4) then none else if (x4 < 0 ∨ 6600 ≤ Int32.toNatClampNeg x4) then none else (fn_M_run N (((s.1 39) (Int32.toNatClampNeg x4))) (((s.1 40) (Int32.toNatClampNeg x4))) x2 s).bind (fun q_4 => k_50 x2 x3 ((x4 + 1)) q_4.2))
def hd_M_goOn_82_50 (N : Nat) (k_27 : Int32 → ms → Option (Unit × ms)) : Nat → Int32 → Int32 → Int32 → ms → Option (Unit × ms)
  | 0, _, _, _, _ => none
  | n + 1, x2, x3, x4, s => bd_M_goOn_82_50 N k_27 (hd_M_goOn_82_50 N k_27 n) x2 x3 x4 s
def bd_M_goOn_82_27 (N : Nat) (k_27 : Int32 → ms → Option (Unit × ms)) (x2 : Int32) (s : ms) : Option (Unit × ms) :=
  if (s.1 56 0) ≤ x2 then (some ((), s)) else (if (x2 < 0 ∨ 260 ≤ Int32.toNatClampNeg x2) then none else if (((s.1 57) (Int32.toNatClampNeg x2)) < 0 ∨ 3601 ≤ Int32.toNatClampNeg (((s.1 57) (Int32.toNatClampNeg x2)))) then none else hd_M_goOn_82_50 N k_27 N x2 (((s.1 57) (Int32.toNatClampNeg x2))) (((s.1 17) (Int32.toNatClampNeg (((s.1 57) (Int32.toNatClampNeg x2)))))) s)
def hd_M_goOn_82_27 (N : Nat) : Nat → Int32 → ms → Option (Unit × ms)
  | 0, _, _ => none
  | n + 1, x2, s => bd_M_goOn_82_27 N (hd_M_goOn_82_27 N n) x2 s
def bd_M_goOn_82_2 (N : Nat) (k_2 : Int32 → ms → Option (Unit × ms)) (x2 : Int32) (s : ms) : Option (Unit × ms) :=
  if (s.1 63 0) ≤ x2 then (hd_M_goOn_82_27 N N 0 s) else (if (x2 < 0 ∨ 1100 ≤ Int32.toNatClampNeg x2) then none else if (x2 < 0 ∨ 1100 ≤ Int32.toNatClampNeg x2) then none else k_2 ((x2 + 1)) (upJ s 81 (vp_updL (s.2 81) (Int32.toNatClampNeg x2) (((s.2 82) (Int32.toNatClampNeg x2))))))
def hd_M_goOn_82_2 (N : Nat) : Nat → Int32 → ms → Option (Unit × ms)
  | 0, _, _ => none
  | n + 1, x2, s => bd_M_goOn_82_2 N (hd_M_goOn_82_2 N n) x2 s
def fn_M_goOn_82 (N : Nat) (s : ms) : Option (Unit × ms) :=
  hd_M_goOn_82_2 N N 0 s
def bd_M_step_35 (N : Nat) (k_35 : Int32 → ms → Option (Int32 × ms)) (x1 : Int32) (s : ms) : Option (Int32 × ms) :=
  if (s.1 63 0) ≤ x1 then ((fn_M_settle_82_83 N s).bind (fun q_1 => some (((q_1.2.1 86 0) + 1), upI q_1.2 86 (fun _ => ((q_1.2.1 86 0) + 1))))) else (if (x1 < 0 ∨ 1100 ≤ Int32.toNatClampNeg x1) then none else if (x1 < 0 ∨ 1100 ≤ Int32.toNatClampNeg x1) then none else k_35 ((x1 + 1)) (upJ s 82 (vp_updL (s.2 82) (Int32.toNatClampNeg x1) (((s.2 81) (Int32.toNatClampNeg x1))))))
def hd_M_step_35 (N : Nat) : Nat → Int32 → ms → Option (Int32 × ms)
  | 0, _, _ => none
  | n + 1, x1, s => bd_M_step_35 N (hd_M_step_35 N n) x1 s
def bk_M_step_13 (N : Nat) (t0 : Int32) (s : ms) : Option (Int32 × ms) :=
  if t0 ≤ 0 then ((fn_M_goOn_82 N (upI s 0 (fun _ => t0))).bind (fun q_1 => hd_M_step_35 N N 0 q_1.2)) else (some (0, upI s 0 (fun _ => t0)))
def fn_M_step (N : Nat) (s : ms) : Option (Int32 × ms) :=
  if (s.1 54 0) = 0 then (bk_M_step_13 N 1 s) else (bk_M_step_13 N 0 s)
def bk_M_value_25 (N : Nat) (x1 : Int32) (t0 : Int32) (s : ms) : Option (Int64 × ms) :=
  if t0 ≤ 0 then (if (x1 < 0 ∨ 1100 ≤ Int32.toNatClampNeg x1) then none else some (((s.2 80) (Int32.toNatClampNeg x1)), upI s 0 (fun _ => t0))) else (some (0, upI s 0 (fun _ => t0)))
def fn_M_value (N : Nat) (v1 : Int32) (s : ms) : Option (Int64 × ms) :=
  if (s.1 54 0) = 0 then (bk_M_value_25 N v1 1 s) else ((fn_M_isSignal N v1 s).bind (fun q_1 => if q_1.1 = 0 then (bk_M_value_25 N v1 2 q_1.2) else (bk_M_value_25 N v1 0 q_1.2)))
def bd_M_failingNow_27 (N : Nat) (k_4 : Int32 → Int32 → ms → Option (Int32 × ms)) (k_27 : Int32 → Int32 → Int32 → Int32 → ms → Option (Int32 × ms)) (x1 : Int32) (x2 : Int32) (x3 : Int32) (x4 : Int32) (s : ms) : Option (Int32 × ms) :=
  if ((x3 + 1) < 0 ∨ 3601 ≤ Int32.toNatClampNeg ((x3 + 1))) then none else if ((s.1 16) (Int32.toNatClampNeg ((x3 + 1)))) ≤ x4 then (k_4 x1 ((x2 + 1)) s) else (if (x4 < 0 ∨ 6600 ≤ Int32.toNatClampNeg x4) then none else if (x4 < 0 ∨ 6600 ≤ Int32.toNatClampNeg x4) then none else (fn_M_run N (((s.1 36) (Int32.toNatClampNeg x4))) (((s.1 37) (Int32.toNatClampNeg x4))) x2 s).bind (fun q_4 => (fn_M_pop N q_4.2).bind (fun q_6 => if (lg_cmp q_6.1 0) = 0 then (k_27 ((x1 + 1)) x2 x3 ((x4 + 1)) q_6.2) else (k_27 x1 x2 x3 ((x4 + 1)) q_6.2))))
def hd_M_failingNow_27 (N : Nat) (k_4 : Int32 → Int32 → ms → Option (Int32 × ms)) : Nat → Int32 → Int32 → Int32 → Int32 → ms → Option (Int32 × ms)
  | 0, _, _, _, _, _ => none
  | n + 1, x1, x2, x3, x4, s => bd_M_failingNow_27 N k_4 (hd_M_failingNow_27 N k_4 n) x1 x2 x3 x4 s
def bd_M_failingNow_4 (N : Nat) (k_4 : Int32 → Int32 → ms → Option (Int32 × ms)) (x1 : Int32) (x2 : Int32) (s : ms) : Option (Int32 × ms) :=
  if (s.1 56 0) ≤ x2 then (some (x1, s)) else (if (x2 < 0 ∨ 260 ≤ Int32.toNatClampNeg x2) then none else if (((s.1 57) (Int32.toNatClampNeg x2)) < 0 ∨ 3601 ≤ Int32.toNatClampNeg (((s.1 57) (Int32.toNatClampNeg x2)))) then none else hd_M_failingNow_27 N k_4 N x1 x2 (((s.1 57) (Int32.toNatClampNeg x2))) (((s.1 16) (Int32.toNatClampNeg (((s.1 57) (Int32.toNatClampNeg x2)))))) s)
def hd_M_failingNow_4 (N : Nat) : Nat → Int32 → Int32 → ms → Option (Int32 × ms)
  | 0, _, _, _ => none
  | n + 1, x1, x2, s => bd_M_failingNow_4 N (hd_M_failingNow_4 N n) x1 x2 s
def fn_M_failingNow (N : Nat) (s : ms) : Option (Int32 × ms) :=
  hd_M_failingNow_4 N N 0 0 s
def bk_M_failing_13 (N : Nat) (t0 : Int32) (s : ms) : Option (Int32 × ms) :=
  if t0 ≤ 0 then ((fn_M_failingNow N (upI s 0 (fun _ => t0))).bind (fun q_1 => some (q_1.1, q_1.2))) else (some (0, upI s 0 (fun _ => t0)))
def fn_M_failing (N : Nat) (s : ms) : Option (Int32 × ms) :=
  if (s.1 54 0) = 0 then (bk_M_failing_13 N 1 s) else (bk_M_failing_13 N 0 s)
