/-! The class: an if, whole. -/
section CIFW
variable {tk pl vl wi : Nat → Nat} {nm : Nat → Option (Nat × Nat)} {nt : Nat} {ex : Nat → Int32} {N N0 N1 fd lc : Nat} {lit : Nat → Int64} {rg : Nat → Bool} {fz : Nat → Int32} {an dc : Nat} {P : Nat → Prop} {c0 : ms}
theorem gT_dead {σ : gs} {d : Nat} (h : σ.2.2.1 ≠ 0) (hN : 0 < N1) (hd : 0 < d) : (gT tk pl N1 d).1 σ = some σ := by
  obtain ⟨d, rfl⟩ : ∃ d', d = d' + 1 := ⟨d - 1, by omega⟩
  show gS1 tk pl N1 _ _ σ = some σ
  unfold gS1
  rw [gIs_dead h, gIs_dead h, gIs_dead h, gTake_dead h, gIs_dead h, if_neg (by decide), if_neg (by decide), if_neg (by decide), if_neg (by decide), gSet_dead h hN]
/-- an if without else: the meaning at its end -/
theorem if_noelse {c c1 c2 c3 : ms} {σ : gs} {μ : Option (Nat × Nat)} {sz C md t2 : Nat} {S : Nat → Nat} {r1 : xr} {r2 : sr} {w t1 : Nat} {L : List aop} {C1 sz2 : Nat} {S2 : Nat → Nat} {bb : Bool} {D2 : DT} {C2 : Nat} (hd60 : σ.2.1 ≤ 60) (hP : ∀ o, o ∈ L → o.1 = 1 → P o.2.1)
    (x9 : cEnc (c1.2 336) fd lit lc sz L) (x10 : c1.2 336 (sz + L.length) = crw 518 (-1)) (x11 : Hk 900 L 0 1) (x12 : Ty nm L [] [w]) (y9 : ∀ k, k < sz + L.length + 1 → c2.2 336 k = c1.2 336 k) (y11 : Cg (c2.2 336) fd lit lc P (σ.2.1 + 1) (sz + L.length + 1) sz2 D2) (hsz : sz + L.length + 1 ≤ sz2) (u : c3.2 336 = vp_updL (c2.2 336) (sz + L.length) (crw 518 (nI sz2))) :
    Cg (c3.2 336) fd lit lc P σ.2.1 sz sz2 (fun v n => if xval v L = 0 then n else D2 v n) := by
  intro v n st hst
  have row : ∀ k, k ≠ sz + L.length → c3.2 336 k = c2.2 336 k := fun k hk => by rw [u, updL_ne hk]
  have en : cEnc (c3.2 336) fd lit lc sz L := x9.mono (fun k hk => by rw [row k (by omega), y9 k (by omega)])
  have d2 : Cg (c3.2 336) fd lit lc P (σ.2.1 + 1) (sz + L.length + 1) sz2 D2 := y11.mono (fun k k1 _ => row k (by omega))
  have ro : c3.2 336 (sz + L.length) = crw 518 (nI sz2) := by rw [u, updL_at]
  refine (en.val (P := P) (v := v) (n := n) (st := st) x11 x12.le x12.ob hP (by omega)).trans ?_
  dsimp only
  by_cases z : xval v L = 0
  · rw [if_pos z]
    exact Rt.one (b := (sz2, st, n)) ⟨by show sz + L.length < sz2; omega, by show st.length ≤ 960; omega, Or.inr (Or.inr (Or.inl ⟨xval v L, rfl, rfl, Or.inl ⟨z, ro⟩⟩))⟩
  · rw [if_neg z]
    exact (Rt.one (b := (sz + L.length + 1, st, n)) ⟨by show sz + L.length < sz + L.length + 1; omega, by show st.length ≤ 960; omega, Or.inr (Or.inr (Or.inl ⟨xval v L, rfl, rfl, Or.inr ⟨z, ⟨_, ro⟩, rfl⟩⟩))⟩).trans (d2 v n st (by omega))
/-- with else -/
theorem if_else {c1 c2 c3 c4 c5 : ms} {σ : gs} {sz : Nat} {w : Nat} {L : List aop} {sz2 sz3 : Nat} {D2 D3 : DT} (hd60 : σ.2.1 ≤ 60) (hP : ∀ o, o ∈ L → o.1 = 1 → P o.2.1)
    (x9 : cEnc (c1.2 336) fd lit lc sz L) (x11 : Hk 900 L 0 1) (x12 : Ty nm L [] [w]) (y9 : ∀ k, k < sz + L.length + 1 → c2.2 336 k = c1.2 336 k) (y11 : Cg (c2.2 336) fd lit lc P (σ.2.1 + 1) (sz + L.length + 1) sz2 D2) (hsz : sz + L.length + 1 ≤ sz2) (u : c3.2 336 = vp_updL (vp_updL (c2.2 336) sz2 (crw 517 (-1))) (sz + L.length) (crw 518 (nI (sz2 + 1))))
    (v9 : ∀ k, k < sz2 + 1 → c4.2 336 k = c3.2 336 k) (v11 : Cg (c4.2 336) fd lit lc P (σ.2.1 + 1) (sz2 + 1) sz3 D3) (hsz3 : sz2 + 1 ≤ sz3) (u5 : c5.2 336 = vp_updL (c4.2 336) sz2 (crw 517 (nI sz3))) :
    Cg (c5.2 336) fd lit lc P σ.2.1 sz sz3 (fun v n => if xval v L = 0 then D3 v n else D2 v n) := by
  intro v n st hst
  have row5 : ∀ k, k ≠ sz2 → c5.2 336 k = c4.2 336 k := fun k hk => by rw [u5, updL_ne hk]
  have row3 : ∀ k, k < sz2 → k ≠ sz + L.length → c5.2 336 k = c2.2 336 k := fun k hk hk2 => by rw [row5 k (by omega), v9 k (by omega), u, updL_ne hk2, updL_ne (by omega)]
  have en : cEnc (c5.2 336) fd lit lc sz L := x9.mono (fun k hk => by rw [row3 k (by omega) (by omega), y9 k (by omega)])
  have d2 : Cg (c5.2 336) fd lit lc P (σ.2.1 + 1) (sz + L.length + 1) sz2 D2 := y11.mono (fun k k1 k2 => row3 k k2 (by omega))
  have d3 : Cg (c5.2 336) fd lit lc P (σ.2.1 + 1) (sz2 + 1) sz3 D3 := v11.mono (fun k k1 _ => row5 k (by omega))
  have ro : c5.2 336 (sz + L.length) = crw 518 (nI (sz2 + 1)) := by rw [row5 _ (by omega), v9 _ (by omega), u, updL_at]
  have rj : c5.2 336 sz2 = crw 517 (nI sz3) := by rw [u5, updL_at]
  refine (en.val (P := P) (v := v) (n := n) (st := st) x11 x12.le x12.ob hP (by omega)).trans ?_
  dsimp only
  by_cases z : xval v L = 0
  · rw [if_pos z]
    exact (Rt.one (b := (sz2 + 1, st, n)) ⟨by show sz + L.length < sz2 + 1; omega, by show st.length ≤ 960; omega, Or.inr (Or.inr (Or.inl ⟨xval v L, rfl, rfl, Or.inl ⟨z, ro⟩⟩))⟩).trans (d3 v n st (by omega))
  · rw [if_neg z]
    exact (Rt.one (b := (sz + L.length + 1, st, n)) ⟨by show sz + L.length < sz + L.length + 1; omega, by show st.length ≤ 960; omega, Or.inr (Or.inr (Or.inl ⟨xval v L, rfl, rfl, Or.inr ⟨z, ⟨_, ro⟩, rfl⟩⟩))⟩).trans ((d2 v n st (by omega)).trans (Rt.one (b := (sz3, st, D2 v n)) ⟨by show sz2 < sz3; omega, by show st.length ≤ 960; omega, Or.inr (Or.inr (Or.inr (Or.inl ⟨rj, rfl⟩)))⟩))
end CIFW
