/-! The class: a circuit is built: signals and links. -/
section CBS
variable {tk pl : Nat → Nat} {nt t : Nat} {A : ds} {c c' c0 : ms} {N m sz lc : Nat} {lit : Nat → Int64} {L : Nat → ly} {n ns : Nat}
/-- a signal as it is laid first -/
def Sg0 (A : ds) (c0 c : ms) (b m r : Nat) : Prop := c.1 298 (b + r) = nI (A.1 21 m + r) ∧ c.1 301 (b + r) = nI b ∧ c.1 302 (b + r) = -1 ∧ (srt (A.1 2 (A.1 21 m + r)) = 1 → c.1 299 (b + r) = c0.1 326 (A.1 21 m + r) ∧ c.1 300 (b + r) = c0.1 327 (A.1 21 m + r)) ∧ (srt (A.1 2 (A.1 21 m + r)) ≠ 1 → c.1 299 (b + r) = 0 ∧ c.1 300 (b + r) = 0)
theorem sigs_L {b : Nat} (hJ : JB A) (hB : Bn A) (hm : m < A.1 46 0) (hb : b + own A m ≤ ns) (hns : ns ≤ 1024) : ∀ (k q F : Nat) (c : ms), q + k = own A m → k < F → CTb pl lit lc A sz c → c.1 293 0 = nI ns → ∃ c', hd_Circuit_laySignals_Cs_36 N F (nI b) (nI (A.1 21 m)) (nI (own A m)) (nI q) c = some ((), c') ∧ Eb [298, 299, 300, 301, 302] [] c c' ∧ (∀ x, x < b + q ∨ b + own A m ≤ x → c'.1 298 x = c.1 298 x ∧ c'.1 299 x = c.1 299 x ∧ c'.1 300 x = c.1 300 x ∧ c'.1 301 x = c.1 301 x ∧ c'.1 302 x = c.1 302 x) ∧ (∀ r, q ≤ r → r < own A m → Sg0 A c c' b m r) := by
  have bb := hB.2
  have r := hJ.r21 hm
  intro k
  induction k with
  | zero =>
    intro q F c hq hF hT h293
    obtain ⟨F, rfl⟩ : ∃ F', F = F' + 1 := ⟨F - 1, by omega⟩
    show ∃ c', bd_Circuit_laySignals_Cs_36 N (hd_Circuit_laySignals_Cs_36 N F) _ _ _ _ c = _ ∧ _
    unfold bd_Circuit_laySignals_Cs_36
    rw [if_pos (nI_le (by omega) (by omega))]
    exact ⟨c, rfl, Eb.rfl, fun x _ => ⟨rfl, rfl, rfl, rfl, rfl⟩, fun r h1 h2 => by omega⟩
  | succ k ih =>
    intro q F c hq hF hT h293
    obtain ⟨F, rfl⟩ : ∃ F', F = F' + 1 := ⟨F - 1, by omega⟩
    have hd : A.1 21 m + q < A.1 40 0 := by omega
    have k324 : c.1 324 (A.1 21 m + q) = nI (srt (A.1 2 (A.1 21 m + q))) := (hT.2.1 _ hd).2.2.1
    have sl : srt (A.1 2 (A.1 21 m + q)) ≤ 2 := by unfold srt; split <;> (try split) <;> omega
    have iX := nI_in (show b + q < 1024 by omega) (by decide)
    have iX2 := nI_in2 (show b + q < 1024 by omega) (by decide)
    have iD2 := nI_in2 (show A.1 21 m + q < 10923 by omega) (by decide)
    -- one signal
    have one : ∃ c1, hd_Circuit_laySignals_Cs_36 N (F + 1) (nI b) (nI (A.1 21 m)) (nI (own A m)) (nI q) c = hd_Circuit_laySignals_Cs_36 N F (nI b) (nI (A.1 21 m)) (nI (own A m)) (nI (q + 1)) c1 ∧ Eb [298, 299, 300, 301, 302] [] c c1 ∧ (∀ x, x ≠ b + q → c1.1 298 x = c.1 298 x ∧ c1.1 299 x = c.1 299 x ∧ c1.1 300 x = c.1 300 x ∧ c1.1 301 x = c.1 301 x ∧ c1.1 302 x = c.1 302 x) ∧ Sg0 A c c1 b m q := by
      show ∃ c1, bd_Circuit_laySignals_Cs_36 N (hd_Circuit_laySignals_Cs_36 N F) _ _ _ _ c = _ ∧ _
      unfold bd_Circuit_laySignals_Cs_36 bk_Circuit_laySignals_Cs_78 bk_Circuit_laySignals_Cs_125 bk_Circuit_laySignals_Cs_158
      rw [if_neg (nI_ge (by omega) (by omega)), nI_add, nI_add, h293, if_neg (nI_ge (by omega) (by omega)), if_neg (nI_in (show A.1 21 m + q < 10923 by omega) (by decide)), nI_clamp (by omega), nI_clamp (by omega), nI_1, k324]
      by_cases z : srt (A.1 2 (A.1 21 m + q)) = 1
      · rw [z, if_pos (show nI 1 = 1 from rfl), if_neg iX2, if_neg (show ¬ (1 : Int32) = 0 by decide), if_neg iD2, if_neg iX2, if_neg (show ¬ (1 : Int32) = 0 by decide), if_neg iD2, if_neg iX2, if_neg iX2, if_neg iX2]
        refine ⟨_, rfl, ((((Eb.rfl.upI (by decide)).upI (by decide)).upI (by decide)).upI (by decide)).upI (by decide), fun x hx => ⟨upd_ne hx, upd_ne hx, upd_ne hx, upd_ne hx, upd_ne hx⟩, upd_at _ _ _, upd_at _ _ _, upd_at _ _ _, fun _ => ⟨upd_at _ _ _, upd_at _ _ _⟩, fun y => absurd z y⟩
      · rw [if_neg (show ¬ nI (srt (A.1 2 (A.1 21 m + q))) = 1 from fun y => z ((nI_eq (b := 1) (by omega) (by omega)).mp y)), if_neg iX2, if_pos rfl, if_neg iX2, if_pos rfl, if_neg iX2, if_neg iX2, if_neg iX2]
        refine ⟨_, rfl, ((((Eb.rfl.upI (by decide)).upI (by decide)).upI (by decide)).upI (by decide)).upI (by decide), fun x hx => ⟨upd_ne hx, upd_ne hx, upd_ne hx, upd_ne hx, upd_ne hx⟩, upd_at _ _ _, upd_at _ _ _, upd_at _ _ _, fun y => absurd y z, fun _ => ⟨upd_at _ _ _, upd_at _ _ _⟩⟩
    obtain ⟨c1, o1, o2, o3, o4⟩ := one
    obtain ⟨c', y1, y2, y3, y4⟩ := ih (q + 1) F c1 (by omega) (by omega) (hT.keep (o2.mono (by decide) (by decide))) (by rw [o2.1 293 (by decide)]; exact h293)
    refine ⟨c', by rw [o1]; exact y1, o2.trans y2, fun x hx => ?_, fun r h1 h2 => ?_⟩
    · obtain ⟨a1, a2, a3, a4, a5⟩ := y3 x (by omega)
      obtain ⟨b1, b2, b3, b4, b5⟩ := o3 x (by omega)
      exact ⟨a1.trans b1, a2.trans b2, a3.trans b3, a4.trans b4, a5.trans b5⟩
    · by_cases z : r = q
      · subst z
        obtain ⟨a1, a2, a3, a4, a5⟩ := y3 (b + r) (by omega)
        obtain ⟨d1, d2, d3, d4, d5⟩ := o4
        unfold Sg0
        rw [a1, a2, a3, a4, a5]
        exact ⟨d1, d2, d3, d4, d5⟩
      · have := y4 r (by omega) h2
        unfold Sg0 at *
        rw [o2.1 326 (by decide), o2.1 327 (by decide)] at this
        exact this
theorem sigs_C {i : Nat} (hN : 13002 < N) (hJ : JB A) (hB : Bn A) (hL : Ly A L n ns) (hn : n ≤ 257) (hns : ns ≤ 1024) (hi : i < n) (hT : CTb pl lit lc A sz c) (h293 : c.1 293 0 = nI ns) (hR : c.1 295 i = nI (L i).1 ∧ c.1 294 i = nI (L i).2.1) : ∃ c', fn_Circuit_laySignals_Cs N (nI i) c = some ((), c') ∧ Eb [298, 299, 300, 301, 302] [] c c' ∧ (∀ x, x < (L i).2.1 ∨ (L i).2.1 + own A (L i).1 ≤ x → c'.1 298 x = c.1 298 x ∧ c'.1 299 x = c.1 299 x ∧ c'.1 300 x = c.1 300 x ∧ c'.1 301 x = c.1 301 x ∧ c'.1 302 x = c.1 302 x) ∧ (∀ r, r < own A (L i).1 → Sg0 A c c' (L i).2.1 (L i).1 r) := by
  have b := hB.2
  have hl := hL.2.2.2 i hi
  have r := hJ.r21 hl.1
  have sm := hJ.sums hl.1
  unfold fn_Circuit_laySignals_Cs
  rw [if_neg (nI_in (show i < 257 by omega) (by decide)), if_neg (nI_in (show i < 257 by omega) (by decide)), nI_clamp (by omega), hR.1, hR.2, fDecl_C hJ hB hT (by omega), obind]
  dsimp only
  rw [if_neg (nI_in2 (show i < 257 by omega) (by decide)), hR.1, ownS_C hJ hB hT hl.1, obind]
  dsimp only
  obtain ⟨c', y1, y2, y3, y4⟩ := sigs_L (N := N) (pl := pl) (lit := lit) (lc := lc) (sz := sz) (b := (L i).2.1) hJ hB hl.1 (by omega) hns (own A (L i).1) 0 N c (by omega) (by omega) hT h293
  exact ⟨c', y1, y2, fun x hx => y3 x (by omega), fun r hr => y4 r (Nat.zero_le _) hr⟩
/-- where a link's ends are: the port's signal within, the signal without -/
def lki (A : ds) (b k : Nat) : Nat := b + (A.1 13 k - A.1 37 k)
def lko (A : ds) (o k : Nat) : Nat := o + (A.1 14 k - 1 - A.1 36 k)
theorem isSig_S {ns x : Nat} {c : ms} (h293 : c.1 293 0 = nI ns) (hx : x < ns) (hns : ns ≤ 1024) : fn_Circuit_isSignal_Cs N (nI x) c = some (1, c) := by
  unfold fn_Circuit_isSignal_Cs
  rw [if_neg (nI_pos (by omega)), h293, if_neg (nI_ge hx (by omega))]
theorem links_L {b o e : Nat} (hJ : JB A) (hB : Bn A) (he : e < A.1 41 0) (hb : b + own A (A.1 10 e) ≤ ns) (ho : o + own A (A.1 9 e) ≤ ns) (hns : ns ≤ 1024) : ∀ (k q F : Nat) (c : ms), q + k = A.1 12 (e + 1) → A.1 12 e ≤ q → k < F → CTb pl lit lc A sz c → c.1 293 0 = nI ns → (∀ r, r < own A (A.1 10 e) → c.1 298 (b + r) = nI (A.1 21 (A.1 10 e) + r)) → ∃ c', hd_Circuit_layLinks_Cs_53 N F (nI b) (nI o) (nI (A.1 12 (e + 1))) (nI q) c = some ((), c') ∧ Eb [299, 300, 301, 302] [] c c' ∧ (∀ k, q ≤ k → k < A.1 12 (e + 1) → (A.1 14 k = 0 → c'.1 299 (lki A b k) = c.1 334 k ∧ c'.1 300 (lki A b k) = c.1 335 k ∧ c'.1 301 (lki A b k) = nI o) ∧ (A.1 14 k ≠ 0 → c'.1 302 (lko A o k) = nI (lki A b k))) ∧ (∀ x, (∀ k, q ≤ k → k < A.1 12 (e + 1) → A.1 14 k = 0 → x ≠ lki A b k) → c'.1 299 x = c.1 299 x ∧ c'.1 300 x = c.1 300 x ∧ c'.1 301 x = c.1 301 x) ∧ (∀ x, (∀ k, q ≤ k → k < A.1 12 (e + 1) → A.1 14 k ≠ 0 → x ≠ lko A o k) → c'.1 302 x = c.1 302 x) := by
  have bb := hB.2
  have l42 := hJ.lk42 he
  obtain ⟨⟨⟨hN, hI, hLv, -, -, -, hM⟩, h12⟩, -⟩ := id hJ
  have hie := hI e he
  have r10 := hJ.r21 (m := A.1 10 e) (by have := hM.2.2.2.2.2 e he; omega)
  intro k
  induction k with
  | zero =>
    intro q F c hq hq0 hF hT h293 h298
    obtain ⟨F, rfl⟩ : ∃ F', F = F' + 1 := ⟨F - 1, by omega⟩
    show ∃ c', bd_Circuit_layLinks_Cs_53 N (hd_Circuit_layLinks_Cs_53 N F) _ _ _ _ c = _ ∧ _
    unfold bd_Circuit_layLinks_Cs_53
    rw [if_pos (nI_le (by omega) (by omega))]
    exact ⟨c, rfl, Eb.rfl, fun k h1 h2 => by omega, fun x _ => ⟨rfl, rfl, rfl⟩, fun x _ => rfl⟩
  | succ k ih =>
    intro q F c hq hq0 hF hT h293 h298
    obtain ⟨F, rfl⟩ : ∃ F', F = F' + 1 := ⟨F - 1, by omega⟩
    have hk : q < A.1 42 0 := by omega
    have e18 : A.1 18 q = e := (hJ.lnk he hk).mpr ⟨hq0, by omega⟩
    obtain ⟨a1, a2, a3, a4, a5, a6, a7, a8, a9, a10, a11, a12, a13, a14, a15⟩ := hLv q hk
    rw [e18] at a4 a5 a6 a7 a9 a14
    obtain ⟨t1, t2, t3⟩ := hT.2.2.2.2.1 q hk
    have p1 : A.1 13 q - A.1 37 q < own A (A.1 10 e) := by omega
    have k298 : c.1 298 (b + (A.1 13 q - A.1 37 q)) = nI (A.1 13 q) := by
      rw [h298 _ p1]
      congr 1
      omega
    have k324 : c.1 324 (A.1 13 q) = nI (srt (A.1 2 (A.1 13 q))) := (hT.2.1 _ a10).2.2.1
    have iX := nI_in (show b + (A.1 13 q - A.1 37 q) < 1024 by omega) (by decide)
    have iX2 := nI_in2 (show b + (A.1 13 q - A.1 37 q) < 1024 by omega) (by decide)
    have iK2 := nI_in2 (show q < 10923 by omega) (by decide)
    have one : ∃ c1, hd_Circuit_layLinks_Cs_53 N (F + 1) (nI b) (nI o) (nI (A.1 12 (e + 1))) (nI q) c = hd_Circuit_layLinks_Cs_53 N F (nI b) (nI o) (nI (A.1 12 (e + 1))) (nI (q + 1)) c1 ∧ Eb [299, 300, 301, 302] [] c c1 ∧ ((A.1 14 q = 0 → c1.1 299 = upd (c.1 299) (lki A b q) (c.1 334 q) ∧ c1.1 300 = upd (c.1 300) (lki A b q) (c.1 335 q) ∧ c1.1 301 = upd (c.1 301) (lki A b q) (nI o) ∧ c1.1 302 = c.1 302) ∧ (A.1 14 q ≠ 0 → c1.1 302 = upd (c.1 302) (lko A o q) (nI (lki A b q)) ∧ c1.1 299 = c.1 299 ∧ c1.1 300 = c.1 300 ∧ c1.1 301 = c.1 301)) := by
      show ∃ c1, bd_Circuit_layLinks_Cs_53 N (hd_Circuit_layLinks_Cs_53 N F) _ _ _ _ c = _ ∧ _
      unfold bd_Circuit_layLinks_Cs_53
      rw [if_neg (nI_ge (by omega) (by omega)), if_neg (nI_in (show q < 10923 by omega) (by decide)), if_neg (nI_in (show q < 10923 by omega) (by decide)), nI_clamp (show q < 2 ^ 31 by omega), t1, nI_add, isSig_S h293 (show b + (A.1 13 q - A.1 37 q) < ns by omega) hns, obind]
      dsimp only
      rw [if_neg (show ¬ (1 : Int32) = 0 by decide), if_neg iX, nI_clamp (show b + (A.1 13 q - A.1 37 q) < 2 ^ 31 by omega), k298, if_neg (nI_in (show A.1 13 q < 10923 by omega) (by decide)), nI_clamp (show A.1 13 q < 2 ^ 31 by omega), k324, nI_1]
      by_cases z : A.1 14 q = 0
      · rw [show srt (A.1 2 (A.1 13 q)) = 0 by rw [a12.mp z]; rfl, if_pos (show nI 0 = 0 from rfl), if_neg iK2, if_neg iX2, if_neg iK2, if_neg iX2, if_neg iX2]
        exact ⟨_, rfl, ((Eb.rfl.upI (by decide)).upI (by decide)).upI (by decide), fun _ => ⟨rfl, rfl, rfl, rfl⟩, fun y => absurd z y⟩
      · have s0 : srt (A.1 2 (A.1 13 q)) ≠ 0 := by
          unfold srt
          have : ¬ A.1 2 (A.1 13 q) = 0 := fun y => z (a12.mpr y)
          rw [if_neg this]
          split <;> omega
        have s2 : srt (A.1 2 (A.1 13 q)) ≤ 2 := by unfold srt; split <;> (try split) <;> omega
        obtain ⟨s', hs⟩ : ∃ s', A.1 14 q = s' + 1 := ⟨A.1 14 q - 1, by omega⟩
        obtain ⟨g1, g2, -⟩ := a14 s' hs
        obtain ⟨n1, n2, n3, n4, -⟩ := hN s' g1
        have r9 : A.1 9 e < A.1 46 0 := by
          have := hie.2.2.2.1
          by_cases y : A.1 9 e < A.1 46 0
          · exact y
          · have y2 : A.1 9 e = A.1 46 0 := by omega
            rw [y2] at hie
            have := hJ.2.2.1
            omega
        have rr := hJ.r21 r9
        rw [g2] at n3 n4
        unfold en at n4
        rw [if_pos r9] at n4
        rw [if_neg (show ¬ nI (srt (A.1 2 (A.1 13 q))) = 0 from fun y => s0 ((nI_eq (b := 0) (by omega) (by omega)).mp y)), t3 z, nI_add, isSig_S h293 (show o + (A.1 14 q - 1 - A.1 36 q) < ns by omega) hns, obind]
        dsimp only
        rw [if_neg (show ¬ (1 : Int32) = 0 by decide), if_neg (nI_in (show o + (A.1 14 q - 1 - A.1 36 q) < 1024 by omega) (by decide)), nI_clamp (show o + (A.1 14 q - 1 - A.1 36 q) < 2 ^ 31 by omega)]
        exact ⟨_, rfl, Eb.rfl.upI (by decide), fun y => absurd y z, fun _ => ⟨rfl, rfl, rfl, rfl⟩⟩
    obtain ⟨c1, o1, o2, o3, o4⟩ := one
    obtain ⟨c', y1, y2, y3, y4, y5⟩ := ih (q + 1) F c1 (by omega) (by omega) (by omega) (hT.keep (o2.mono (by decide) (by decide))) (by rw [o2.1 293 (by decide)]; exact h293) (fun r hr => by rw [o2.1 298 (by decide)]; exact h298 r hr)
    -- ends differ
    have df : ∀ k, q + 1 ≤ k → k < A.1 12 (e + 1) → lki A b q ≠ lki A b k := fun k h1 h2 z => by
      have e18k : A.1 18 k = e := (hJ.lnk he (by omega)).mpr ⟨by omega, h2⟩
      obtain ⟨-, -, -, -, -, -, b7, b8, -⟩ := hLv k (by omega)
      rw [e18k] at b7
      unfold lki at z
      have := a15 k (by omega) (by rw [e18k, e18]) (by omega)
      omega
    have dg : ∀ k, q + 1 ≤ k → k < A.1 12 (e + 1) → A.1 14 k ≠ 0 → A.1 14 q ≠ 0 → lko A o q ≠ lko A o k := fun k h1 h2 z0 z1 z => by
      have e18k : A.1 18 k = e := (hJ.lnk he (by omega)).mpr ⟨by omega, h2⟩
      obtain ⟨-, -, -, -, -, b6, b7, b8, b9, b10, b11, b12, b13, b14, b15⟩ := hLv k (by omega)
      rw [e18k] at b6 b14
      obtain ⟨u, hu⟩ : ∃ u, A.1 14 q = u + 1 := ⟨A.1 14 q - 1, by omega⟩
      obtain ⟨v, hv⟩ : ∃ v, A.1 14 k = v + 1 := ⟨A.1 14 k - 1, by omega⟩
      obtain ⟨u1, u2, u3, u4, u5⟩ := a14 u hu
      obtain ⟨v1, v2, v3, v4, v5⟩ := b14 v hv
      have nu := (hN u u1).2.2.1
      have nv := (hN v v1).2.2.1
      rw [u2] at nu
      rw [v2] at nv
      unfold lko at z
      have : u = v := by omega
      subst this
      have := a15 k (by omega) (by rw [e18k, e18]) (by rw [← v5.1, u5.1])
      omega
    refine ⟨c', by rw [o1]; exact y1, o2.trans y2, fun k h1 h2 => ?_, fun x hx => ?_, fun x hx => ?_⟩
    · by_cases z : k = q
      · subst z
        refine ⟨fun z0 => ?_, fun z0 => ?_⟩
        · obtain ⟨w1, w2, w3⟩ := y4 (lki A b k) (fun k' h1' h2' _ => df k' h1' h2')
          obtain ⟨v1, v2, v3, -⟩ := o3 z0
          rw [w1, w2, w3, v1, v2, v3, upd_at, upd_at, upd_at]
          exact ⟨rfl, rfl, rfl⟩
        · rw [y5 (lko A o k) (fun k' h1' h2' z' => dg k' h1' h2' z' z0), (o4 z0).1, upd_at]
      · have := y3 k (by omega) h2
        rw [o2.1 334 (by decide), o2.1 335 (by decide)] at this
        exact this
    · obtain ⟨w1, w2, w3⟩ := y4 x (fun k h1 h2 h3 => hx k (by omega) h2 h3)
      rw [w1, w2, w3]
      by_cases z : A.1 14 q = 0
      · obtain ⟨v1, v2, v3, -⟩ := o3 z
        have := hx q (Nat.le_refl _) (by omega) z
        rw [v1, v2, v3, upd_ne this, upd_ne this, upd_ne this]
        exact ⟨rfl, rfl, rfl⟩
      · obtain ⟨-, v1, v2, v3⟩ := o4 z
        rw [v1, v2, v3]
        exact ⟨rfl, rfl, rfl⟩
    · rw [y5 x (fun k h1 h2 h3 => hx k (by omega) h2 h3)]
      by_cases z : A.1 14 q = 0
      · rw [(o3 z).2.2.2]
      · rw [(o4 z).1, upd_ne (hx q (Nat.le_refl _) (by omega) z)]
end CBS
