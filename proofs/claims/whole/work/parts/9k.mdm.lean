/-! The reference's tables against those of a design. -/
def RL (s : ms) (la nc r1 r2 i : Nat) (L : List aop) : Prop := ∃ x, s.1 r1 i = nI (3 * x) ∧ s.1 r2 i = nI (3 * (x + L.length)) ∧ x + L.length ≤ la ∧ rEnc (s.1 41) (s.2 43) nc x L
def mst (x : Nat) : Nat := if 1000000000 < x then 1000000000 else x
/-- rows -/
def Dtb (A : ds) (s : ms) : Prop :=
  (s.1 12 0 = nI (A.1 46 0) ∧ s.1 18 0 = nI (A.1 40 0) ∧ s.1 27 0 = nI (A.1 41 0) ∧ s.1 31 0 = nI (A.1 42 0) ∧ s.1 35 0 = nI (A.1 43 0) ∧ s.1 38 0 = nI (A.1 44 0)) ∧
  (∀ d, d < A.1 40 0 → s.1 19 d = nI (A.1 0 d) ∧ s.1 20 d = nI (A.1 1 d) ∧ s.1 21 d = nI (A.1 2 d) ∧ s.2 22 d = lN (A.1 3 d) ∧ s.1 23 d = nI (A.1 4 d)) ∧
  (∀ i, i < A.1 41 0 → s.1 28 i = nI (A.1 10 i) ∧ s.1 29 i = nI (A.1 11 i)) ∧ (∀ i, i ≤ A.1 41 0 → s.1 30 i = nI (A.1 12 i)) ∧ (∀ k, k < A.1 42 0 → s.1 32 k = nI (A.1 13 k)) ∧
  (∀ m, m < A.1 46 0 → s.1 13 m = nI (A.1 20 m) ∧ s.2 45 m = lN (mst (A.1 27 m)) ∧ s.2 46 m = lN (mst (A.1 30 m)) ∧ s.2 47 m = lN (mst (A.1 29 m)) ∧ s.2 48 m = lN (mst (A.1 28 m)))
def Dset (A : ds) (s : ms) : Prop := (∀ d, A.1 21 (A.1 46 0) ≤ d → d < A.1 40 0 → s.1 26 d = nI (A.1 5 d)) ∧ ∀ d, A.1 5 d ≤ 20000
/-- code -/
def Dcd (A : ds) (s : ms) (la nc : Nat) : Prop :=
  (∀ d, d < A.1 40 0 → (A.1 4 d = 1 → RL s la nc 24 25 d (A.2.1 0 d)) ∧ (A.1 4 d = 2 → s.1 24 d = nI (A.1 6 d) ∧ s.1 25 d = nI (A.1 7 d))) ∧
  (∀ k, k < A.1 42 0 → RL s la nc 33 34 k (A.2.1 1 k)) ∧ (∀ a, a < A.1 43 0 → RL s la nc 36 37 a (A.2.1 2 a)) ∧
  (∀ a, a < A.1 44 0 → ∃ x y, s.1 39 a = nI (3 * x) ∧ s.1 40 a = nI (3 * y) ∧ x ≤ y ∧ y ≤ la ∧ Rg (s.1 41) (s.2 43) nc (fun d => (A.1 34 a ≤ d ∧ d < A.1 33 a, A.1 1 d)) x y (A.2.2 a) ∧ A.1 33 a ≤ A.1 40 0)
/-- where modules begin -/
def Dfi (b : Nat) (A : ds) (s : ms) : Prop := ∀ m, m < b → s.1 14 m = nI (A.1 21 m) ∧ s.1 15 m = nI (A.1 22 m) ∧ s.1 16 m = nI (A.1 23 m) ∧ s.1 17 m = nI (A.1 24 m) ∧ s.1 13 m = nI (A.1 20 m)
/-- within a module -/
def DM (nt : Nat) (s0 : ms) (A : ds) (t la nc : Nat) (s : ms) : Prop :=
  DE s0 s ∧ Xm s 0 t la nc 0 0 ∧ Bd nt t la nc (A.1 47 0) ∧ Dtb A s ∧ Dset A s ∧ Dcd A s la nc ∧ Dfi (A.1 46 0 + 1) A s ∧ s.2 45 (A.1 46 0) = lN (A.1 47 0)
section MDM
variable {tk pl vl wi wd : Nat → Nat} {nt N : Nat} {s0 s s' : ms} {A : ds} {t la nc : Nat}
theorem RL.keep {la' nc' r1 r2 i : Nat} {L : List aop} (h : RL s la nc r1 r2 i L) (h1 : s'.1 r1 i = s.1 r1 i) (h2 : s'.1 r2 i = s.1 r2 i) (h41 : ∀ k, k < 3 * la → s'.1 41 k = s.1 41 k) (h43 : ∀ k, k < nc → s'.2 43 k = s.2 43 k) (hla : la ≤ la') (hnc : nc ≤ nc') : RL s' la' nc' r1 r2 i L := by
  obtain ⟨x, a1, a2, a3, a4⟩ := h
  exact ⟨x, by rw [h1]; exact a1, by rw [h2]; exact a2, by omega, a4.mono (fun k k1 => h41 k (by omega)) h43 hnc⟩
theorem Dtb.keep {ks js : List Nat} (h : Dtb A s) (e : Eb ks js s s') (hk : 12 ∉ ks ∧ 18 ∉ ks ∧ 27 ∉ ks ∧ 31 ∉ ks ∧ 35 ∉ ks ∧ 38 ∉ ks ∧ 19 ∉ ks ∧ 20 ∉ ks ∧ 21 ∉ ks ∧ 23 ∉ ks ∧ 28 ∉ ks ∧ 29 ∉ ks ∧ 30 ∉ ks ∧ 32 ∉ ks ∧ 13 ∉ ks) (hj : 22 ∉ js ∧ 46 ∉ js ∧ 47 ∉ js ∧ 48 ∉ js) (h45 : ∀ k, k < A.1 46 0 → s'.2 45 k = s.2 45 k) : Dtb A s' := by
  obtain ⟨k1, k2, k3, k4, k5, k6, k7, k8, k9, k10, k11, k12, k13, k14, k15⟩ := hk
  obtain ⟨j1, j2, j3, j4⟩ := hj
  obtain ⟨h1, h2, h3, h4, h5, h6⟩ := h
  refine ⟨by rw [e.1 12 k1, e.1 18 k2, e.1 27 k3, e.1 31 k4, e.1 35 k5, e.1 38 k6]; exact h1, by rw [e.1 19 k7, e.1 20 k8, e.1 21 k9, e.2 22 j1, e.1 23 k10]; exact h2, by rw [e.1 28 k11, e.1 29 k12]; exact h3, by rw [e.1 30 k13]; exact h4, by rw [e.1 32 k14]; exact h5, fun m hm => ?_⟩
  rw [e.1 13 k15, h45 m hm, e.2 46 j2, e.2 47 j3, e.2 48 j4]
  exact h6 m hm
theorem Dcd.keep {ks js : List Nat} {la' nc' : Nat} (h : Dcd A s la nc) (e : Eb ks js s s') (hk : 24 ∉ ks ∧ 25 ∉ ks ∧ 33 ∉ ks ∧ 34 ∉ ks ∧ 36 ∉ ks ∧ 37 ∉ ks ∧ 39 ∉ ks ∧ 40 ∉ ks) (h41 : ∀ k, k < 3 * la → s'.1 41 k = s.1 41 k) (h43 : ∀ k, k < nc → s'.2 43 k = s.2 43 k) (hla : la ≤ la') (hnc : nc ≤ nc') : Dcd A s' la' nc' := by
  obtain ⟨k1, k2, k3, k4, k5, k6, k7, k8⟩ := hk
  obtain ⟨h1, h2, h3, h4⟩ := h
  refine ⟨fun d hd => ⟨fun z => ((h1 d hd).1 z).keep (by rw [e.1 24 k1]) (by rw [e.1 25 k2]) h41 h43 hla hnc, by rw [e.1 24 k1, e.1 25 k2]; exact (h1 d hd).2⟩, fun k hk => (h2 k hk).keep (by rw [e.1 33 k3]) (by rw [e.1 34 k4]) h41 h43 hla hnc, fun k hk => (h3 k hk).keep (by rw [e.1 36 k5]) (by rw [e.1 37 k6]) h41 h43 hla hnc, fun a ha => ?_⟩
  obtain ⟨x, y, a1, a2, a3, a4, a5⟩ := h4 a ha
  exact ⟨x, y, by rw [e.1 39 k7]; exact a1, by rw [e.1 40 k8]; exact a2, a3, by omega, a5.1.mono (fun k k1 k2 => h41 k (by omega)) h43 hnc, a5.2⟩
theorem Dfi.keep {b : Nat} {ks js : List Nat} (h : Dfi b A s) (e : Eb ks js s s') (hk : 14 ∉ ks ∧ 15 ∉ ks ∧ 16 ∉ ks ∧ 17 ∉ ks ∧ 13 ∉ ks) : Dfi b A s' := by
  intro m hm
  rw [e.1 14 hk.1, e.1 15 hk.2.1, e.1 16 hk.2.2.1, e.1 17 hk.2.2.2.1, e.1 13 hk.2.2.2.2]
  exact h m hm
theorem Dset.keep {ks js : List Nat} (h : Dset A s) (e : Eb ks js s s') (hk : 26 ∉ ks) : Dset A s' := ⟨by rw [e.1 26 hk]; exact h.1, h.2⟩
/-- what an exp stands on -/
theorem SM_of {u : Nat} (hN : 13002 < N) (hnt : nt ≤ 12001) (hS : SD tk pl vl wi wd nt N s0) (e : DE s0 s) (hu : u ≤ nt + 1) (hW : WF tk nt A u) (hT : Dtb A s) (hF : Dfi (A.1 46 0 + 1) A s) : SM tk pl vl wi (dNm wd A) nt (A.1 46 0) N s := by
  obtain ⟨⟨a1, a2, a3, a4, a5, a6, a7⟩, w2, w3, w4, w5, w6, w7⟩ := hW
  obtain ⟨c1, c2, c3, c4, c5, c6⟩ := hS
  refine ⟨hT.1.1, by omega, by rw [e.1 4 (by decide), e.1 5 (by decide)]; exact c1, by rw [e.1 4 (by decide)]; exact c2, fun s2 e2 => c3 s2 (e.trans (SE.toDE e2)), fun s2 e2 => c4 s2 (e.trans (SE.toDE e2)), fun s2 e2 i hi k4 => ?_, fun i q hq => ?_, fun i hi => ⟨(c6 i).1, fun z => ⟨Nat.lt_of_lt_of_le ((c6 i).2 z).1 (Nat.pow_le_pow_right (by decide) ((c6 i).2 z).2.2), ((c6 i).2 z).2⟩⟩⟩
  · have e12 : s2.1 12 0 = nI (A.1 46 0) := by rw [e2.1 12 (by decide)]; exact hT.1.1
    have e18 : s2.1 18 0 = nI (A.1 40 0) := by rw [e2.1 18 (by decide)]; exact hT.1.2.1
    have e14 : s2.1 14 (A.1 46 0) = nI (A.1 21 (A.1 46 0)) := by rw [e2.1 14 (by decide)]; exact (hF _ (by omega)).1
    have le := (w3 _ (Nat.le_refl _)).1
    unfold fn_M_here fn_M_signalNamed
    rw [e12, if_neg (nI_in (show A.1 46 0 < 3601 by omega) (by decide)), nI_clamp (by omega), e14, e18]
    rw [signalNamed_M (g := A.1 0) (tk := tk) (pl := pl) (vl := vl) (wi := wi) (wd := wd) (nt := nt) (s0 := s0) ⟨c1, c2, c3, c4, c5, c6⟩ (e.trans (SE.toDE e2)) hi k4 (by omega) (A.1 40 0 - A.1 21 (A.1 46 0)) (A.1 21 (A.1 46 0)) N (by omega) (by omega) (fun d d1 d2 => ⟨by rw [e2.1 19 (by decide)]; exact (hT.2.1 d d2).1, (w2 d d2).1, (w2 d d2).2.1⟩), obind]
    show some (oI (dHere wd A i), s2) = _
    unfold dNm
    cases dHere wd A i <;> rfl
  · unfold dNm at hq
    match er : dHere wd A i with
    | none => rw [er] at hq; cases hq
    | some d =>
      rw [er] at hq
      cases hq
      obtain ⟨e1, e2, e3, -⟩ := fnd_some er
      have le := (w3 _ (Nat.le_refl _)).1
      have dl : d < A.1 40 0 := by omega
      exact ⟨by show d < 11000; omega, (hT.2.1 d dl).2.1, (w2 d dl).2.2.1, (w2 d dl).2.2.2.1⟩
theorem SM2_of {u : Nat} (hN : 13002 < N) (hnt : nt ≤ 12001) (hS : SD tk pl vl wi wd nt N s0) (e : DE s0 s) (hu : u ≤ nt + 1) (hW : WF tk nt A u) (hT : Dtb A s) (hF : Dfi (A.1 46 0 + 1) A s) : SM2 tk pl vl wi (dNm wd A) nt (A.1 46 0) N s := by
  intro s2 e2
  obtain ⟨h1, h2, h3, h4, h5, h6⟩ := hT
  obtain ⟨⟨a1, a2, a3, a4, a5, a6, a7⟩, w2, w3, w4, w5, w6, w7⟩ := hW
  obtain ⟨c1, c2, c3, c4, c5, c6⟩ := hS
  refine ⟨by rw [e2.1 12 (by decide)]; exact h1.1, by omega, by rw [e2.1 4 (by decide), e2.1 5 (by decide), e.1 4 (by decide), e.1 5 (by decide)]; exact c1, by rw [e2.1 4 (by decide), e.1 4 (by decide)]; exact c2, fun s3 e3 => c3 s3 ((e.trans (SE2.toDE e2)).trans (SE.toDE e3)), fun s3 e3 => c4 s3 ((e.trans (SE2.toDE e2)).trans (SE.toDE e3)), fun s3 e3 i hi k4 => ?_, fun i q hq => ?_, fun i hi => ⟨(c6 i).1, fun z => ⟨Nat.lt_of_lt_of_le ((c6 i).2 z).1 (Nat.pow_le_pow_right (by decide) ((c6 i).2 z).2.2), ((c6 i).2 z).2⟩⟩⟩
  · have e12 : s3.1 12 0 = nI (A.1 46 0) := by rw [e3.1 12 (by decide), e2.1 12 (by decide)]; exact h1.1
    have e18 : s3.1 18 0 = nI (A.1 40 0) := by rw [e3.1 18 (by decide), e2.1 18 (by decide)]; exact h1.2.1
    have e14 : s3.1 14 (A.1 46 0) = nI (A.1 21 (A.1 46 0)) := by rw [e3.1 14 (by decide), e2.1 14 (by decide)]; exact (hF _ (by omega)).1
    have le := (w3 _ (Nat.le_refl _)).1
    unfold fn_M_here fn_M_signalNamed
    rw [e12, if_neg (nI_in (show A.1 46 0 < 3601 by omega) (by decide)), nI_clamp (by omega), e14, e18]
    rw [signalNamed_M (g := A.1 0) (tk := tk) (pl := pl) (vl := vl) (wi := wi) (wd := wd) (nt := nt) (s0 := s0) ⟨c1, c2, c3, c4, c5, c6⟩ ((e.trans (SE2.toDE e2)).trans (SE.toDE e3)) hi k4 (by omega) (A.1 40 0 - A.1 21 (A.1 46 0)) (A.1 21 (A.1 46 0)) N (by omega) (by omega) (fun d d1 d2 => ⟨by rw [e3.1 19 (by decide), e2.1 19 (by decide)]; exact (h2 d d2).1, (w2 d d2).1, (w2 d d2).2.1⟩), obind]
    show some (oI (dHere wd A i), s3) = _
    unfold dNm
    cases dHere wd A i <;> rfl
  · unfold dNm at hq
    match er : dHere wd A i with
    | none => rw [er] at hq; cases hq
    | some d =>
      rw [er] at hq
      cases hq
      obtain ⟨e1, e2', e3, -⟩ := fnd_some er
      have le := (w3 _ (Nat.le_refl _)).1
      have dl : d < A.1 40 0 := by omega
      exact ⟨by show d < 11000; omega, by rw [e2.1 20 (by decide)]; exact (h2 d dl).2.1, (w2 d dl).2.2.1, (w2 d dl).2.2.2.1⟩
/-- the lengths of its rows that grow -/
def Lk (s : ms) : Prop := ∃ la nc, Ln s la nc
theorem Xm.lk {s : ms} {f t la nc W F : Nat} (h : Xm s f t la nc W F) : Lk s := ⟨la, nc, h.2.2.2.2.2.2.2.2.2.2.2.2⟩
theorem Lk.keep {s s' : ms} {ks js : List Nat} (h : Lk s) (e : Eb ks js s s') (h1 : 91 ∉ ks) (h2 : 92 ∉ ks) : Lk s' := by
  unfold Lk Ln at *
  rw [e.1 91 h1, e.1 92 h2]
  exact h
/-- a fault, at the end of an item -/
def Zd (B : Nat) (s0 s' : ms) (f p : Nat) : Prop := DE s0 s' ∧ 0 < f ∧ (f < 100 ∧ Lk s') ∧ s'.1 9 0 = nI f ∧ s'.1 10 0 = nI p ∧ (∃ t, t < B ∧ s'.1 8 0 = nI t) ∧ ∃ m dc it, s'.1 12 0 = nI m ∧ m < 3500 ∧ s'.1 18 0 = nI dc ∧ dc < 10000 ∧ s'.1 27 0 = nI it ∧ it < 10000 ∧ (∃ a, s'.1 14 m = nI a ∧ a ≤ dc) ∧ (∃ a, s'.1 15 m = nI a ∧ a ≤ it) ∧ (∀ k, k < it → ∃ m', m' < 3600 ∧ s'.1 28 k = nI m')
def Dx (B nt : Nat) (s0 : ms) (o : Option (Unit × ms)) (r : dr) : Prop := ∀ q, r = some q → ∃ s', o = some ((), s') ∧ (∀ f p, q = .inl (f, p) → Zd B s0 s' f p) ∧ (∀ t' A', q = .inr (t', A') → ∃ la' nc', DM nt s0 A' t' la' nc' s')
theorem Zd.mk {B f p dc it x u : Nat} (hW : WF tk nt A u) (hu : u ≤ nt + 1) (hnt : nt ≤ 12001) (h : DM nt s0 A t la nc s) (e : DE s s') (hf : 0 < f) (hf2 : f < 100 ∧ Lk s') (h9 : s'.1 9 0 = nI f) (h10 : s'.1 10 0 = nI p) (h8 : s'.1 8 0 = nI x) (hx : x < B) (h12 : s'.1 12 = s.1 12) (h14 : s'.1 14 = s.1 14) (h15 : s'.1 15 = s.1 15) (h18 : s'.1 18 0 = nI dc) (d1 : A.1 40 0 ≤ dc) (d2 : dc ≤ A.1 40 0 + 1) (h27 : s'.1 27 0 = nI it) (i1 : A.1 41 0 ≤ it) (i2 : it ≤ A.1 41 0 + 1) (h28 : ∀ k, k < it → ∃ m', m' < 3600 ∧ s'.1 28 k = nI m') : Zd B s0 s' f p := by
  obtain ⟨⟨a1, a2, a3, a4, a5, a6, a7⟩, w2, w3, w4, w5, w6, w7⟩ := hW
  obtain ⟨g1, g2, g3, g4, g5, g6, g7, g8⟩ := h
  have := w3 _ (Nat.le_refl _)
  have f7 := g7 (A.1 46 0) (by omega)
  exact ⟨g1.trans e, hf, hf2, h9, h10, ⟨x, hx, h8⟩, A.1 46 0, dc, it, by rw [h12]; exact g4.1.1, by omega, h18, by omega, h27, by omega, ⟨_, by rw [h14]; exact f7.1, by omega⟩, ⟨_, by rw [h15]; exact f7.2.1, by omega⟩, h28⟩
/-- items of a design that stands -/
theorem DM.i28 {u : Nat} (hW : WF tk nt A u) (hu : u ≤ nt + 1) (hnt : nt ≤ 12001) (h : DM nt s0 A t la nc s) : ∀ k, k < A.1 41 0 → ∃ m', m' < 3600 ∧ s.1 28 k = nI m' := fun k hk => ⟨A.1 10 k, by have := (hW.2.2.2.2.1 k hk).1; have := hW.1.2.2.2.2.2.2; omega, (h.2.2.2.1.2.2.1 k hk).1⟩
/-- a fault that changes no table -/
theorem Zd.z {B f p x u : Nat} (hW : WF tk nt A u) (hu : u ≤ nt + 1) (hnt : nt ≤ 12001) (h : DM nt s0 A t la nc s) (e : SE2 s s') (hf : 0 < f) (hf2 : f < 100 ∧ Lk s') (h9 : s'.1 9 0 = nI f) (h10 : s'.1 10 0 = nI p) (h8 : s'.1 8 0 = nI x) (hx : x < B) : Zd B s0 s' f p :=
  Zd.mk hW hu hnt h (SE2.toDE e) hf hf2 h9 h10 h8 hx (e.1 12 (by decide)) (e.1 14 (by decide)) (e.1 15 (by decide)) (by rw [e.1 18 (by decide)]; exact h.2.2.2.1.1.2.1) (Nat.le_refl _) (by omega) (by rw [e.1 27 (by decide)]; exact h.2.2.2.1.1.2.2.1) (Nat.le_refl _) (by omega) (by rw [e.1 28 (by decide)]; exact h.i28 hW hu hnt)
end MDM
