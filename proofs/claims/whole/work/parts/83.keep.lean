theorem Gx.lay {B : Nat} {s t : hS} (hx : Gx B s t) (L : Lay B s) (hl : LyT B t) : Lay B t := by
  refine ⟨fun i c hi => (hx.2.1 _).trans (L.1 i c hi), fun e he => (hx.2.2.1 _ ?_ ?_ ?_ _).trans (L.2.1 e he), hl⟩
  · have : ∀ e ∈ layR, e.1 ≠ 11 := by decide
    have := this e he
    omega
  · have : ∀ e ∈ layR, e.1 ≠ 22 := by decide
    have := this e he
    omega
  · have : ∀ e ∈ layR, e.1 ≠ 33 := by decide
    have := this e he
    omega
theorem LyT.cp {B : Nat} {s t : hS} {a b : Nat} (h : LyT B s) (ha : a = 1 ∨ a = 12 ∨ a = 23) (hb : b = 1 ∨ b = 12 ∨ b = 23) (hx : Rx (B + a) s t) (hr : ∀ i, i < 14 → hR t (B + a + 10) i = hR s (B + b + 10) i) : LyT B t := by
  intro o ho i hi c hc
  rw [hx.2.1, hx.1.1]
  by_cases e : o = a + 10
  · rw [show B + o = B + a + 10 by omega, hr i hi, show B + b + 10 = B + (b + 10) by omega] at hc
    exact h (b + 10) (by omega) i hi c hc
  · rw [hx.2.2.1 _ (by omega)] at hc
    exact h o ho i hi c hc
theorem LyT.sm {B : Nat} {s t : hS} (h : LyT B s) (h1 : t.1 = s.1) (hk : ∀ a, hK t a = hK s a) (hr : ∀ a k, hR t a k = hR s a k) : LyT B t := by
  intro o ho i hi c hc
  rw [hk, h1]
  rw [hr] at hc
  exact h o ho i hi c hc
theorem Lay.hb {B : Nat} {s : hS} (L : Lay B s) (b : Nat) (hb : b = 1 ∨ b = 12 ∨ b = 23) : ∀ i, i < 14 → ∀ c, hR s (B + b + 10) i = some c → (hK s c).1 = 4 := by
  intro i hi c hc
  rw [Nat.add_assoc] at hc
  exact (L.2.2 (b + 10) (by omega) i hi c hc).1
theorem Lay.k68 {B : Nat} {s : hS} (L : Lay B s) : hK s (B + 68) = (10, 1476) := L.k 68 10 1476 rfl
theorem Lay.k69 {B : Nat} {s : hS} (L : Lay B s) : hK s (B + 69) = (10, 1476) := L.k 69 10 1476 rfl
theorem Lay.m1 {B : Nat} {s : hS} (L : Lay B s) : gR s (B + 66) 7 1 = some (B + 68) := L.gm 1 68 0 (by decide)
theorem Lay.m2 {B : Nat} {s : hS} (L : Lay B s) : gR s (B + 66) 7 2 = some (B + 69) := L.gm 2 69 0 (by decide)
theorem Lay.gi {B : Nat} {s : hS} (L : Lay B s) : gR s B 6 1 = some (B + 12) := gR_ok L.kx (L.r 0 1 12 (by decide))
theorem Lay.gth {B : Nat} {s : hS} (L : Lay B s) : gR s B 6 2 = some (B + 23) := gR_ok L.kx (L.r 0 2 23 (by decide))
theorem Lay.ki {B : Nat} {s : hS} (L : Lay B s) : hK s (B + 12) = (5, 18) := L.k 12 5 18 rfl
theorem Lay.kth {B : Nat} {s : hS} (L : Lay B s) : hK s (B + 23) = (5, 18) := L.k 23 5 18 rfl
theorem InWai.cg {B : Nat} {s t : hS} (h : InWai B s) (e1 : hI t B 9 = hI s B 9) (e2 : hI t (B + 66) 33 = hI s (B + 66) 33) (e3 : ∀ k, hI t (B + 64) k = hI s (B + 64) k) (e4 : ∀ k, hI t (B + 88) k = hI s (B + 88) k) : InWai B t := by
  obtain ⟨n, h1, h2, h3, h4⟩ := h
  exact ⟨n, h1, e1.trans h2, e2.trans h3, fun i hi => by rw [e3, e4]; exact h4 i hi⟩
/-- one place alone is written -/
theorem Sx.x68 {B : Nat} {s t : hS} (h : Sx (fun x => x = B + 68) s t) : Gx B s t := Gx.sx h (fun a ha => by omega)
theorem Sx.x67 {B : Nat} {s t : hS} (h : Sx (fun x => x = B + 67) s t) : Gx B s t := Gx.sx h (fun a ha => by omega)
theorem Sx.x69 {B : Nat} {s t : hS} (h : Sx (fun x => x = B + 69) s t) : Gx B s t := Gx.sx h (fun a ha => by omega)
theorem stp_keep (B : Nat) : StpC B (fun s => f_X6_keep s B) (fun s => f_X7_keep s (B + 66)) := by
  refine stp_set fun s nt τ h => ?_
  have L := h.1
  have hC := h.2.2.2.1
  have hM := h.2.2.2.2.1
  have hok := h.2.2.1
  obtain ⟨s', k1, q, g⟩ := c_bco (L.tly 12 (Or.inr (Or.inl rfl))) (L.tly 1 (Or.inl rfl)) (Or.inl (by omega)) (L.hb 1 (Or.inl rfl))
  have G1 : Gx B s (uI s' B 3 1) := (Gx.rx q.1 (Or.inr (Or.inl rfl))).tr (Gx.u s' B 3 1 (Or.inl ⟨rfl, Or.inl rfl⟩))
  have T1 : LyT B (uI s' B 3 1) := (L.2.2.cp (a := 12) (b := 1) (by omega) (by omega) q.1 g).sm rfl (fun _ => rfl) (fun _ _ => rfl)
  have L1 := G1.lay L T1
  have L' : Lay B s' := L1
  obtain ⟨s2, k2, x2, c2⟩ := m_cpa L1.kn L1.k68 (by omega)
  have L2 := L1.sx x2
  have ei : ∀ a k, ¬ (a = B ∧ k = 3) → ¬ (a = B + 66 ∧ k = 3) → ¬ (B + 12 ≤ a ∧ a < B + 22) → a ≠ B + 68 → hI (uI s2 (B + 66) 3 1) a k = hI s a k := by
    intro a k h1 h2 h3 h4
    rw [uI_ne h2, x2.2.2.2 a h4 k, uI_ne h1]
    exact q.1.2.2.2 a (by omega) k
  have er : ∀ a, a ≠ B + 22 → ∀ k, hR (uI s2 (B + 66) 3 1) a k = hR s a k := fun a ha k => (x2.2.2.1 a k).trans (q.1.2.2.1 a (by omega) k)
  have G2 : Gx B s (uI s2 (B + 66) 3 1) := (G1.tr x2.x68).tr (Gx.u s2 (B + 66) 3 1 (Or.inr ⟨rfl, Or.inl rfl⟩))
  have T2 : LyT B (uI s2 (B + 66) 3 1) := (T1.sm x2.1.1 x2.2.1 x2.2.2.1).sm rfl (fun _ => rfl) (fun _ _ => rfl)
  have e67 : hI (uI s2 (B + 66) 3 1) (B + 67) = hI s (B + 67) := funext fun k => ei _ k (by omega) (by omega) (by omega) (by omega)
  refine ⟨nI (tK τ), uI s' B 3 1, uI s2 (B + 66) 3 1, ?_, ?_, L1, (h.gen (τ' := τ) G2 T2 hok ?_ ?_ ?_ ?_).inv, G2.1.1, G2.1.2⟩
  · show f_X6_keep s B = _
    unfold f_X6_keep
    refine bnd L.gi (bnd L.gt (bnd ((cV_ok L.ki).trans k1) (bnd (pZ_ok L'.kx (Or.inr rfl)) (bnd L1.gt (bnd (gI_ok L1.kt) ?_)))))
    rw [uI_ne (by omega), q.1.2.2.2 _ (by omega), hC.1.1.2.2.2.1]
  · show f_X7_keep (uI s' B 3 1) (B + 66) = _
    unfold f_X7_keep
    refine bnd L1.gn (bnd L1.m1 (bnd k2 (bnd (pZ_ok L2.km (Or.inr rfl)) (bnd (L2.u _ _ _).gn (bnd ((L2.u _ _ _).an 3 rfl (by decide)) ?_)))))
    rw [e67, hM.1.2.2.2.1]
  · exact G2.town hC (fun k => er _ (by omega) k) (fun r hr k => ei _ k (by omega) (by omega) (by omega) (by omega))
  · rw [e67]
    exact hM
  · refine Or.inr ⟨?_, uI_eq _ _ _ _, τ, hok, ?_, ?_⟩
    · rw [uI_ne (by omega), x2.2.2.2 _ (by omega), uI_eq]
    · refine G2.came hok hC (fun i hi => (x2.2.2.1 _ _).trans (g i hi)) (fun r k hD => ?_)
      have hD' : r < 10 := by unfold DD at hD; omega
      rw [uI_ne (by omega), x2.2.2.2 _ (by omega), uI_ne (by omega)]
      exact q.2 r k hD
    · refine hM.cg hok (fun k hk => ?_)
      rw [uI_ne (by omega), c2 k hk, uI_ne (by omega)]
      exact q.1.2.2.2 _ (by omega) k
  · exact h.2.2.2.2.2.2.2.2.2.1.cg (ei _ _ (by omega) (by omega) (by omega) (by omega)) (ei _ _ (by omega) (by omega) (by omega) (by omega)) (fun k => ei _ _ (by omega) (by omega) (by omega) (by omega)) (fun k => ei _ _ (by omega) (by omega) (by omega) (by omega))
theorem stp_back (B : Nat) : StpC B (fun s => f_X6_back s B) (fun s => f_X7_back s (B + 66)) := by
  refine stp_set fun s nt τ h => ?_
  have L := h.1
  rcases h.2.2.2.2.2.1 with ⟨z1, z2⟩ | ⟨z1, z2, ι, iok, iC, iM⟩
  · refine ⟨-1000000002, s, s, ?_, ?_, L, h.inv, rfl, rfl⟩
    · show f_X6_back s B = _
      unfold f_X6_back
      exact bnd (gI_ok L.kx) (ifp z1 rfl)
    · show f_X7_back s (B + 66) = _
      unfold f_X7_back
      exact bnd (gI_ok L.km) (ifp z2 rfl)
  obtain ⟨s', k1, q, g⟩ := c_bco (L.tly 1 (Or.inl rfl)) (L.tly 12 (Or.inr (Or.inl rfl))) (Or.inr (by omega)) (L.hb 12 (Or.inr (Or.inl rfl)))
  have G1 : Gx B s s' := Gx.rx q.1 (Or.inl rfl)
  have T1 : LyT B s' := L.2.2.cp (a := 1) (b := 12) (by omega) (by omega) q.1 g
  have L1 := G1.lay L T1
  obtain ⟨s2, k2, x2, c2⟩ := m_cpa L1.k68 L1.kn (by omega)
  have L2 := L1.sx x2
  have ei : ∀ a k, ¬ (B + 1 ≤ a ∧ a < B + 11) → a ≠ B + 67 → hI s2 a k = hI s a k := by
    intro a k h3 h4
    rw [x2.2.2.2 a h4 k]
    exact q.1.2.2.2 a (by omega) k
  have er : ∀ a, a ≠ B + 11 → ∀ k, hR s2 a k = hR s a k := fun a ha k => (x2.2.2.1 a k).trans (q.1.2.2.1 a (by omega) k)
  have G2 : Gx B s s2 := G1.tr x2.x67
  have T2 : LyT B s2 := T1.sm x2.1.1 x2.2.1 x2.2.2.1
  have e68 : hI s' (B + 68) = hI s (B + 68) := funext fun k => q.1.2.2.2 _ (by omega) k
  refine ⟨nI (tK ι), s', s2, ?_, ?_, L1, (h.gen (τ' := ι) G2 T2 iok ?_ ?_ ?_ ?_).inv, G2.1.1, G2.1.2⟩
  · show f_X6_back s B = _
    unfold f_X6_back
    refine bnd (gI_ok L.kx) (ifn (by rw [z1]; exact one_ne) (bnd L.gt (bnd L.gi (bnd ((cV_ok L.kt).trans k1) (bnd L1.gt (bnd (gI_ok L1.kt) ?_))))))
    rw [show hI s' (B + 1) 3 = hI s (B + 12) 3 from q.2 0 3 (by unfold DD; omega), iC.1.1.2.2.2.1]
  · show f_X7_back s' (B + 66) = _
    unfold f_X7_back
    refine bnd (gI_ok L1.km) (ifn (by rw [q.1.2.2.2 _ (by omega), z2]; exact one_ne) (bnd L1.m1 (bnd L1.gn (bnd k2 (bnd L2.gn (bnd (L2.an 3 rfl (by decide)) ?_))))))
    rw [c2 3 (by omega), e68, iM.1.2.2.2.1]
  · refine G2.came iok iC (fun i hi => (x2.2.2.1 _ _).trans (g i hi)) (fun r k hD => ?_)
    have hD' : r < 10 := by unfold DD at hD; omega
    rw [x2.2.2.2 _ (by omega)]
    exact q.2 r k hD
  · exact iM.cg iok (fun k hk => by rw [c2 k hk, e68])
  · refine Or.inr ⟨(ei _ _ (by omega) (by omega)).trans z1, (ei _ _ (by omega) (by omega)).trans z2, ι, iok, G2.town iC (fun k => er _ (by omega) k) (fun r hr k => ei _ k (by omega) (by omega)), ?_⟩
    have e : hI s2 (B + 68) = hI s (B + 68) := funext fun k => ei _ _ (by omega) (by omega)
    rw [e]
    exact iM
  · exact h.2.2.2.2.2.2.2.2.2.1.cg (ei _ _ (by omega) (by omega)) (ei _ _ (by omega) (by omega)) (fun k => ei _ _ (by omega) (by omega)) (fun k => ei _ _ (by omega) (by omega))
