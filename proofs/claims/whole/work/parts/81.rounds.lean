theorem c_conv' {B nt T : Nat} {s : hS} {τ : Tw} (h : CT B nt T s τ) {j : Nat} (hj : j < tK τ) : ∃ s', f_X5_converse s T (nI (tR τ 8 j)) (nI (tR τ 9 j)) (nI (tR τ 10 j)) = some (bI (gos τ (tR τ 8 j) (tR τ 9 j) (tR τ 10 j)), s') ∧ CT B nt T s' (cvG τ (tR τ 8 j) (tR τ 9 j) (tR τ 10 j)) ∧ Sx (TP B T) s s' := by
  obtain ⟨hk, hp, hq, hne⟩ := h.2.2.1.2.2.2.2.1 j hj
  exact c_conv h hk hp hq
theorem m_goesOn {B : Nat} {s : hS} {τ : Tw} (h : MT B s τ) {j : Nat} (hj : j < tK τ) : ∃ s', f_X7_goesOn s (B + 66) (nI j) = some (bI (gos τ (tR τ 8 j) (tR τ 9 j) (tR τ 10 j)), s') ∧ MT B s' (cvG τ (tR τ 8 j) (tR τ 9 j) (tR τ 10 j)) ∧ Sx (MZ B) s s' := by
  obtain ⟨hk, hp, hq, hne⟩ := h.2.2.2.2.2.2.1 j hj
  have b8 := h.2.2.1.2.2.2.1
  have m8 := h.2.1.2.2.2.2.1 j (by omega)
  obtain ⟨s1, k1, c1, x1⟩ := m_goes h hk hp hq hne
  refine ⟨s1, ?_, c1, x1⟩
  unfold f_X7_goesOn
  refine bnd h.1.gn (bnd (h.1.an (80 + 3 * j) (ixm 80 3 j) (by omega)) (bnd h.1.gn (bnd (h.1.an (81 + 3 * j) (ixe 80 3 j 1 (by omega)) (by omega)) (bnd h.1.gn (bnd (h.1.an (82 + 3 * j) (ixe 80 3 j 2 (by omega)) (by omega)) ?_)))))
  rw [m8.1, m8.2.1, m8.2.2]
  refine bnd ((cV_ok h.1.km).trans k1) (ifp ?_ rfl)
  cases gos τ (tR τ 8 j) (tR τ 9 j) (tR τ 10 j)
  · exact Or.inl rfl
  · exact Or.inr rfl
theorem stp_say (B : Nat) (a0 : Int32) : StpC B (fun s => f_X6_say s B a0) (fun s => f_X7_say s (B + 66) a0) := by
  refine stp_move fun s nt τ h => ?_
  show ∃ v τ', tX τ' = tX τ ∧ τ'.2.2 = τ.2.2 ∧ (∃ s1, f_X6_say s B a0 = some (v, s1) ∧ Sx (CP B) s s1 ∧ CT B nt (B + 1) s1 τ') ∧ ∀ t, MT B t τ → ∃ t2, f_X7_say t (B + 66) a0 = some (v, t2) ∧ Sx (MP B) t t2 ∧ MT B t2 τ'
  have L := h.1
  have hN := h.2.2.2.1.1
  have hok := h.2.2.1
  have b8 := hok.1.2.2.2.1
  have Tl := L.tly 1 (Or.inl rfl)
  have ix : (a0 < 0 ∨ nI (tK τ) ≤ a0) ∨ ∃ j : Nat, j < tK τ ∧ a0 = nI j := by
    rcases pk_ix a0 (n := tK τ) (by omega) with q | q | q
    · exact Or.inl (Or.inl q)
    · exact Or.inl (Or.inr q)
    · exact Or.inr q
  rcases ix with hb | ⟨j, hj, rfl⟩
  · refine ⟨-1000000001, τ, rfl, rfl, ⟨s, ?_, Sx.rf _ s, h.ct⟩, fun t ht => ⟨t, ?_, Sx.rf _ t, ht⟩⟩
    · unfold f_X6_say
      exact bnd ((cV_ok L.kx).trans (noT_out L hN hb)) (ifn one_ne rfl)
    · unfold f_X7_say
      exact bnd ((cV_ok ht.1.km).trans (isT_out ht.1 ht.2.1 hok hb)) (ifp rfl rfl)
  have kp := cvG_k τ (tR τ 8 j) (tR τ 9 j) (tR τ 10 j)
  have c8 := hN.2.2.2.2 j (by omega)
  refine ⟨bI (gos τ (tR τ 8 j) (tR τ 9 j) (tR τ 10 j)), cvG τ (tR τ 8 j) (tR τ 9 j) (tR τ 10 j), kp.x, kp.2, ?_, fun t ht => ?_⟩
  · obtain ⟨s1, k1, c1, x1⟩ := c_conv' h.ct hj
    refine ⟨s1, ?_, x1.mono (fun a ha => ha.cp (Or.inl rfl)), c1⟩
    unfold f_X6_say
    refine bnd ((cV_ok L.kx).trans (noT_in L hN hok hj)) (ifp rfl (bnd L.gt (bnd L.gt (bnd Tl.g14 (bnd (Tl.a7 (by omega)) (bnd L.gt (bnd Tl.g15 (bnd (Tl.ap (by omega)) (bnd L.gt (bnd Tl.g16 (bnd (Tl.aq (by omega)) ?_)))))))))))
    rw [c8.1, c8.2.1, c8.2.2]
    exact bnd ((cV_ok L.kt).trans k1) (bI_if _ s1)
  · obtain ⟨t1, k1, c1, x1⟩ := m_goesOn ht hj
    refine ⟨t1, ?_, x1.mono (fun a ha => ha.mp), c1⟩
    unfold f_X7_say
    exact bnd ((cV_ok ht.1.km).trans (isT_in ht.1 ht.2.1 hok hj)) (ifn one_ne (bnd ((cV_ok ht.1.km).trans k1) (bI_if _ t1)))
/-- the first talks of a round: how many went, and the town behind them -/
def rnd (τ : Tw) : Nat → Nat × Tw
  | 0 => (0, τ)
  | n + 1 => ((rnd τ n).1 + (gos (rnd τ n).2 (tR τ 8 n) (tR τ 9 n) (tR τ 10 n)).toNat, cvG (rnd τ n).2 (tR τ 8 n) (tR τ 9 n) (tR τ 10 n))
def rndT (τ : Tw) : Tw := upT (rnd τ (tK τ)).2 0 5 (tH τ + 1)
theorem rnd_k (τ : Tw) : ∀ n, Kp τ (rnd τ n).2
  | 0 => Kp.rf τ
  | n + 1 => (rnd_k τ n).tr (cvG_k _ _ _ _)
theorem rnd_h (τ : Tw) : ∀ n, tH (rnd τ n).2 = tH τ
  | 0 => rfl
  | n + 1 => (cvG_h _ _ _ _).trans (rnd_h τ n)
theorem rnd_le (τ : Tw) : ∀ n, (rnd τ n).1 ≤ n
  | 0 => Nat.le_refl 0
  | n + 1 => by
    have := rnd_le τ n
    show (rnd τ n).1 + (gos (rnd τ n).2 (tR τ 8 n) (tR τ 9 n) (tR τ 10 n)).toNat ≤ n + 1
    cases gos (rnd τ n).2 (tR τ 8 n) (tR τ 9 n) (tR τ 10 n)
    · show (rnd τ n).1 + 0 ≤ n + 1; omega
    · show (rnd τ n).1 + 1 ≤ n + 1; omega
theorem rndT_k (τ : Tw) : Kp τ (rndT τ) := (rnd_k τ _).tr (Kp.h _ _)
theorem rndT_h (τ : Tw) : tH (rndT τ) = tH τ + 1 := up_eq _ _ _ _
abbrev kr2 : Type := Nat → Int32 → Int32 → hS → Option (Int32 × hS)
theorem c_rnd {B nt T : Nat} {s : hS} {τ : Tw} (h : CT B nt T s τ) (h9 : tH τ < 999) : ∃ s', f_X5_goRound s T = some (nI (rnd τ (tK τ)).1, s') ∧ CT B nt T s' (rndT τ) ∧ Sx (TP B T) s s' := by
  have b8 := h.2.2.1.1.2.2.2.1
  refine jL_ex (F := f_X5_goRound_b4) (z := fun _ _ _ _ => none) (fun (k : kr2) i (y : hS) => k T (nI (rnd τ i).1) (nI i) y) (tK τ) (fun i y => CT B nt T y (rnd τ i).2 ∧ Sx (TP B T) s y) (fun r => ∃ s', r = some (nI (rnd τ (tK τ)).1, s') ∧ CT B nt T s' (rndT τ) ∧ Sx (TP B T) s s') (fun i hi y hy k => Or.inl ?_) (fun y hy k => ?_) jF 0 s (Nat.zero_le _) (jF_lt (by omega)) ⟨h, Sx.rf _ s⟩
  · obtain ⟨cy, xy⟩ := hy
    have kp := rnd_k τ i
    have r8 : tR (rnd τ i).2 8 i = tR τ 8 i := kp.1 8 i (by omega) (by omega)
    have r9 : tR (rnd τ i).2 9 i = tR τ 9 i := kp.1 9 i (by omega) (by omega)
    have r10 : tR (rnd τ i).2 10 i = tR τ 10 i := kp.1 10 i (by omega) (by omega)
    obtain ⟨y1, k1, c1, x1⟩ := c_conv' cy (j := i) (by rw [kp.k]; exact hi)
    have c8 := cy.2.1.1.2.2.2.2 i (by omega)
    rw [r8, r9, r10] at k1 c1 c8
    refine ⟨y1, ⟨c1, xy.tr x1⟩, ?_⟩
    show f_X5_goRound_b4 k T (nI (rnd τ i).1) (nI i) y = k T (nI ((rnd τ i).1 + (gos (rnd τ i).2 (tR τ 8 i) (tR τ 9 i) (tR τ 10 i)).toNat)) (nI (i + 1)) y1
    unfold f_X5_goRound_b4 f_X5_goRound_b40
    refine bnd (gI_ok cy.1.1) ?_
    rw [cy.2.1.1.1.2.2.2.1, kp.k]
    refine ifn (nI_ge hi (by omega)) (bnd cy.1.g14 (bnd (cy.1.a7 (by omega)) (bnd cy.1.g15 (bnd (cy.1.ap (by omega)) (bnd cy.1.g16 (bnd (cy.1.aq (by omega)) ?_))))))
    rw [c8.1, c8.2.1, c8.2.2]
    refine bnd ((cV_ok cy.1.1).trans k1) ?_
    cases gos (rnd τ i).2 (tR τ 8 i) (tR τ 9 i) (tR τ 10 i)
    · refine ifp rfl ?_
      rw [nI_1]
      rfl
    · refine ifn one_ne ?_
      rw [nI_1, nI_1]
      rfl
  · obtain ⟨cy, xy⟩ := hy
    have kp := rnd_k τ (tK τ)
    have hh := rnd_h τ (tK τ)
    have ok5 := cy.2.2.1.r05 (tH τ + 1) (by omega)
    refine ⟨uI y T 5 (nI (tH τ + 1)), ?_, cy.w 0 5 (tH τ + 1) (by unfold wok; omega) ok5, xy.tr (Sx.u _ _ _ _ (TP.r 0 (by omega)))⟩
    show f_X5_goRound_b4 k T _ (nI (tK τ)) y = _
    unfold f_X5_goRound_b4
    refine bnd (gI_ok cy.1.1) ?_
    rw [cy.2.1.1.1.2.2.2.1, kp.k]
    refine ifp (nI_le (Nat.le_refl _) (by omega)) (bnd (gI_ok cy.1.1) ?_)
    rw [cy.2.1.1.1.2.2.2.2.2.1, hh, nI_1]
    exact bnd (pI_ok cy.1.1) rfl
theorem m_rnd {B : Nat} {s : hS} {τ : Tw} (h : MT B s τ) (h9 : tH τ < 999) : ∃ s', f_X7_aRound s (B + 66) = some (nI (rnd τ (tK τ)).1, s') ∧ MT B s' (rndT τ) ∧ Sx (MZ B) s s' := by
  have b8 := h.2.2.1.2.2.2.1
  refine jL_ex (F := f_X7_aRound_b4) (z := fun _ _ _ _ => none) (fun (k : kr2) i (y : hS) => k (B + 66) (nI (rnd τ i).1) (nI i) y) (tK τ) (fun i y => MT B y (rnd τ i).2 ∧ Sx (MZ B) s y) (fun r => ∃ s', r = some (nI (rnd τ (tK τ)).1, s') ∧ MT B s' (rndT τ) ∧ Sx (MZ B) s s') (fun i hi y hy k => Or.inl ?_) (fun y hy k => ?_) jF 0 s (Nat.zero_le _) (jF_lt (by omega)) ⟨h, Sx.rf _ s⟩
  · obtain ⟨cy, xy⟩ := hy
    have kp := rnd_k τ i
    have r8 : tR (rnd τ i).2 8 i = tR τ 8 i := kp.1 8 i (by omega) (by omega)
    have r9 : tR (rnd τ i).2 9 i = tR τ 9 i := kp.1 9 i (by omega) (by omega)
    have r10 : tR (rnd τ i).2 10 i = tR τ 10 i := kp.1 10 i (by omega) (by omega)
    obtain ⟨y1, k1, c1, x1⟩ := m_goesOn cy (j := i) (by rw [kp.k]; exact hi)
    rw [r8, r9, r10] at k1 c1
    refine ⟨y1, ⟨c1, xy.tr x1⟩, ?_⟩
    show f_X7_aRound_b4 k (B + 66) (nI (rnd τ i).1) (nI i) y = k (B + 66) (nI ((rnd τ i).1 + (gos (rnd τ i).2 (tR τ 8 i) (tR τ 9 i) (tR τ 10 i)).toNat)) (nI (i + 1)) y1
    unfold f_X7_aRound_b4 f_X7_aRound_b28
    refine bnd cy.1.gn (bnd (cy.1.an 3 rfl (by decide)) ?_)
    rw [cy.2.1.1.2.2.2.1, kp.k]
    refine ifn (nI_ge hi (by omega)) (bnd ((cV_ok cy.1.km).trans k1) ?_)
    cases gos (rnd τ i).2 (tR τ 8 i) (tR τ 9 i) (tR τ 10 i)
    · refine ifp rfl ?_
      unfold nmv
      rw [show (0 : Int32) = nI 0 from rfl, nI_add, nI_1]
      rfl
    · refine ifn one_ne ?_
      unfold nmv
      rw [nI_1, nI_1]
      rfl
  · obtain ⟨cy, xy⟩ := hy
    have kp := rnd_k τ (tK τ)
    have hh := rnd_h τ (tK τ)
    have ok5 := cy.2.2.r05 (tH τ + 1) (by omega)
    refine ⟨uI y (B + 67) 5 (nI (tH τ + 1)), ?_, cy.w 0 5 (tH τ + 1) (by unfold wok; omega) ok5, xy.tr (Sx.u _ _ _ _ (Or.inl rfl))⟩
    show f_X7_aRound_b4 k (B + 66) _ (nI (tK τ)) y = _
    unfold f_X7_aRound_b4
    refine bnd cy.1.gn (bnd (cy.1.an 3 rfl (by decide)) ?_)
    rw [cy.2.1.1.2.2.2.1, kp.k]
    refine ifp (nI_le (Nat.le_refl _) (by omega)) (bnd cy.1.gn (bnd (cy.1.an 5 rfl (by decide)) ?_))
    rw [cy.2.1.1.2.2.2.2.2.1, hh, nI_1]
    exact bnd (cy.1.sn 5 rfl (by decide)) rfl
theorem stp_round (B : Nat) : StpC B (fun s => f_X6_round s B) (fun s => f_X7_round s (B + 66)) := by
  refine stp_move fun s nt τ h => ?_
  show ∃ v τ', tX τ' = tX τ ∧ τ'.2.2 = τ.2.2 ∧ (∃ s1, f_X6_round s B = some (v, s1) ∧ Sx (CP B) s s1 ∧ CT B nt (B + 1) s1 τ') ∧ ∀ t, MT B t τ → ∃ t2, f_X7_round t (B + 66) = some (v, t2) ∧ Sx (MP B) t t2 ∧ MT B t2 τ'
  have L := h.1
  have hN := h.2.2.2.1.1
  have hok := h.2.2.1
  have h99 := hok.1.2.2.2.2.2
  by_cases c : tH τ < 999
  · refine ⟨nI (rnd τ (tK τ)).1, rndT τ, (rndT_k τ).x, (rndT_k τ).2, ?_, fun t ht => ?_⟩
    · obtain ⟨s1, k1, c1, x1⟩ := c_rnd h.ct c
      refine ⟨s1, ?_, x1.mono (fun a ha => ha.cp (Or.inl rfl)), c1⟩
      unfold f_X6_round
      refine bnd L.gt (bnd (gI_ok L.kt) ?_)
      rw [hN.1.2.2.2.2.2.1]
      exact ifp (nI_lt (b := 999) c (by decide)) (bnd L.gt (bnd ((cV_ok L.kt).trans k1) rfl))
    · obtain ⟨t1, k1, c1, x1⟩ := m_rnd ht c
      refine ⟨t1, ?_, x1.mono (fun a ha => ha.mp), c1⟩
      unfold f_X7_round
      refine bnd ht.1.gn (bnd (ht.1.an 5 rfl (by decide)) ?_)
      rw [ht.2.1.1.2.2.2.2.2.1]
      exact ifn (fun e => by have := (nI_eq (b := 999) (by omega) (by decide)).mp e; omega) (bnd ((cV_ok ht.1.km).trans k1) rfl)
  · refine ⟨-1000000002, τ, rfl, rfl, ⟨s, ?_, Sx.rf _ s, h.ct⟩, fun t ht => ⟨t, ?_, Sx.rf _ t, ht⟩⟩
    · unfold f_X6_round
      refine bnd L.gt (bnd (gI_ok L.kt) ?_)
      rw [hN.1.2.2.2.2.2.1]
      exact ifn (nI_nlt (b := 999) (by omega) (by omega)) rfl
    · unfold f_X7_round
      refine bnd ht.1.gn (bnd (ht.1.an 5 rfl (by decide)) ?_)
      rw [ht.2.1.1.2.2.2.2.2.1]
      exact ifp (by rw [show tH τ = 999 by omega]; rfl) rfl
/-- rounds till nothing goes: how many, and the town behind them -/
def mkN : Nat → Tw → Nat
  | 0, _ => 0
  | d + 1, τ => if (rnd τ (tK τ)).1 = 0 then 1 else mkN d (rndT τ) + 1
def mkT : Nat → Tw → Tw
  | 0, τ => τ
  | d + 1, τ => if (rnd τ (tK τ)).1 = 0 then rndT τ else mkT d (rndT τ)
theorem mkT_k : ∀ d τ, Kp τ (mkT d τ)
  | 0, τ => Kp.rf τ
  | d + 1, τ => by
    show Kp τ (if (rnd τ (tK τ)).1 = 0 then rndT τ else mkT d (rndT τ))
    split
    · exact rndT_k τ
    · exact (rndT_k τ).tr (mkT_k d (rndT τ))
theorem c_mkt {B nt : Nat} : ∀ d fuel c τ s, CT B nt (B + 1) s τ → Lay B s → tH τ + d = 999 → c + d ≤ 999 → d < fuel → ∃ s', jL f_X6_market_b2 (fun _ _ _ => none) fuel B (nI c) s = some (nI (c + mkN d τ), s') ∧ CT B nt (B + 1) s' (mkT d τ) ∧ Sx (TP B (B + 1)) s s'
  | 0, fuel + 1, c, τ, s, h, L, h1, h2, h3 => by
    refine ⟨s, ?_, h, Sx.rf _ s⟩
    show f_X6_market_b2 (jL f_X6_market_b2 (fun _ _ _ => none) fuel) B (nI c) s = _
    unfold f_X6_market_b2
    refine bnd L.gt (bnd (gI_ok L.kt) ?_)
    rw [h.2.1.1.1.2.2.2.2.2.1]
    exact ifp (nI_le (a := 999) (by omega) (by omega)) rfl
  | d + 1, fuel + 1, c, τ, s, h, L, h1, h2, h3 => by
    have rl := rnd_le τ (tK τ)
    have b8 := h.2.2.1.1.2.2.2.1
    obtain ⟨s1, k1, c1, x1⟩ := c_rnd h (by omega)
    have L1 := L.sx x1
    have pre : ∀ r, (if nI (rnd τ (tK τ)).1 = 0 then some (nI c + 1, s1) else jL f_X6_market_b2 (fun _ _ _ => none) fuel B (nI c + 1) s1) = r → jL f_X6_market_b2 (fun _ _ _ => none) (fuel + 1) B (nI c) s = r := by
      intro r hr
      show f_X6_market_b2 (jL f_X6_market_b2 (fun _ _ _ => none) fuel) B (nI c) s = _
      unfold f_X6_market_b2
      refine bnd L.gt (bnd (gI_ok L.kt) ?_)
      rw [h.2.1.1.1.2.2.2.2.2.1]
      exact ifn (nI_ge (b := 999) (by omega) (by omega)) (ifn (nI_ge (b := 999) (by omega) (by omega)) (bnd L.gt (bnd ((cV_ok L.kt).trans k1) hr)))
    by_cases z : (rnd τ (tK τ)).1 = 0
    · refine ⟨s1, pre _ ?_, ?_, x1⟩
      · refine ifp (by rw [z]; rfl) ?_
        show some (nI c + 1, s1) = some (nI (c + if (rnd τ (tK τ)).1 = 0 then 1 else mkN d (rndT τ) + 1), s1)
        rw [if_pos z, nI_1]
      · show CT B nt (B + 1) s1 (if (rnd τ (tK τ)).1 = 0 then rndT τ else mkT d (rndT τ))
        rw [if_pos z]
        exact c1
    · obtain ⟨s2, k2, c2, x2⟩ := c_mkt d fuel (c + 1) (rndT τ) s1 c1 L1 (by rw [rndT_h]; omega) (by omega) (by omega)
      refine ⟨s2, pre _ ?_, ?_, x1.tr x2⟩
      · refine ifn (nI_ne0 (by omega) (by omega)) ?_
        show jL f_X6_market_b2 (fun _ _ _ => none) fuel B (nI c + 1) s1 = some (nI (c + if (rnd τ (tK τ)).1 = 0 then 1 else mkN d (rndT τ) + 1), s2)
        rw [if_neg z, nI_1, k2, show c + 1 + mkN d (rndT τ) = c + (mkN d (rndT τ) + 1) by omega]
      · show CT B nt (B + 1) s2 (if (rnd τ (tK τ)).1 = 0 then rndT τ else mkT d (rndT τ))
        rw [if_neg z]
        exact c2
theorem m_mkt {B : Nat} : ∀ d fuel c τ s, MT B s τ → tH τ + d = 999 → d + 1 < fuel → ∃ s', jL f_X7_market_b4 (fun _ _ _ _ => none) fuel (B + 66) (nI c) 1 s = some (nI (c + mkN d τ), s') ∧ MT B s' (mkT d τ) ∧ Sx (MZ B) s s'
  | 0, fuel + 1, c, τ, s, h, h1, h3 => by
    refine ⟨s, ?_, h, Sx.rf _ s⟩
    show f_X7_market_b4 (jL f_X7_market_b4 (fun _ _ _ _ => none) fuel) (B + 66) (nI c) 1 s = _
    unfold f_X7_market_b4
    refine ifn one_ne (bnd h.1.gn (bnd (h.1.an 5 rfl (by decide)) ?_))
    rw [h.2.1.1.2.2.2.2.2.1]
    exact ifp (nI_le (a := 999) (by omega) (by omega)) rfl
  | d + 1, fuel + 1 + 1, c, τ, s, h, h1, h3 => by
    have rl := rnd_le τ (tK τ)
    have b8 := h.2.2.1.2.2.2.1
    obtain ⟨s1, k1, c1, x1⟩ := m_rnd h (by omega)
    have pre : ∀ r, (if nI (rnd τ (tK τ)).1 ≤ 0 then jL f_X7_market_b4 (fun _ _ _ _ => none) (fuel + 1) (B + 66) (nI c + 1) 0 s1 else jL f_X7_market_b4 (fun _ _ _ _ => none) (fuel + 1) (B + 66) (nI c + 1) 1 s1) = r → jL f_X7_market_b4 (fun _ _ _ _ => none) (fuel + 1 + 1) (B + 66) (nI c) 1 s = r := by
      intro r hr
      show f_X7_market_b4 (jL f_X7_market_b4 (fun _ _ _ _ => none) (fuel + 1)) (B + 66) (nI c) 1 s = _
      unfold f_X7_market_b4 f_X7_market_b32
      refine ifn one_ne (bnd h.1.gn (bnd (h.1.an 5 rfl (by decide)) ?_))
      rw [h.2.1.1.2.2.2.2.2.1]
      exact ifn (nI_ge (b := 999) (by omega) (by omega)) (bnd ((cV_ok h.1.km).trans k1) hr)
    by_cases z : (rnd τ (tK τ)).1 = 0
    · refine ⟨s1, pre _ ?_, ?_, x1⟩
      · refine ifp (by rw [z]; decide) ?_
        show f_X7_market_b4 (jL f_X7_market_b4 (fun _ _ _ _ => none) fuel) (B + 66) (nI c + 1) 0 s1 = some (nI (c + if (rnd τ (tK τ)).1 = 0 then 1 else mkN d (rndT τ) + 1), s1)
        unfold f_X7_market_b4
        rw [if_pos z, nI_1]
        exact ifp rfl rfl
      · show MT B s1 (if (rnd τ (tK τ)).1 = 0 then rndT τ else mkT d (rndT τ))
        rw [if_pos z]
        exact c1
    · obtain ⟨s2, k2, c2, x2⟩ := m_mkt d (fuel + 1) (c + 1) (rndT τ) s1 c1 (by rw [rndT_h]; omega) (by omega)
      refine ⟨s2, pre _ ?_, ?_, x1.tr x2⟩
      · refine ifn (nI_nle (by omega) (by omega)) ?_
        show jL f_X7_market_b4 (fun _ _ _ _ => none) (fuel + 1) (B + 66) (nI c + 1) 1 s1 = some (nI (c + if (rnd τ (tK τ)).1 = 0 then 1 else mkN d (rndT τ) + 1), s2)
        rw [if_neg z, nI_1, k2, show c + 1 + mkN d (rndT τ) = c + (mkN d (rndT τ) + 1) by omega]
      · show MT B s2 (if (rnd τ (tK τ)).1 = 0 then rndT τ else mkT d (rndT τ))
        rw [if_neg z]
        exact c2
theorem stp_market (B : Nat) : StpC B (fun s => f_X6_market s B) (fun s => f_X7_market s (B + 66)) := by
  refine stp_move fun s nt τ h => ?_
  have h99 := h.2.2.1.1.2.2.2.2.2
  have kp := mkT_k (999 - tH τ) τ
  refine ⟨nI (0 + mkN (999 - tH τ) τ), mkT (999 - tH τ) τ, kp.x, kp.2, ?_, fun t ht => ?_⟩
  · obtain ⟨s1, k1, c1, x1⟩ := c_mkt (999 - tH τ) jF 0 τ s h.ct h.1 (by omega) (by omega) (by unfold jF; omega)
    exact ⟨s1, k1, x1.mono (fun a ha => ha.cp (Or.inl rfl)), c1⟩
  · obtain ⟨t1, k1, c1, x1⟩ := m_mkt (999 - tH τ) jF 0 τ t ht (by omega) (by unfold jF; omega)
    exact ⟨t1, k1, x1.mono (fun a ha => ha.mp), c1⟩
