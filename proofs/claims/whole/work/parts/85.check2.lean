theorem stp_check (B : Nat) (a0 : Int32) : StpC B (fun s => f_X6_check s B a0) (fun s => f_X7_check s (B + 66) a0) := by
  refine stp_set fun s nt τ h => ?_
  have L := h.1
  have hC := h.2.2.2.1
  have hM := h.2.2.2.2.1
  have hok := h.2.2.1
  obtain ⟨n, w1, w2, w3, w4⟩ := h.2.2.2.2.2.2.2.2.2.1
  have LA := L.u B 9 0
  have G0 : Gx B s (uI s B 9 0) := Gx.u s B 9 0 (Or.inl ⟨rfl, Or.inr rfl⟩)
  have small : ∀ v, f_X6_check s B a0 = some (v, uI s B 9 0) → f_X7_check (uI s B 9 0) (B + 66) a0 = some (v, uI (uI s B 9 0) (B + 66) 33 0) → ∃ v s1 s2, f_X6_check s B a0 = some (v, s1) ∧ f_X7_check s1 (B + 66) a0 = some (v, s2) ∧ Lay B s1 ∧ Inv B s2 ∧ s2.1 = s.1 ∧ s2.2.1 = s.2.1 := by
    intro v h6 h7
    have G : Gx B s (uI (uI s B 9 0) (B + 66) 33 0) := G0.tr (Gx.u _ (B + 66) 33 0 (Or.inr ⟨rfl, Or.inr rfl⟩))
    have hx : Wx (fun a k => (a = B ∧ k = 9) ∨ (a = B + 66 ∧ k = 33)) s (uI (uI s B 9 0) (B + 66) 33 0) := ((Wx.rf _ s).u (Or.inl ⟨rfl, rfl⟩)).u (Or.inr ⟨rfl, rfl⟩)
    have ei : ∀ a k, ¬ (a = B ∧ k = 9) → ¬ (a = B + 66 ∧ k = 33) → hI (uI (uI s B 9 0) (B + 66) 33 0) a k = hI s a k := fun a k h1 h2 => by rw [uI_ne h2, uI_ne h1]
    refine ⟨v, _, _, h6, h7, LA, (h.gen (τ' := τ) G (L.2.2.sm rfl (fun _ => rfl) (fun _ _ => rfl)) hok (G.town hC (fun _ => rfl) (fun r hr k => ei _ _ (by omega) (by omega))) ?_ (h.2.2.2.2.2.1.wx hx ?_) ?_).inv, rfl, rfl⟩
    · have e : hI (uI (uI s B 9 0) (B + 66) 33 0) (B + 67) = hI s (B + 67) := funext fun k => ei _ _ (by omega) (by omega)
      rw [e]
      exact hM
    · refine ⟨⟨?_, ?_⟩, fun k => ?_, fun r k hr => ?_, fun j k => ⟨?_, ?_⟩⟩ <;> rintro (q | q) <;> omega
    · exact ⟨0, by omega, by rw [uI_ne (by omega), uI_eq]; rfl, uI_eq _ _ _ _, fun i hi => absurd hi (Nat.not_lt_zero i)⟩
  by_cases hb : a0 < 1 ∨ 30 < a0
  · refine small (-1000000001) ?_ ?_
    · unfold f_X6_check
      refine bnd (gI_ok L.kx) (bnd (pI_ok L.kx) (bnd (X6_out _ _ _ _) (ifn ?_ rfl)))
      show ¬ (if a0 < 1 ∨ 30 < a0 then (1 : Int32) else 0) = 0
      rw [if_pos hb]
      exact one_ne
    · unfold f_X7_check
      refine bnd (gI_ok LA.km) (bnd (pI_ok LA.km) (bnd (X7_in _ _ _ _) (ifp ?_ rfl)))
      show (if a0 < 1 ∨ 30 < a0 then (0 : Int32) else 1) = 0
      rw [if_pos hb]
  have hin6 : ∀ t, f_X6_isOutside t a0 1 30 = some (0, t) := fun t => by rw [X6_out, if_neg hb]
  have hin7 : ∀ t, f_X7_in t a0 1 30 = some (1, t) := fun t => by rw [X7_in, if_neg hb]
  rcases h.2.2.2.2.2.1 with ⟨z1, z2⟩ | ⟨z1, z2, ι, iok, iC, iM⟩
  · refine small (-1000000002) ?_ ?_
    · unfold f_X6_check
      refine bnd (gI_ok L.kx) (bnd (pI_ok L.kx) (bnd (hin6 _) (ifp rfl (bnd (gI_ok LA.kx) (ifp ?_ rfl)))))
      rw [uI_ne (by omega)]
      exact z1
    · unfold f_X7_check
      refine bnd (gI_ok LA.km) (bnd (pI_ok LA.km) (bnd (hin7 _) (ifn one_ne (bnd (gI_ok (LA.u _ _ _).km) (ifp ?_ rfl)))))
      rw [uI_ne (by omega), uI_ne (by omega)]
      exact z2
  clear small
  obtain ⟨N, N1, N30, rfl⟩ : ∃ N : Nat, 1 ≤ N ∧ N ≤ 30 ∧ a0 = nI N := by
    rcases rng a0 30 (by decide) with q | ⟨j, hj, rfl⟩
    · rcases q with q | q
      · exact absurd (Or.inl (fa_tr q (by decide))) hb
      · exact absurd (Or.inr q) hb
    · refine ⟨j, ?_, hj, rfl⟩
      apply Nat.ge_of_not_lt
      intro q
      exact hb (Or.inl (nI_lt (b := 1) (by omega) (by decide)))
  have h9 := iok.1.2.2.2.2.2
  obtain ⟨D, hDd⟩ : ∃ D, D = cl 0 N (nI (999 - tH ι)) := ⟨_, rfl⟩
  have hD : D ≤ N ∧ D ≤ 999 - tH ι ∧ (D = N ∨ D = 999 - tH ι) := by
    rw [hDd]
    rcases cl_cases 0 N (by omega) (by omega) (nI (999 - tH ι)) with ⟨z, e⟩ | ⟨z, z', e⟩ | ⟨k, z1, z2, z3, e⟩
    · exact absurd z (nI_nlt (by omega) (by omega))
    · have := (nI_ltI (by omega) (by omega)).mp z
      rw [e]
      omega
    · have := (nI_eq (by omega) (by omega)).mp z3
      rw [e]
      omega
  obtain ⟨s', k1, q, g⟩ := c_bco (LA.tly 23 (Or.inr (Or.inr rfl))) (LA.tly 12 (Or.inr (Or.inl rfl))) (Or.inl (by omega)) (LA.hb 12 (Or.inr (Or.inl rfl)))
  have G1 : Gx B (uI s B 9 0) s' := Gx.rx q.1 (Or.inr (Or.inr rfl))
  have T1 : LyT B s' := LA.2.2.cp (a := 23) (b := 12) (by omega) (by omega) q.1 g
  have L1 := G1.lay LA T1
  have iCA : TwC B (uI s B 9 0) nt (B + 12) ι := G0.town iC (fun _ => rfl) (fun r hr k => uI_ne (by omega))
  have ct : CT B nt (B + 23) s' ι := ⟨L1.tly 23 (Or.inr (Or.inr rfl)), G1.came iok iCA g q.2, iok, Or.inr rfl⟩
  obtain ⟨y, k2, x2⟩ := c_ckv (held := n) (w := fun k => hI s (B + 64) k) N30 w1 D 0 jF ι s' ct L1 (fun k hk => by rw [q.1.2.2.2 _ (by omega), uI_ne (by omega)]) (by omega) (by unfold jF; omega)
  have L2 := L1.sx x2
  have LB := L2.u (B + 66) 33 0
  have nTP : ∀ a, ¬ (B + 23 ≤ a ∧ a < B + 33) → ¬ PX B a → ∀ k, hI y a k = hI s' a k := fun a h1 h2 k => x2.2.2.2 a (by rintro (⟨p1, p2⟩ | p); exact h1 ⟨p1, by omega⟩; exact h2 p) k
  have nP : ∀ i, i < 91 → ¬ PX B (B + i) := fun i hi => by rintro ⟨j, e⟩; omega
  have ey : ∀ a k, ¬ (a = B ∧ k = 9) → ¬ (B + 23 ≤ a ∧ a < B + 33) → ¬ PX B a → hI y a k = hI s a k := fun a k h1 h2 h3 => by rw [nTP a h2 h3, q.1.2.2.2 a (by omega), uI_ne h1]
  obtain ⟨sC, k3, x3, c3⟩ := m_cpa LB.kn LB.k69 (by omega)
  have LC := LB.sx x3
  obtain ⟨sD, k4, x4, c4⟩ := m_cpa LC.k68 LC.kn (by omega)
  have LD := LC.sx x4
  have MD : MT B sD ι := by
    refine ⟨LD, iM.cg iok (fun k hk => ?_), iok⟩
    rw [c4 k hk, x3.2.2.2 _ (by omega), uI_ne (by omega)]
    exact ey _ _ (by omega) (by omega) (nP 68 (by omega))
  obtain ⟨z, k5, x5, c5⟩ := m_ckv (held := n) (D := D) (w := fun k => hI s (B + 64) k) (by omega) w1 D 0 jF ι sD MD (fun k hk => by
    rw [x4.2.2.2 _ (by omega), x3.2.2.2 _ (by omega), uI_ne (by omega), ey _ _ (by omega) (by omega) (nP 88 (by omega))]
    exact (w4 k hk).symm) (by omega) (by omega) (Or.inr rfl) (by unfold jF; omega)
  have GB : Gx B y (uI y (B + 66) 33 0) := Gx.u y (B + 66) 33 0 (Or.inr ⟨rfl, Or.inr rfl⟩)
  have G2 : Gx B s' y := Gx.sx x2 (fun a ha => by
    rcases ha with ⟨p1, p2⟩ | p
    · exact Or.inl (by omega)
    · exact Or.inr (Or.inr (Or.inr (Or.inr (Or.inr (Or.inr (Or.inr (Or.inr (Or.inr p)))))))))
  have G5 : Gx B sD z := Gx.sx x5 (fun a ha => by unfold MZ at ha; omega)
  have G : Gx B s z := (((((G0.tr G1).tr G2).tr GB).tr x3.x69).tr x4.x67).tr G5
  have TZ : LyT B z := ((((T1.sm x2.1.1 x2.2.1 x2.2.2.1).sm (t := uI y (B + 66) 33 0) rfl (fun _ => rfl) (fun _ _ => rfl)).sm x3.1.1 x3.2.1 x3.2.2.1).sm x4.1.1 x4.2.1 x4.2.2.1).sm x5.1.1 x5.2.1 x5.2.2.1
  have ez : ∀ a k, ¬ (a = B ∧ k = 9) → ¬ (a = B + 66 ∧ k = 33) → ¬ (B + 23 ≤ a ∧ a < B + 33) → ¬ (a = B + 67 ∨ a = B + 69 ∨ a = B + 78 ∨ a = B + 79) → ¬ PX B a → hI z a k = hI s a k := by
    intro a k h1 h2 h3 h4 h5
    rw [x5.2.2.2 a (by unfold MZ; omega), x4.2.2.2 a (by omega), x3.2.2.2 a (by omega), uI_ne h2]
    exact ey a k h1 h3 h5
  have er : ∀ a, a ≠ B + 33 → ∀ k, hR z a k = hR s a k := fun a ha k => (x5.2.2.1 a k).trans ((x4.2.2.1 a k).trans ((x3.2.2.1 a k).trans ((x2.2.2.1 a k).trans (q.1.2.2.1 a (by omega) k))))
  have e67 : ∀ k, k < 1476 → hI z (B + 67) k = hI s (B + 67) k := by
    intro k hk
    rw [c5 k hk, x4.2.2.2 _ (by omega), c3 k hk, uI_ne (by omega)]
    exact ey _ _ (by omega) (by omega) (nP 67 (by omega))
  have nPa : ∀ r, r < 40 → ¬ PX B (B + 12 + r) := fun r hr => by rintro ⟨j, e⟩; omega
  have nPb : ∀ r, r < 40 → ¬ PX B (B + 1 + r) := fun r hr => by rintro ⟨j, e⟩; omega
  refine ⟨ckv (fun k => hI s (B + 64) k) n D 0 ι, y, z, ?_, ?_, L2, (h.gen (τ' := τ) G TZ hok ?_ ?_ ?_ ?_).inv, G.1.1, G.1.2⟩
  · show f_X6_check s B (nI N) = _
    unfold f_X6_check
    refine bnd (gI_ok L.kx) ?_
    rw [w2]
    refine bnd (pI_ok L.kx) (bnd (hin6 _) (ifp rfl (bnd (gI_ok LA.kx) (ifn ?_ (bnd LA.gth (bnd LA.gi (bnd ((cV_ok LA.kth).trans k1) k2)))))))
    rw [uI_ne (by omega), z1]
    exact one_ne
  · show f_X7_check y (B + 66) (nI N) = _
    unfold f_X7_check
    refine bnd (gI_ok L2.km) ?_
    rw [ey _ _ (by omega) (by omega) (nP 66 (by omega)), w3]
    refine bnd (pI_ok L2.km) (bnd (hin7 _) (ifn one_ne (bnd (gI_ok LB.km) (ifn ?_ (bnd LB.gn (bnd LB.m2 (bnd k3 (bnd LC.m1 (bnd LC.gn (bnd k4 (bnd LD.gn (bnd (LD.an 5 rfl (by decide)) ?_)))))))))))) 
    · rw [uI_ne (by omega), ey _ _ (by omega) (by omega) (nP 66 (by omega)), z2]
      exact one_ne
    · rw [MD.2.1.1.2.2.2.2.2.1, show (999 : Int32) - nI (tH ι) = nI (999 - tH ι) from pk_sub (a := 999) (by omega)]
      refine bnd (m_within sD 0 N (by omega) (by omega) _) ?_
      rw [← hDd]
      unfold nmv
      rw [show (2 : Int32) * nI D = nI (2 * D) from pk_mul 2 D]
      exact k5
  · exact G.town hC (fun k => er _ (by omega) k) (fun r hr k => ez _ k (by omega) (by omega) (by omega) (by omega) (nPb r (by omega)))
  · exact hM.cg hok e67
  · refine Or.inr ⟨?_, ?_, ι, iok, G.town iC (fun k => er _ (by omega) k) (fun r hr k => ez _ k (by omega) (by omega) (by omega) (by omega) (nPa r (by omega))), ?_⟩
    · exact (ez _ _ (by omega) (by omega) (by omega) (by omega) (nP 0 (by omega))).trans z1
    · exact (ez _ _ (by omega) (by omega) (by omega) (by omega) (nP 66 (by omega))).trans z2
    · have e : hI z (B + 68) = hI s (B + 68) := funext fun k => ez _ k (by omega) (by omega) (by omega) (by omega) (nP 68 (by omega))
      rw [e]
      exact iM
  · refine ⟨0, by omega, ?_, ?_, fun i hi => absurd hi (Nat.not_lt_zero i)⟩
    · rw [x5.2.2.2 _ (by unfold MZ; omega), x4.2.2.2 _ (by omega), x3.2.2.2 _ (by omega), uI_ne (by omega), nTP B (by omega) (nP 0 (by omega)), q.1.2.2.2 _ (by omega), uI_eq]
      rfl
    · rw [x5.2.2.2 _ (by unfold MZ; omega), x4.2.2.2 _ (by omega), x3.2.2.2 _ (by omega), uI_eq]
      rfl
