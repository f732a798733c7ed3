def fw (p f : Nat) : Nat → Nat → Tw → Option (Nat × List Nat)
  | 0, _, _ => none
  | r + 1, k, τ => match ctk p f k τ with
    | (some l, _) => some (k, l)
    | (none, x) => fw p f r (k + 1) (sdT τ x)
theorem fw_s {p f r k : Nat} {τ : Tw} {l : List Nat} {x : Int32} (h : ctk p f k τ = (some l, x)) : fw p f (r + 1) k τ = some (k, l) := by
  conv => lhs; unfold fw
  rw [h]
theorem fw_n {p f r k : Nat} {τ : Tw} {x : Int32} (h : ctk p f k τ = (none, x)) : fw p f (r + 1) k τ = fw p f r (k + 1) (sdT τ x) := by
  conv => lhs; unfold fw
  rw [h]
def fwv (w : Int32) : Option (Nat × List Nat) → Int32
  | none => -1000000005
  | some kl => if 0 ≤ w then (if nI kl.1 ≤ w then -1000000005 else nI (kl.2.getD w.toNatClampNeg 0)) else nI kl.1
theorem c_fw {B nt p f n : Nat} {w : Int32} (hn : n ≤ 3) : ∀ r fuel k τ s, k + r = n + 1 → r < fuel → CT B nt (B + 23) s τ → Lay B s → p < tP τ → f < tF τ → ∃ s', jL f_X6_fewest_b48 (fun _ _ _ _ _ _ _ => none) fuel B (nI p) (nI f) (nI n) w (nI k) s = some (fwv w (fw p f r k τ), s') ∧ Sx (TQ B) s s'
  | 0, fuel + 1, k, τ, s, hk, hfu, h, L, hp, hf => by
    refine ⟨s, ?_, Sx.rf _ s⟩
    show f_X6_fewest_b48 (jL f_X6_fewest_b48 (fun _ _ _ _ _ _ _ => none) fuel) B (nI p) (nI f) (nI n) w (nI k) s = some (-1000000005, s)
    unfold f_X6_fewest_b48
    exact ifp (nI_lt (by omega) (by omega)) rfl
  | r + 1, fuel + 1, k, τ, s, hk, hfu, h, L, hp, hf => by
    obtain ⟨s1, k1, x1, u1, n1, y1⟩ := c_ctk (p := p) (f := f) k 0 6 τ s (by omega) (by omega) h L hp hf
    have L1 := L.sx x1
    have pre : ∀ X, (if bI (ctk p f k τ).1.isSome = 0 then jL f_X6_fewest_b48 (fun _ _ _ _ _ _ _ => none) fuel B (nI p) (nI f) (nI n) w (nI k + 1) s1 else if 0 ≤ w then if nI k ≤ w then some ((-1000000005 : Int32), s1) else (gR s1 B 6 10).bind fun a4 => (aL s1 a4 10).bind fun x5 => if x5 ≤ w then some ((-1000000005 : Int32), s1) else (gR s1 B 6 10).bind fun a6 => (aI s1 a6 10 w).bind fun x7 => some (x7, s1) else some (nI k, s1)) = X → jL f_X6_fewest_b48 (fun _ _ _ _ _ _ _ => none) (fuel + 1) B (nI p) (nI f) (nI n) w (nI k) s = X := by
      intro X hX
      show f_X6_fewest_b48 (jL f_X6_fewest_b48 (fun _ _ _ _ _ _ _ => none) fuel) B (nI p) (nI f) (nI n) w (nI k) s = X
      unfold f_X6_fewest_b48
      exact ifn (nI_nlt (by omega) (by omega)) (bnd L.gth (bnd L.g65 (bnd k1 hX)))
    cases er : ctk p f k τ with
    | mk o x =>
      rw [er] at n1 y1 pre
      cases o with
      | none =>
        obtain ⟨s2, k2, x2⟩ := c_fw hn r fuel (k + 1) (sdT τ x) s1 (by omega) (by omega) (n1 rfl) L1 hp hf
        rw [fw_n er]
        refine ⟨s2, pre _ (ifp rfl ?_), x1.tr x2⟩
        rw [nI_1]
        exact k2
      | some l =>
        rw [fw_s er]
        obtain ⟨l1, l2⟩ := y1 l rfl
        refine ⟨s1, pre _ (ifn one_ne ?_), x1⟩
        show _ = some ((if 0 ≤ w then (if nI k ≤ w then -1000000005 else nI (l.getD w.toNatClampNeg 0)) else nI k), s1)
        by_cases c0 : 0 ≤ w
        · rw [if_pos c0, if_pos c0]
          by_cases c1 : nI k ≤ w
          · rw [if_pos c1, if_pos c1]
          · rw [if_neg c1, if_neg c1]
            obtain ⟨j, hj, rfl⟩ := nI_of (Int32.not_lt.mpr c0)
            have hjk : j < k := by
              apply Nat.lt_of_not_le
              intro z
              exact c1 (nI_le z hj)
            refine bnd L1.g65 (bnd (aL_ok L1.k65) (ifn (nI_ge (by omega) (by decide)) (bnd L1.g65 (bnd (aI_ok j L1.k65 rfl (by omega) (by decide)) ?_))))
            have := l2 j hjk
            rw [Nat.zero_add] at this
            rw [this, nI_clamp hj]
        · rw [if_neg c0, if_neg c0]
theorem m_91 {B : Nat} {σ τ : Tw} {t : hS} {w x6 : Int32} (x5 : Int32) (h : MT B t σ) (hok : TwOk τ) (hK : Kq τ σ) (ha : ∀ i, i < 8 → hI t (B + 70) (24 + i) = nI (tR τ 3 i)) (v : Int32) (hv : ∀ u, MT B u (sdT τ x5) → (∀ k, hI u (B + 71) k = hI t (B + 71) k) → (if 0 ≤ x6 then (if 0 ≤ w then (if x6 ≤ w then some ((-1000000005 : Int32), u) else (gR u (B + 66) 7 5).bind fun a4 => (aI u a4 10 w).bind fun x5 => some (x5, u)) else some (x6, u)) else some ((-1000000005 : Int32), u)) = some (v, u)) : ∃ t', f_X7_fewest_b91 (B + 66) w x5 x6 t = some (v, t') ∧ Sx (MP B) t t' ∧ MT B t' (sdT τ x5) := by
  obtain ⟨t1, k1, m1, y1⟩ := m_pb (d := 3) h hok (by omega) hK ha
  have m2 : MT B (uI t1 (B + 67) 6 x5) (sdT τ x5) := m1.sd x5
  refine ⟨uI t1 (B + 67) 6 x5, ?_, y1.m67.tr (Sx.u _ _ _ _ (Or.inl rfl)), m2⟩
  unfold f_X7_fewest_b91
  exact bnd ((cV_ok h.1.km).trans k1) (bnd m1.1.gn (bnd (m1.1.sn 6 rfl (by decide)) (hv _ m2 (fun k => (uI_ne (by omega)).trans (y1.2.2.2 _ (by omega) k)))))
theorem m_fw {B p f n : Nat} {w : Int32} (x5 : Int32) (hn : n ≤ 3) : ∀ r fuel k τ t, k + r = n + 1 → r + 1 < fuel → MT B t τ → (∀ i, i < 8 → hI t (B + 70) (24 + i) = nI (tR τ 3 i)) → p < tP τ → f < tF τ → ∃ t', jL f_X7_fewest_b54 (fun _ _ _ _ _ _ _ _ _ => none) fuel (B + 66) (nI p) (nI f) (nI n) w x5 (-1) (nI k) t = some (fwv w (fw p f r k τ), t') ∧ Sx (MP B) t t' ∧ MT B t' (sdT τ x5)
  | 0, fuel + 1, k, τ, t, hk, hfu, h, ha, hp, hf => by
    obtain ⟨t', e1, e2, e3⟩ := m_91 (w := w) (x6 := -1) x5 h h.2.2 (Kq.rf τ) ha (-1000000005) (fun u _ _ => ifn (by decide) rfl)
    refine ⟨t', ?_, e2, e3⟩
    show f_X7_fewest_b54 (jL f_X7_fewest_b54 (fun _ _ _ _ _ _ _ _ _ => none) fuel) (B + 66) (nI p) (nI f) (nI n) w x5 (-1) (nI k) t = some (-1000000005, t')
    unfold f_X7_fewest_b54
    exact ifp (nI_lt (by omega) (by omega)) e1
  | r + 1, fuel + 1 + 1, k, τ, t, hk, hfu, h, ha, hp, hf => by
    obtain ⟨t1, k1, x1, u1, w1, n1, y1⟩ := m_ctk (p := p) (f := f) k 0 6 τ t (by omega) (by omega) h hp hf
    rw [Nat.zero_add] at k1
    have ha1 : ∀ i, i < 8 → hI t1 (B + 70) (24 + i) = nI (tR τ 3 i) := fun i hi => (w1 _ (by omega)).trans (ha i hi)
    have pre : ∀ X, (if bI (ctk p f k τ).1.isSome = 0 then jL f_X7_fewest_b54 (fun _ _ _ _ _ _ _ _ _ => none) (fuel + 1) (B + 66) (nI p) (nI f) (nI n) w x5 (-1) (nI k + 1) t1 else jL f_X7_fewest_b54 (fun _ _ _ _ _ _ _ _ _ => none) (fuel + 1) (B + 66) (nI p) (nI f) (nI n) w x5 (nI k) (nI k + 1) t1) = X → jL f_X7_fewest_b54 (fun _ _ _ _ _ _ _ _ _ => none) (fuel + 1 + 1) (B + 66) (nI p) (nI f) (nI n) w x5 (-1) (nI k) t = X := by
      intro X hX
      show f_X7_fewest_b54 (jL f_X7_fewest_b54 (fun _ _ _ _ _ _ _ _ _ => none) (fuel + 1)) (B + 66) (nI p) (nI f) (nI n) w x5 (-1) (nI k) t = X
      unfold f_X7_fewest_b54 f_X7_fewest_b83
      exact ifn (nI_nlt (by omega) (by omega)) (ifn (by decide) (bnd ((cV_ok h.1.km).trans k1) hX))
    cases er : ctk p f k τ with
    | mk o x =>
      rw [er] at n1 y1 pre
      cases o with
      | none =>
        obtain ⟨t2, k2, x2, m2⟩ := m_fw x5 hn r (fuel + 1) (k + 1) (sdT τ x) t1 (by omega) (by omega) (n1 rfl) ha1 hp hf
        rw [fw_n er]
        refine ⟨t2, pre _ (ifp rfl ?_), x1.tr x2, m2⟩
        rw [nI_1]
        exact k2
      | some l =>
        rw [fw_s er]
        obtain ⟨⟨σ, kσ, mσ⟩, l2⟩ := y1 l rfl
        obtain ⟨t', e1, e2, e3⟩ := m_91 (w := w) (x6 := nI k) x5 mσ h.2.2 kσ ha1 (fwv w (some (k, l))) (fun u mu hu => by
          refine ifp (nI_pos' (by omega)) ?_
          show _ = some ((if 0 ≤ w then (if nI k ≤ w then -1000000005 else nI (l.getD w.toNatClampNeg 0)) else nI k), u)
          by_cases c0 : 0 ≤ w
          · rw [if_pos c0, if_pos c0]
            by_cases c1 : nI k ≤ w
            · rw [if_pos c1, if_pos c1]
            · rw [if_neg c1, if_neg c1]
              obtain ⟨j, hj, rfl⟩ := nI_of (Int32.not_lt.mpr c0)
              have hjk : j < k := by
                apply Nat.lt_of_not_le
                intro z
                exact c1 (nI_le z hj)
              refine bnd mu.1.m5 (bnd (aI_ok j mu.1.k71 rfl (by omega) (by decide)) ?_)
              have := l2 j hjk
              rw [Nat.zero_add] at this
              rw [hu, this, nI_clamp hj]
          · rw [if_neg c0, if_neg c0])
        refine ⟨t', pre _ (ifn one_ne ?_), x1.tr e2, e3⟩
        show f_X7_fewest_b54 (jL f_X7_fewest_b54 (fun _ _ _ _ _ _ _ _ _ => none) fuel) (B + 66) (nI p) (nI f) (nI n) w x5 (nI k) (nI k + 1) t1 = _
        unfold f_X7_fewest_b54
        rw [nI_1]
        by_cases c : n < k + 1
        · exact ifp (nI_lt c (by omega)) e1
        · exact ifn (nI_nlt (by omega) (by omega)) (ifp (nI_pos' (by omega)) e1)
theorem stp_fewest (B : Nat) (a0 a1 a2 a3 : Int32) : StpC B (fun s => f_X6_fewest s B a0 a1 a2 a3) (fun s => f_X7_fewest s (B + 66) a0 a1 a2 a3) := by
  refine stp_set fun s nt τ h => ?_
  have L := h.1
  have hC := h.2.2.2.1
  have hN := hC.1
  have hM := h.2.2.2.2.1
  have hok := h.2.2.1
  have b8 := hok.1.2.1
  have b16 := hok.1.1
  have bad : f_X6_fewest s B a0 a1 a2 a3 = some (-1000000001, s) → f_X7_fewest s (B + 66) a0 a1 a2 a3 = some (-1000000001, s) → ∃ v s1 s2, f_X6_fewest s B a0 a1 a2 a3 = some (v, s1) ∧ f_X7_fewest s1 (B + 66) a0 a1 a2 a3 = some (v, s2) ∧ Lay B s1 ∧ Inv B s2 ∧ s2.1 = s.1 ∧ s2.2.1 = s.2.1 := fun h6 h7 => ⟨-1000000001, s, s, h6, h7, L, h.inv, rfl, rfl⟩
  have ix : (a1 < 0 ∨ nI (tF τ) ≤ a1) ∨ ∃ j : Nat, j < tF τ ∧ a1 = nI j := by
    rcases pk_ix a1 (n := tF τ) (by omega) with q | q | q
    · exact Or.inl (Or.inl q)
    · exact Or.inl (Or.inr q)
    · exact Or.inr q
  have iy : (a0 < 0 ∨ nI (tP τ) ≤ a0) ∨ ∃ j : Nat, j < tP τ ∧ a0 = nI j := by
    rcases pk_ix a0 (n := tP τ) (by omega) with q | q | q
    · exact Or.inl (Or.inl q)
    · exact Or.inl (Or.inr q)
    · exact Or.inr q
  rcases iy with hb | ⟨p, hp, rfl⟩
  · refine bad ?_ ?_
    · unfold f_X6_fewest
      exact bnd ((cV_ok L.kx).trans (noP_out L hN hb)) (ifn one_ne rfl)
    · unfold f_X7_fewest
      exact bnd ((cV_ok L.km).trans (isP_out L hM hok hb)) (ifp rfl rfl)
  rcases ix with hb | ⟨f, hf, rfl⟩
  · refine bad ?_ ?_
    · unfold f_X6_fewest
      exact bnd ((cV_ok L.kx).trans (noP_in L hN hok hp)) (ifp rfl (bnd ((cV_ok L.kx).trans (noF_out L hN hb)) (ifn one_ne rfl)))
    · unfold f_X7_fewest
      exact bnd ((cV_ok L.km).trans (isP_in L hM hok hp)) (ifn one_ne (bnd ((cV_ok L.km).trans (isF_out L hM hok hb)) (ifp rfl rfl)))
  rcases rng a2 3 (by decide) with hb | ⟨n, hn, rfl⟩
  · refine bad ?_ ?_
    · unfold f_X6_fewest
      exact bnd ((cV_ok L.kx).trans (noP_in L hN hok hp)) (ifp rfl (bnd ((cV_ok L.kx).trans (noF_in L hN hok hf)) (ifp rfl (bnd (out_no s hb) (ifn one_ne rfl)))))
    · unfold f_X7_fewest
      exact bnd ((cV_ok L.km).trans (isP_in L hM hok hp)) (ifn one_ne (bnd ((cV_ok L.km).trans (isF_in L hM hok hf)) (ifn one_ne (bnd (in_no s hb) (ifp rfl rfl)))))
  by_cases hw : ¬ (-1 : Int32) ≤ a3
  · refine bad ?_ ?_
    · unfold f_X6_fewest
      exact bnd ((cV_ok L.kx).trans (noP_in L hN hok hp)) (ifp rfl (bnd ((cV_ok L.kx).trans (noF_in L hN hok hf)) (ifp rfl (bnd (out_in s (n := 3) hn (by decide) rfl rfl) (ifp rfl (ifn hw rfl))))))
    · unfold f_X7_fewest
      exact bnd ((cV_ok L.km).trans (isP_in L hM hok hp)) (ifn one_ne (bnd ((cV_ok L.km).trans (isF_in L hM hok hf)) (ifn one_ne (bnd (in_yes s (n := 3) hn (by decide) rfl rfl) (ifn one_ne (ifn hw rfl))))))
  replace hw := Classical.not_not.mp hw
  clear bad
  obtain ⟨s', k1, q, g⟩ := c_bco (L.tly 23 (Or.inr (Or.inr rfl))) (L.tly 1 (Or.inl rfl)) (Or.inl (by omega)) (L.hb 1 (Or.inl rfl))
  have G1 : Gx B s s' := Gx.rx q.1 (Or.inr (Or.inr rfl))
  have T1 : LyT B s' := L.2.2.cp (a := 23) (b := 1) (by omega) (by omega) q.1 g
  have L1 := G1.lay L T1
  have ct : CT B nt (B + 23) s' τ := ⟨L1.tly 23 (Or.inr (Or.inr rfl)), G1.came hok hC g q.2, hok, Or.inr rfl⟩
  obtain ⟨y, k2, x2⟩ := c_fw (w := a3) hn (n + 1) jF 0 τ s' (by omega) (by unfold jF; omega) ct L1 hp hf
  have L2 := L1.sx x2
  have nP : ∀ i, i < 91 → ¬ (23 ≤ i ∧ i < 33) → i ≠ 65 → ¬ TQ B (B + i) := fun i hi h1 h2 => by
    rintro ((⟨e1, e2⟩ | ⟨j, e⟩) | e) <;> omega
  have ey : ∀ i k, i < 91 → ¬ (23 ≤ i ∧ i < 33) → i ≠ 65 → hI y (B + i) k = hI s (B + i) k := fun i k h1 h2 h3 => by rw [x2.2.2.2 _ (nP i h1 h2 h3), q.1.2.2.2 _ (by omega)]
  have M2 : MT B y τ := by
    have e : hI y (B + 67) = hI s (B + 67) := funext fun k => ey 67 k (by omega) (by omega) (by omega)
    exact ⟨L2, by rw [e]; exact hM, hok⟩
  obtain ⟨t1, k3, x3, g1, g2⟩ := m_ka L2 (d := 3) (by omega)
  have M3 : MT B t1 τ := by
    have e : hI t1 (B + 67) = hI y (B + 67) := funext fun k => x3.2.2.2 _ (by omega) k
    exact ⟨L2.sx x3, by rw [e]; exact M2.2.1, hok⟩
  obtain ⟨t2, k4, x4, M4⟩ := m_fw (w := a3) τ.2.1.1 hn (n + 1) jF 0 τ t1 (by omega) (by unfold jF; omega) M3 (fun i hi => (g1 i hi).trans (M2.2.1.2.2.1 i hi).1) hp hf
  have G2 : Gx B s' y := Gx.sx x2 (fun a ha => by
    rcases ha with (⟨p1, p2⟩ | p) | p
    · exact Or.inl (by omega)
    · exact Or.inr (Or.inr (Or.inr (Or.inr (Or.inr (Or.inr (Or.inr (Or.inr (Or.inr p))))))))
    · exact Or.inr (Or.inl p))
  have G3 : Gx B y t1 := Gx.sx x3 (fun a ha => by omega)
  have G4 : Gx B t1 t2 := Gx.sx x4 (fun a ha => by unfold MP at ha; omega)
  have G : Gx B s t2 := ((G1.tr G2).tr G3).tr G4
  have TZ : LyT B t2 := ((T1.sm x2.1.1 x2.2.1 x2.2.2.1).sm x3.1.1 x3.2.1 x3.2.2.1).sm x4.1.1 x4.2.1 x4.2.2.1
  have ez : ∀ i k, i < 91 → ¬ (23 ≤ i ∧ i < 33) → i ≠ 65 → ¬ (i = 67 ∨ i = 70 ∨ i = 71 ∨ i = 78 ∨ i = 79) → hI t2 (B + i) k = hI s (B + i) k := fun i k h1 h2 h3 h4 => by rw [x4.2.2.2 _ (by unfold MP; omega), x3.2.2.2 _ (by omega), ey i k h1 h2 h3]
  have er : ∀ a, a ≠ B + 33 → ∀ k, hR t2 a k = hR s a k := fun a ha k => (x4.2.2.1 a k).trans ((x3.2.2.1 a k).trans ((x2.2.2.1 a k).trans (q.1.2.2.1 a (by omega) k)))
  refine ⟨fwv a3 (fw p f (n + 1) 0 τ), y, t2, ?_, ?_, L2, (h.gen (τ' := τ) G TZ hok ?_ M4.2.1 ?_ ?_).inv, G.1.1, G.1.2⟩
  · show f_X6_fewest s B (nI p) (nI f) (nI n) a3 = _
    unfold f_X6_fewest
    exact bnd ((cV_ok L.kx).trans (noP_in L hN hok hp)) (ifp rfl (bnd ((cV_ok L.kx).trans (noF_in L hN hok hf)) (ifp rfl (bnd (out_in s (n := 3) hn (by decide) rfl rfl) (ifp rfl (ifp hw (bnd L.gth (bnd L.gt (bnd ((cV_ok L.kth).trans k1) k2)))))))))
  · show f_X7_fewest y (B + 66) (nI p) (nI f) (nI n) a3 = _
    unfold f_X7_fewest
    refine bnd ((cV_ok L2.km).trans (isP_in L2 M2.2.1 hok hp)) (ifn one_ne (bnd ((cV_ok L2.km).trans (isF_in L2 M2.2.1 hok hf)) (ifn one_ne (bnd (in_yes y (n := 3) hn (by decide) rfl rfl) (ifn one_ne (ifp hw (bnd L2.gn (bnd (L2.an 6 rfl (by decide)) ?_))))))))
    rw [M2.2.1.1.2.2.2.2.2.2.1]
    exact bnd ((cV_ok L2.km).trans k3) k4
  · refine G.town hC (fun k => er _ (by omega) k) (fun r hr k => ?_)
    rw [Nat.add_assoc]
    exact ez _ k (by omega) (by omega) (by omega) (by omega)
  · rcases h.2.2.2.2.2.1 with ⟨z1, z2⟩ | ⟨z1, z2, ι, iok, iC, iM⟩
    · exact Or.inl ⟨(ez 0 3 (by omega) (by omega) (by omega) (by omega)).trans z1, (ez 66 3 (by omega) (by omega) (by omega) (by omega)).trans z2⟩
    · refine Or.inr ⟨(ez 0 3 (by omega) (by omega) (by omega) (by omega)).trans z1, (ez 66 3 (by omega) (by omega) (by omega) (by omega)).trans z2, ι, iok, G.town iC (fun k => er _ (by omega) k) (fun r hr k => ?_), ?_⟩
      · rw [Nat.add_assoc]
        exact ez _ k (by omega) (by omega) (by omega) (by omega)
      · have e : hI t2 (B + 68) = hI s (B + 68) := funext fun k => ez 68 k (by omega) (by omega) (by omega) (by omega)
        rw [e]
        exact iM
  · exact h.2.2.2.2.2.2.2.2.2.1.cg (ez 0 9 (by omega) (by omega) (by omega) (by omega)) (ez 66 33 (by omega) (by omega) (by omega) (by omega)) (fun k => ez 64 k (by omega) (by omega) (by omega) (by omega)) (fun k => ez 88 k (by omega) (by omega) (by omega) (by omega))
