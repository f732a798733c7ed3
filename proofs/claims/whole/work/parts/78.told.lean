/-- a step that leaves the town as it is, seen with all the rest -/
theorem stp_evals {B : Nat} {g6 g7 : hS → Option (Int32 × hS)} (h : ∀ s nt τ, InvT B s nt τ → ∃ v, (∃ s1, g6 s = some (v, s1) ∧ Sx (PX B) s s1) ∧ ∀ t, MT B t τ → Sx (PX B) s t → ∃ t2, g7 t = some (v, t2) ∧ Sx (WX B) t t2) : StpC B g6 g7 := by
  refine stp_set fun s nt τ hi => ?_
  obtain ⟨v, ⟨s1, k1, x1⟩, hm⟩ := h s nt τ hi
  have L1 := hi.1.sx x1
  have p67 : ¬ PX B (B + 67) := by
    rintro ⟨j, e⟩
    omega
  have e67 : hI s1 (B + 67) = hI s (B + 67) := funext fun k => x1.2.2.2 _ p67 k
  have M1 : TwM (hI s1 (B + 67)) τ := by rw [e67]; exact hi.2.2.2.2.1
  obtain ⟨s2, k2, x2⟩ := hm s1 ⟨L1, M1, hi.2.2.1⟩ x1
  have X : Sx (FrP B) s s2 := (x1.mono (fun a ha => Or.inr ha)).tr (x2.mono (fun a ha => by
    rcases ha with e | e
    · exact Or.inl ⟨78, by decide, e⟩
    · exact Or.inl ⟨79, by decide, e⟩))
  refine ⟨v, s1, s2, k1, k2, L1, (hi.town X rfl rfl hi.2.2.1 (TwN.keep (B := B) hi.2.2.2.1.1 (fun r hr k => ?_)) (by rw [x2.w67]; exact M1)).inv, X.1.1, X.1.2⟩
  rw [x2.2.2.2 _ (by unfold WX; omega) k, x1.2.2.2 _ (by rintro ⟨j, e⟩; omega) k]
theorem noneI {o : Option Nat} (h : ∀ m, o = some m → m < 2 ^ 31) : ltI o = -1 ∨ ∃ n : Nat, n < 2 ^ 31 ∧ ltI o = nI n := by
  cases e : o with
  | none => exact Or.inl rfl
  | some m => exact Or.inr ⟨m, h m e, rfl⟩
theorem c_gos {s : hS} {τ : Tw} {kind p q : Nat} (hok : TwOk τ) (hk : kind < 6) : f_X6_goes s (nI kind) (ltI (gvn τ kind p q)) (ltI (got τ kind p q)) = some (bI (gos τ kind p q), s) := by
  have b1 := hok.1.1
  unfold f_X6_goes f_X6_goes_b18 gos
  cases e : got τ kind p q with
  | none => exact ifp rfl rfl
  | some m =>
    have hm := got_lt e
    refine ifn (ltI_m (by omega)).1 ?_
    cases e2 : gvn τ kind p q with
    | none =>
      refine ifp rfl (bnd (kind6 s kind 4 hk (by decide)) ?_)
      have : kind = 0 ∨ kind = 1 ∨ kind = 2 ∨ kind = 3 ∨ kind = 4 ∨ kind = 5 := by omega
      rcases this with rfl | rfl | rfl | rfl | rfl | rfl <;> rfl
    | some g =>
      have hg := gvn_lt e2
      exact ifn (ltI_m (by omega)).1 rfl
theorem m_wgo {B : Nat} {s : hS} {τ : Tw} (h : MT B s τ) {kind p q : Nat} (hk : kind < 6) (hp : p < tP τ) (hq : q < tP τ) : ∃ s', f_X7_wouldGo s (B + 66) (nI kind) (nI p) (nI q) = some (bI (gos τ kind p q), s') ∧ Sx (WX B) s s' := by
  have hok := h.2.2
  have b1 := hok.1.1
  obtain ⟨s1, k1, x1⟩ := m_got h hk hp hq
  have h1 := h.wx x1
  obtain ⟨s2, k2, x2⟩ := m_gvn h1 hk hp hq
  unfold f_X7_wouldGo f_X7_wouldGo_b25 gos
  cases e : got τ kind p q with
  | none =>
    rw [e] at k1
    exact ⟨s1, bnd ((cV_ok h.1.km).trans k1) (ifp (show ltI none < 0 by decide) rfl), x1⟩
  | some m =>
    have hm := got_lt e
    rw [e] at k1
    by_cases c : kind = 4
    · refine ⟨s1, bnd ((cV_ok h.1.km).trans k1) (ifn (ltI_m (by omega)).2.1 (ifp (by rw [c]; rfl) ?_)), x1⟩
      rw [decide_eq_true c, Bool.or_true]
      rfl
    · have c' : ¬ nI kind = 4 := fun e => c ((nI_eq (b := 4) (by omega) (by decide)).mp e)
      cases e2 : gvn τ kind p q with
      | none =>
        rw [e2] at k2
        refine ⟨s2, bnd ((cV_ok h.1.km).trans k1) (ifn (ltI_m (by omega)).2.1 (ifn c' (bnd ((cV_ok h1.1.km).trans k2) (ifp (show ltI none < 0 by decide) ?_)))), x1.tr x2⟩
        rw [decide_eq_false c]
        rfl
      | some g =>
        have hg := gvn_lt e2
        rw [e2] at k2
        exact ⟨s2, bnd ((cV_ok h.1.km).trans k1) (ifn (ltI_m (by omega)).2.1 (ifn c' (bnd ((cV_ok h1.1.km).trans k2) (ifn (ltI_m (by omega)).2.1 rfl)))), x1.tr x2⟩
theorem stp_told (B : Nat) (a0 a1 : Int32) : StpC B (fun s => f_X6_told s B a0 a1) (fun s => f_X7_told s (B + 66) a0 a1) := by
  refine stp_eval fun s nt τ h => ?_
  show ∃ v, (∃ s1, f_X6_told s B a0 a1 = some (v, s1) ∧ Sx (PX B) s s1) ∧ ∀ t, MT B t τ → ∃ t2, f_X7_told t (B + 66) a0 a1 = some (v, t2) ∧ Sx (WX B) t t2
  have L := h.1
  have hN := h.2.2.2.1.1
  have hok := h.2.2.1
  have b8 := hok.1.2.2.2.1
  have b16 := hok.1.1
  have Tl := L.tly 1 (Or.inl rfl)
  have ix : (a0 < 0 ∨ nI (tK τ) ≤ a0) ∨ ∃ j : Nat, j < tK τ ∧ a0 = nI j := by
    rcases pk_ix a0 (n := tK τ) (by omega) with q | q | q
    · exact Or.inl (Or.inl q)
    · exact Or.inl (Or.inr q)
    · exact Or.inr q
  rcases ix with hb | ⟨j, hj, rfl⟩
  · refine ⟨-1000000001, ⟨s, ?_, Sx.rf _ s⟩, fun t ht => ⟨t, ?_, Sx.rf _ t⟩⟩
    · unfold f_X6_told
      exact bnd ((cV_ok L.kx).trans (noT_out L hN hb)) (ifn one_ne rfl)
    · unfold f_X7_told
      exact bnd ((cV_ok ht.1.km).trans (isT_out ht.1 ht.2.1 hok hb)) (ifp rfl rfl)
  have hct := h.ct
  have c8 := hN.2.2.2.2 j (by omega)
  obtain ⟨hk, hp, hq, hne⟩ := hok.2.2.2.2.1 j hj
  obtain ⟨s1, k1, x1⟩ := c_gvn hct hk hp hq
  have h1 := hct.px x1
  have L1 := L.sx x1
  obtain ⟨s2, k2, x2⟩ := c_got h1 hk hp hq
  have h2 := h1.px x2
  have L2 := L1.sx x2
  rcases rng a1 6 (by decide) with hb | ⟨w, hw, rfl⟩
  · refine ⟨-1000000001, ⟨s2, ?_, x1.tr x2⟩, fun t ht => ⟨t, ?_, Sx.rf _ t⟩⟩
    · unfold f_X6_told
      refine bnd ((cV_ok L.kx).trans (noT_in L hN hok hj)) (ifp rfl (bnd L.gt (bnd Tl.g14 (bnd (Tl.a7 (by omega)) (bnd L.gt (bnd Tl.g15 (bnd (Tl.ap (by omega)) (bnd L.gt (bnd Tl.g16 (bnd (Tl.aq (by omega)) ?_))))))))))
      rw [c8.1, c8.2.1, c8.2.2]
      refine bnd L.gt (bnd ((cV_ok L.kt).trans k1) (bnd L1.gt (bnd ((cV_ok L1.kt).trans k2) ?_)))
      exact ifn (rng_ne (by decide) hb 0 (by decide)) (ifn (rng_ne (by decide) hb 1 (by decide)) (ifn (rng_ne (by decide) hb 2 (by decide)) (ifn (rng_ne (by decide) hb 3 (by decide)) (ifn (rng_ne (by decide) hb 4 (by decide)) (ifn (rng_ne (by decide) hb 5 (by decide)) (ifn (rng_ne (by decide) hb 6 (by decide)) (rfl)))))))
    · unfold f_X7_told
      exact bnd ((cV_ok ht.1.km).trans (isT_in ht.1 ht.2.1 hok hj)) (ifn one_ne (bnd (in_no t hb) (ifp rfl rfl)))
  have hw7 : w = 0 ∨ w = 1 ∨ w = 2 ∨ w = 3 ∨ w = 4 ∨ w = 5 ∨ w = 6 := by omega
  have m8 : ∀ t, MT B t τ → hI t (B + 67) (80 + 3 * j) = nI (tR τ 8 j) ∧ hI t (B + 67) (81 + 3 * j) = nI (tR τ 9 j) ∧ hI t (B + 67) (82 + 3 * j) = nI (tR τ 10 j) := fun t ht => ht.2.1.2.2.2.2.1 j (by omega)
  rcases hw7 with rfl | rfl | rfl | rfl | rfl | rfl | rfl
  · refine ⟨nI (tR τ 8 j), ⟨s2, ?_, x1.tr x2⟩, fun t ht => ⟨t, ?_, Sx.rf _ t⟩⟩
    · unfold f_X6_told
      refine bnd ((cV_ok L.kx).trans (noT_in L hN hok hj)) (ifp rfl (bnd L.gt (bnd Tl.g14 (bnd (Tl.a7 (by omega)) (bnd L.gt (bnd Tl.g15 (bnd (Tl.ap (by omega)) (bnd L.gt (bnd Tl.g16 (bnd (Tl.aq (by omega)) ?_))))))))))
      rw [c8.1, c8.2.1, c8.2.2]
      refine bnd L.gt (bnd ((cV_ok L.kt).trans k1) (bnd L1.gt (bnd ((cV_ok L1.kt).trans k2) ?_)))
      exact ifp rfl rfl
    · unfold f_X7_told
      refine bnd ((cV_ok ht.1.km).trans (isT_in ht.1 ht.2.1 hok hj)) (ifn one_ne (bnd (in_yes t (j := 0) (n := 6) (by decide) (by decide) rfl rfl) (ifn one_ne ?_)))
      unfold nmv
      refine ifn (by decide) (ifn (by decide) (ifn (by decide) (ifn (by decide) (bnd ht.1.gn (bnd (ht.1.an (80 + 3 * j) (ixe 80 3 j 0 (by omega)) (by omega)) ?_)))))
      rw [(m8 t ht).1]
  · refine ⟨nI (tR τ 9 j), ⟨s2, ?_, x1.tr x2⟩, fun t ht => ⟨t, ?_, Sx.rf _ t⟩⟩
    · unfold f_X6_told
      refine bnd ((cV_ok L.kx).trans (noT_in L hN hok hj)) (ifp rfl (bnd L.gt (bnd Tl.g14 (bnd (Tl.a7 (by omega)) (bnd L.gt (bnd Tl.g15 (bnd (Tl.ap (by omega)) (bnd L.gt (bnd Tl.g16 (bnd (Tl.aq (by omega)) ?_))))))))))
      rw [c8.1, c8.2.1, c8.2.2]
      refine bnd L.gt (bnd ((cV_ok L.kt).trans k1) (bnd L1.gt (bnd ((cV_ok L1.kt).trans k2) ?_)))
      exact ifn (by decide) (ifp rfl rfl)
    · unfold f_X7_told
      refine bnd ((cV_ok ht.1.km).trans (isT_in ht.1 ht.2.1 hok hj)) (ifn one_ne (bnd (in_yes t (j := 1) (n := 6) (by decide) (by decide) rfl rfl) (ifn one_ne ?_)))
      unfold nmv
      refine ifn (by decide) (ifn (by decide) (ifn (by decide) (ifn (by decide) (bnd ht.1.gn (bnd (ht.1.an (81 + 3 * j) (ixe 80 3 j 1 (by omega)) (by omega)) ?_)))))
      rw [(m8 t ht).2.1]
  · refine ⟨nI (tR τ 10 j), ⟨s2, ?_, x1.tr x2⟩, fun t ht => ⟨t, ?_, Sx.rf _ t⟩⟩
    · unfold f_X6_told
      refine bnd ((cV_ok L.kx).trans (noT_in L hN hok hj)) (ifp rfl (bnd L.gt (bnd Tl.g14 (bnd (Tl.a7 (by omega)) (bnd L.gt (bnd Tl.g15 (bnd (Tl.ap (by omega)) (bnd L.gt (bnd Tl.g16 (bnd (Tl.aq (by omega)) ?_))))))))))
      rw [c8.1, c8.2.1, c8.2.2]
      refine bnd L.gt (bnd ((cV_ok L.kt).trans k1) (bnd L1.gt (bnd ((cV_ok L1.kt).trans k2) ?_)))
      exact ifn (by decide) (ifn (by decide) (ifp rfl rfl))
    · unfold f_X7_told
      refine bnd ((cV_ok ht.1.km).trans (isT_in ht.1 ht.2.1 hok hj)) (ifn one_ne (bnd (in_yes t (j := 2) (n := 6) (by decide) (by decide) rfl rfl) (ifn one_ne ?_)))
      unfold nmv
      refine ifn (by decide) (ifn (by decide) (ifn (by decide) (ifn (by decide) (bnd ht.1.gn (bnd (ht.1.an (82 + 3 * j) (ixe 80 3 j 2 (by omega)) (by omega)) ?_)))))
      rw [(m8 t ht).2.2]
  · refine ⟨noneOr (ltI (gvn τ (tR τ 8 j) (tR τ 9 j) (tR τ 10 j))), ⟨s2, ?_, x1.tr x2⟩, fun t ht => ?_⟩
    · unfold f_X6_told
      refine bnd ((cV_ok L.kx).trans (noT_in L hN hok hj)) (ifp rfl (bnd L.gt (bnd Tl.g14 (bnd (Tl.a7 (by omega)) (bnd L.gt (bnd Tl.g15 (bnd (Tl.ap (by omega)) (bnd L.gt (bnd Tl.g16 (bnd (Tl.aq (by omega)) ?_))))))))))
      rw [c8.1, c8.2.1, c8.2.2]
      refine bnd L.gt (bnd ((cV_ok L.kt).trans k1) (bnd L1.gt (bnd ((cV_ok L1.kt).trans k2) ?_)))
      exact ifn (by decide) (ifn (by decide) (ifn (by decide) (ifp rfl (bnd (c_orNone s2 _) rfl))))
    · obtain ⟨t1, e1, y1⟩ := m_gvn ht hk hp hq
      refine ⟨t1, ?_, y1⟩
      unfold f_X7_told
      refine bnd ((cV_ok ht.1.km).trans (isT_in ht.1 ht.2.1 hok hj)) (ifn one_ne (bnd (in_yes t (j := 3) (n := 6) (by decide) (by decide) rfl rfl) (ifn one_ne ?_)))
      unfold nmv
      refine ifp rfl (bnd ht.1.gn (bnd (ht.1.an (80 + 3 * j) (ixm 80 3 j) (by omega)) (bnd ht.1.gn (bnd (ht.1.an (81 + 3 * j) (ixe 80 3 j 1 (by omega)) (by omega)) (bnd ht.1.gn (bnd (ht.1.an (82 + 3 * j) (ixe 80 3 j 2 (by omega)) (by omega)) ?_))))))
      rw [(m8 t ht).1, (m8 t ht).2.1, (m8 t ht).2.2]
      exact bnd ((cV_ok ht.1.km).trans e1) (bnd (m_told t1 (noneI (fun m hm => by have := gvn_lt hm; omega))) rfl)
  · refine ⟨noneOr (ltI (got τ (tR τ 8 j) (tR τ 9 j) (tR τ 10 j))), ⟨s2, ?_, x1.tr x2⟩, fun t ht => ?_⟩
    · unfold f_X6_told
      refine bnd ((cV_ok L.kx).trans (noT_in L hN hok hj)) (ifp rfl (bnd L.gt (bnd Tl.g14 (bnd (Tl.a7 (by omega)) (bnd L.gt (bnd Tl.g15 (bnd (Tl.ap (by omega)) (bnd L.gt (bnd Tl.g16 (bnd (Tl.aq (by omega)) ?_))))))))))
      rw [c8.1, c8.2.1, c8.2.2]
      refine bnd L.gt (bnd ((cV_ok L.kt).trans k1) (bnd L1.gt (bnd ((cV_ok L1.kt).trans k2) ?_)))
      exact ifn (by decide) (ifn (by decide) (ifn (by decide) (ifn (by decide) (ifp rfl (bnd (c_orNone s2 _) rfl)))))
    · obtain ⟨t1, e1, y1⟩ := m_got ht hk hp hq
      refine ⟨t1, ?_, y1⟩
      unfold f_X7_told
      refine bnd ((cV_ok ht.1.km).trans (isT_in ht.1 ht.2.1 hok hj)) (ifn one_ne (bnd (in_yes t (j := 4) (n := 6) (by decide) (by decide) rfl rfl) (ifn one_ne ?_)))
      unfold nmv
      refine ifn (by decide) (ifp rfl (bnd ht.1.gn (bnd (ht.1.an (80 + 3 * j) (ixm 80 3 j) (by omega)) (bnd ht.1.gn (bnd (ht.1.an (81 + 3 * j) (ixe 80 3 j 1 (by omega)) (by omega)) (bnd ht.1.gn (bnd (ht.1.an (82 + 3 * j) (ixe 80 3 j 2 (by omega)) (by omega)) ?_)))))))
      rw [(m8 t ht).1, (m8 t ht).2.1, (m8 t ht).2.2]
      exact bnd ((cV_ok ht.1.km).trans e1) (bnd (m_told t1 (noneI (fun m hm => by have := got_lt hm; omega))) rfl)
  · refine ⟨bI (gos τ (tR τ 8 j) (tR τ 9 j) (tR τ 10 j)), ⟨s2, ?_, x1.tr x2⟩, fun t ht => ?_⟩
    · unfold f_X6_told
      refine bnd ((cV_ok L.kx).trans (noT_in L hN hok hj)) (ifp rfl (bnd L.gt (bnd Tl.g14 (bnd (Tl.a7 (by omega)) (bnd L.gt (bnd Tl.g15 (bnd (Tl.ap (by omega)) (bnd L.gt (bnd Tl.g16 (bnd (Tl.aq (by omega)) ?_))))))))))
      rw [c8.1, c8.2.1, c8.2.2]
      refine bnd L.gt (bnd ((cV_ok L.kt).trans k1) (bnd L1.gt (bnd ((cV_ok L1.kt).trans k2) ?_)))
      refine ifn (by decide) (ifn (by decide) (ifn (by decide) (ifn (by decide) (ifn (by decide) (ifp rfl (bnd (c_gos hok hk) ?_))))))
      exact bI_if _ s2
    · obtain ⟨t1, e1, y1⟩ := m_wgo ht hk hp hq
      refine ⟨t1, ?_, y1⟩
      unfold f_X7_told
      refine bnd ((cV_ok ht.1.km).trans (isT_in ht.1 ht.2.1 hok hj)) (ifn one_ne (bnd (in_yes t (j := 5) (n := 6) (by decide) (by decide) rfl rfl) (ifn one_ne ?_)))
      unfold nmv
      refine ifn (by decide) (ifn (by decide) (ifp rfl (bnd ht.1.gn (bnd (ht.1.an (80 + 3 * j) (ixm 80 3 j) (by omega)) (bnd ht.1.gn (bnd (ht.1.an (81 + 3 * j) (ixe 80 3 j 1 (by omega)) (by omega)) (bnd ht.1.gn (bnd (ht.1.an (82 + 3 * j) (ixe 80 3 j 2 (by omega)) (by omega)) ?_))))))))
      rw [(m8 t ht).1, (m8 t ht).2.1, (m8 t ht).2.2]
      exact bnd ((cV_ok ht.1.km).trans e1) (bI_if _ t1)
  · obtain ⟨s3, k3, x3⟩ := c_wth h2 hk hp hq
    refine ⟨wth τ (tR τ 8 j) (tR τ 9 j) (tR τ 10 j), ⟨s3, ?_, (x1.tr x2).tr x3⟩, fun t ht => ?_⟩
    · unfold f_X6_told
      refine bnd ((cV_ok L.kx).trans (noT_in L hN hok hj)) (ifp rfl (bnd L.gt (bnd Tl.g14 (bnd (Tl.a7 (by omega)) (bnd L.gt (bnd Tl.g15 (bnd (Tl.ap (by omega)) (bnd L.gt (bnd Tl.g16 (bnd (Tl.aq (by omega)) ?_))))))))))
      rw [c8.1, c8.2.1, c8.2.2]
      refine bnd L.gt (bnd ((cV_ok L.kt).trans k1) (bnd L1.gt (bnd ((cV_ok L1.kt).trans k2) ?_)))
      exact ifn (by decide) (ifn (by decide) (ifn (by decide) (ifn (by decide) (ifn (by decide) (ifn (by decide) (ifp rfl (bnd L2.gt (bnd ((cV_ok L2.kt).trans k3) rfl))))))))
    · obtain ⟨t1, e1, y1⟩ := m_wth ht hk hp hq
      refine ⟨t1, ?_, y1⟩
      unfold f_X7_told
      refine bnd ((cV_ok ht.1.km).trans (isT_in ht.1 ht.2.1 hok hj)) (ifn one_ne (bnd (in_yes t (j := 6) (n := 6) (by decide) (by decide) rfl rfl) (ifn one_ne ?_)))
      unfold nmv
      refine ifn (by decide) (ifn (by decide) (ifn (by decide) (ifp rfl (bnd ht.1.gn (bnd (ht.1.an (80 + 3 * j) (ixm 80 3 j) (by omega)) (bnd ht.1.gn (bnd (ht.1.an (81 + 3 * j) (ixe 80 3 j 1 (by omega)) (by omega)) (bnd ht.1.gn (bnd (ht.1.an (82 + 3 * j) (ixe 80 3 j 2 (by omega)) (by omega)) ?_)))))))))
      rw [(m8 t ht).1, (m8 t ht).2.1, (m8 t ht).2.2]
      exact bnd ((cV_ok ht.1.km).trans e1) rfl
theorem stp_ask (B : Nat) (a0 a1 : Int32) : StpC B (fun s => f_X6_ask s B a0 a1) (fun s => f_X7_ask s (B + 66) a0 a1) := by
  refine stp_evals fun s nt τ h => ?_
  show ∃ v, (∃ s1, f_X6_ask s B a0 a1 = some (v, s1) ∧ Sx (PX B) s s1) ∧ ∀ t, MT B t τ → Sx (PX B) s t → ∃ t2, f_X7_ask t (B + 66) a0 a1 = some (v, t2) ∧ Sx (WX B) t t2
  have L := h.1
  have hN := h.2.2.2.1.1
  have hok := h.2.2.1
  have b8 := hok.1.2.1
  have ix : (a0 < 0 ∨ nI 5 ≤ a0) ∨ ∃ j : Nat, j < 5 ∧ a0 = nI j := by
    rcases pk_ix a0 (n := 5) (by omega) with q | q | q
    · exact Or.inl (Or.inl q)
    · exact Or.inl (Or.inr q)
    · exact Or.inr q
  rcases ix with hb | ⟨j, hj, rfl⟩
  · refine ⟨-1000000001, ⟨s, ?_, Sx.rf _ s⟩, fun t ht hx => ⟨t, ?_, Sx.rf _ t⟩⟩
    · unfold f_X6_ask
      exact bnd (noS_out hb) (ifn one_ne rfl)
    · unfold f_X7_ask
      exact bnd (isS_out hb) (ifp rfl rfl)
  rcases rng a1 5 (by decide) with hb | ⟨c, hc', rfl⟩
  · refine ⟨-1000000001, ⟨s, ?_, Sx.rf _ s⟩, fun t ht hx => ⟨t, ?_, Sx.rf _ t⟩⟩
    · unfold f_X6_ask
      exact bnd (noS_in hj) (ifp rfl (bnd (noK_out (rng5 hb)) (ifn one_ne rfl)))
    · unfold f_X7_ask
      exact bnd (isS_in hj) (ifn one_ne (bnd (in_no t hb) (ifp rfl rfl)))
  have hc : c < 6 := by omega
  obtain ⟨q, w1, w2, w3, w4, w5, w6⟩ := h.2.2.2.2.2.2.2.2.1 j hj
  have px : ∀ t, Sx (PX B) s t → ∀ i, i < 91 → ∀ k, hI t (B + i) k = hI s (B + i) k := fun t hx i hi k => hx.2.2.2 _ (by rintro ⟨j, e⟩; omega) k
  by_cases q0 : q = 0
  · subst q0
    refine ⟨-1000000011, ⟨s, ?_, Sx.rf _ s⟩, fun t ht hx => ⟨t, ?_, Sx.rf _ t⟩⟩
    · unfold f_X6_ask
      refine bnd (noS_in hj) (ifp rfl (bnd (noK_in hc) (ifp rfl (bnd L.gsl (bnd (aR_ok j L.k48 rfl hj (by decide) (L.sr hj)) (bnd (gI_ok (L.sk hj)) ?_))))))
      rw [w2]
      exact ifp rfl rfl
    · unfold f_X7_ask
      refine bnd (isS_in hj) (ifn one_ne (bnd (in_yes t (j := c) (n := 5) (by omega) (by decide) rfl rfl) (ifn one_ne (bnd ht.1.m27 (bnd (aI_ok j ht.1.k83 rfl hj (by decide)) ?_)))))
      rw [px t hx 83 (by omega), w3]
      exact ifp rfl rfl
  have qn : ¬ nI q = 0 := nI_ne0 (by omega) (by omega)
  by_cases q1 : ¬ q = 1
  · have qn1 : ¬ nI q = 1 := fun e => q1 ((nI_eq (b := 1) (by omega) (by decide)).mp e)
    refine ⟨-1000000012, ⟨s, ?_, Sx.rf _ s⟩, fun t ht hx => ⟨t, ?_, Sx.rf _ t⟩⟩
    · unfold f_X6_ask
      refine bnd (noS_in hj) (ifp rfl (bnd (noK_in hc) (ifp rfl (bnd L.gsl (bnd (aR_ok j L.k48 rfl hj (by decide) (L.sr hj)) (bnd (gI_ok (L.sk hj)) ?_))))))
      rw [w2]
      refine ifn qn (bnd (gI_ok (L.sk hj)) ?_)
      rw [w2]
      exact ifn qn1 rfl
    · unfold f_X7_ask
      refine bnd (isS_in hj) (ifn one_ne (bnd (in_yes t (j := c) (n := 5) (by omega) (by decide) rfl rfl) (ifn one_ne (bnd ht.1.m27 (bnd (aI_ok j ht.1.k83 rfl hj (by decide)) ?_)))))
      rw [px t hx 83 (by omega), w3]
      refine ifn qn (bnd ht.1.m27 (bnd (aI_ok j ht.1.k83 rfl hj (by decide)) ?_))
      rw [px t hx 83 (by omega), w3]
      exact ifn qn1 rfl
  replace q1 := Classical.not_not.mp q1
  subst q1
  obtain ⟨k, p, r, f1, f2, f3, f4, f5, f6, f7, f8⟩ := w4 rfl
  have cgo : ∀ x, (f_X6_isOfKind s (nI k) (nI c)).bind (fun p8 => if p8.1 = 0 then some ((-1000000012 : Int32), p8.2) else (gI p8.2 (B + 49 + 3 * j) 2 2).bind fun x9 => (cV p8.2 B 6 (f_X6_isNobody p8.2 B x9)).bind fun p10 => if p10.1 = 0 then (gI p10.2 (B + 49 + 3 * j) 2 3).bind fun x11 => (cV p10.2 B 6 (f_X6_isNobody p10.2 B x11)).bind fun p12 => if p12.1 = 0 then (gR p12.2 B 6 0).bind fun a13 => (gI p12.2 (B + 49 + 3 * j) 2 1).bind fun x14 => (gI p12.2 (B + 49 + 3 * j) 2 2).bind fun x15 => (gI p12.2 (B + 49 + 3 * j) 2 3).bind fun x16 => (cV p12.2 a13 5 (f_X5_worthOf p12.2 a13 x14 x15 x16)).bind fun p17 => some (p17.1, p17.2) else some ((-1000000002 : Int32), p12.2) else some ((-1000000002 : Int32), p10.2)) = x → f_X6_ask s B (nI j) (nI c) = x := by
    intro x hx
    unfold f_X6_ask
    refine bnd (noS_in hj) (ifp rfl (bnd (noK_in hc) (ifp rfl (bnd L.gsl (bnd (aR_ok j L.k48 rfl hj (by decide) (L.sr hj)) (bnd (gI_ok (L.sk hj)) ?_))))))
    rw [w2]
    refine ifn one_ne (bnd (gI_ok (L.sk hj)) ?_)
    rw [w2]
    refine ifp rfl (bnd (gI_ok (L.sk hj)) ?_)
    rw [f4]
    exact hx
  have r8 : nI (8 * p + r) / 8 = nI p := by
    rw [show (8 : Int32) = nI 8 from rfl, pk_div (by omega) (by decide) (by decide), show (8 * p + r) / 8 = p by omega]
  have r9 : nI (8 * p + r) - nI (8 * p + r) / 8 * 8 = nI r := by
    rw [show (8 : Int32) = nI 8 from rfl, pk_rem (by omega) (by decide) (by decide), show (8 * p + r) % 8 = r by omega]
  have mgo : ∀ t, MT B t τ → Sx (PX B) s t → ∀ x, (f_X7_isUnder t (nI k) (nI c)).bind (fun p9 => if p9.1 = 0 then some ((-1000000012 : Int32), p9.2) else (gR p9.2 (B + 66) 7 29).bind fun a10 => (aI p9.2 a10 10 (nI j)).bind fun x11 => if (8 : Int32) = 0 then none else nmv ((x11 / (8 : Int32))) fun x12 => (gR p9.2 (B + 66) 7 29).bind fun a13 => (aI p9.2 a13 10 (nI j)).bind fun x14 => if (8 : Int32) = 0 then none else nmv ((x14 - x14 / (8 : Int32) * (8 : Int32))) fun x15 => (cV p9.2 (B + 66) 7 (f_X7_isPerson p9.2 (B + 66) x12)).bind fun p16 => if p16.1 = 0 then some ((-1000000002 : Int32), p16.2) else (cV p16.2 (B + 66) 7 (f_X7_isPerson p16.2 (B + 66) x15)).bind fun p17 => if p17.1 = 0 then some ((-1000000002 : Int32), p17.2) else (gR p17.2 (B + 66) 7 28).bind fun a18 => (aI p17.2 a18 10 (nI j)).bind fun x19 => (cV p17.2 (B + 66) 7 (f_X7_worthBy p17.2 (B + 66) x19 x12 x15)).bind fun p20 => some (p20.1, p20.2)) = x → f_X7_ask t (B + 66) (nI j) (nI c) = x := by
    intro t ht hx x e
    unfold f_X7_ask
    refine bnd (isS_in hj) (ifn one_ne (bnd (in_yes t (j := c) (n := 5) (by omega) (by decide) rfl rfl) (ifn one_ne (bnd ht.1.m27 (bnd (aI_ok j ht.1.k83 rfl hj (by decide)) ?_)))))
    rw [px t hx 83 (by omega), w3]
    refine ifn one_ne (bnd ht.1.m27 (bnd (aI_ok j ht.1.k83 rfl hj (by decide)) ?_))
    rw [px t hx 83 (by omega), w3]
    refine ifp rfl (bnd ht.1.m28 (bnd (aI_ok j ht.1.k84 rfl hj (by decide)) ?_))
    rw [px t hx 84 (by omega), f7]
    exact e
  have mg2 : ∀ t, MT B t τ → Sx (PX B) s t → okk k c = true → ∀ x, (cV t (B + 66) 7 (f_X7_isPerson t (B + 66) (nI p))).bind (fun p16 => if p16.1 = 0 then some ((-1000000002 : Int32), p16.2) else (cV p16.2 (B + 66) 7 (f_X7_isPerson p16.2 (B + 66) (nI r))).bind fun p17 => if p17.1 = 0 then some ((-1000000002 : Int32), p17.2) else (gR p17.2 (B + 66) 7 28).bind fun a18 => (aI p17.2 a18 10 (nI j)).bind fun x19 => (cV p17.2 (B + 66) 7 (f_X7_worthBy p17.2 (B + 66) x19 (nI p) (nI r))).bind fun p20 => some (p20.1, p20.2)) = x → f_X7_ask t (B + 66) (nI j) (nI c) = x := by
    intro t ht hx hkk x e
    refine mgo t ht hx x ?_
    refine bnd (kind7 t k c f1 hc) (ifn (by rw [if_pos hkk]; exact one_ne) (bnd ht.1.m29 (bnd (aI_ok j ht.1.k85 rfl hj (by decide)) (ifn (by decide) ?_))))
    rw [px t hx 85 (by omega), f8]
    unfold nmv
    refine bnd ht.1.m29 (bnd (aI_ok j ht.1.k85 rfl hj (by decide)) (ifn (by decide) ?_))
    rw [px t hx 85 (by omega), f8, r8]
    rw [show nI (8 * p + r) - nI p * 8 = nI r by rw [← r8]; exact r9]
    exact e
  by_cases hkk : ¬ okk k c = true
  · refine ⟨-1000000012, ⟨s, cgo _ ?_, Sx.rf _ s⟩, fun t ht hx => ⟨t, mgo t ht hx _ ?_, Sx.rf _ t⟩⟩
    · exact bnd (kind6 s k c f1 hc) (ifp (by rw [if_neg hkk]) rfl)
    · exact bnd (kind7 t k c f1 hc) (ifp (by rw [if_neg hkk]) rfl)
  replace hkk := Classical.not_not.mp hkk
  have k1 : ¬ ((if okk k c = true then (1 : Int32) else 0), s).1 = 0 := by rw [if_pos hkk]; exact one_ne
  by_cases hp : ¬ p < tP τ
  · have hb : nI p < 0 ∨ nI (tP τ) ≤ nI p := Or.inr (nI_le (by omega) (by omega))
    refine ⟨-1000000002, ⟨s, cgo _ ?_, Sx.rf _ s⟩, fun t ht hx => ⟨t, mg2 t ht hx hkk _ ?_, Sx.rf _ t⟩⟩
    · refine bnd (kind6 s k c f1 hc) (ifn k1 (bnd (gI_ok (L.sk hj)) ?_))
      rw [f5]
      exact bnd ((cV_ok L.kx).trans (noP_out L hN hb)) (ifn one_ne rfl)
    · exact bnd ((cV_ok ht.1.km).trans (isP_out ht.1 ht.2.1 hok hb)) (ifp rfl rfl)
  replace hp := Classical.not_not.mp hp
  by_cases hr : ¬ r < tP τ
  · have hb : nI r < 0 ∨ nI (tP τ) ≤ nI r := Or.inr (nI_le (by omega) (by omega))
    refine ⟨-1000000002, ⟨s, cgo _ ?_, Sx.rf _ s⟩, fun t ht hx => ⟨t, mg2 t ht hx hkk _ ?_, Sx.rf _ t⟩⟩
    · refine bnd (kind6 s k c f1 hc) (ifn k1 (bnd (gI_ok (L.sk hj)) ?_))
      rw [f5]
      refine bnd ((cV_ok L.kx).trans (noP_in L hN hok hp)) (ifp rfl (bnd (gI_ok (L.sk hj)) ?_))
      rw [f6]
      exact bnd ((cV_ok L.kx).trans (noP_out L hN hb)) (ifn one_ne rfl)
    · exact bnd ((cV_ok ht.1.km).trans (isP_in ht.1 ht.2.1 hok hp)) (ifn one_ne (bnd ((cV_ok ht.1.km).trans (isP_out ht.1 ht.2.1 hok hb)) (ifp rfl rfl)))
  replace hr := Classical.not_not.mp hr
  obtain ⟨s1, e1, x1⟩ := c_wth h.ct f1 hp hr
  refine ⟨wth τ k p r, ⟨s1, cgo _ ?_, x1⟩, fun t ht hx => ?_⟩
  · refine bnd (kind6 s k c f1 hc) (ifn k1 (bnd (gI_ok (L.sk hj)) ?_))
    rw [f5]
    refine bnd ((cV_ok L.kx).trans (noP_in L hN hok hp)) (ifp rfl (bnd (gI_ok (L.sk hj)) ?_))
    rw [f6]
    refine bnd ((cV_ok L.kx).trans (noP_in L hN hok hr)) (ifp rfl (bnd L.gt (bnd (gI_ok (L.sk hj)) (bnd (gI_ok (L.sk hj)) (bnd (gI_ok (L.sk hj)) ?_)))))
    rw [f4, f5, f6]
    exact bnd ((cV_ok L.kt).trans e1) rfl
  · obtain ⟨t1, e2, y1⟩ := m_wth ht f1 hp hr
    refine ⟨t1, mg2 t ht hx hkk _ ?_, y1⟩
    refine bnd ((cV_ok ht.1.km).trans (isP_in ht.1 ht.2.1 hok hp)) (ifn one_ne (bnd ((cV_ok ht.1.km).trans (isP_in ht.1 ht.2.1 hok hr)) (ifn one_ne (bnd ht.1.m28 (bnd (aI_ok j ht.1.k84 rfl hj (by decide)) ?_)))))
    rw [px t hx 84 (by omega), f7]
    exact bnd ((cV_ok ht.1.km).trans e2) rfl
