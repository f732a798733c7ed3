theorem stp_trim (B : Nat) (a0 : Int32) : StpC B (fun s => f_X6_trim s B a0) (fun s => f_X7_trim s (B + 66) a0) := by
  refine stp_set fun s nt τ h => ?_
  have L := h.1
  obtain ⟨n, w1, w2, w3, w4⟩ := h.2.2.2.2.2.2.1
  have k35 : hK s (B + 35) = (3, 2) := L.k 35 3 2 rfl
  have g4 : gR s B 6 4 = some (B + 35) := gR_ok L.kx (L.r 0 4 35 (by decide))
  rcases rng a0 n (by omega) with hb | ⟨j, hj, rfl⟩
  · refine ⟨-1000000001, s, s, ?_, ?_, L, h.inv, rfl, rfl⟩
    · show f_X6_trim s B a0 = _
      unfold f_X6_trim
      refine bnd g4 (bnd (gI_ok k35) ?_)
      rw [w2]
      exact bnd (out_no s hb) (ifn one_ne rfl)
    · show f_X7_trim s (B + 66) a0 = _
      unfold f_X7_trim
      refine bnd (gI_ok L.km) ?_
      rw [w3]
      exact bnd (in_no s hb) (ifp rfl rfl)
  · refine ⟨nI j, uI s (B + 35) 1 (nI j), uI (uI s (B + 35) 1 (nI j)) (B + 66) 7 (nI j), ?_, ?_, L.u _ _ _, ?_, rfl, rfl⟩
    · show f_X6_trim s B (nI j) = _
      unfold f_X6_trim
      refine bnd g4 (bnd (gI_ok k35) ?_)
      rw [w2]
      exact bnd (out_in s hj (by omega) rfl rfl) (ifp rfl (bnd g4 (bnd (pI_ok k35) rfl)))
    · show f_X7_trim (uI s (B + 35) 1 (nI j)) (B + 66) (nI j) = _
      have L1 : Lay B (uI s (B + 35) 1 (nI j)) := L.u _ _ _
      unfold f_X7_trim
      refine bnd (gI_ok L1.km) ?_
      rw [uI_ne (by omega), w3]
      exact bnd (in_yes _ hj (by omega) rfl rfl) (ifn one_ne (bnd (pI_ok L1.km) rfl))
    · have hx : Wx (fun a k => (a = B + 35 ∧ k = 1) ∨ (a = B + 66 ∧ k = 7)) s (uI (uI s (B + 35) 1 (nI j)) (B + 66) 7 (nI j)) := ((Wx.rf _ s).u (Or.inl ⟨rfl, rfl⟩)).u (Or.inr ⟨rfl, rfl⟩)
      refine (h.core hx ?_ ?_ (h.2.2.2.2.2.2.2.1.wx hx ?_) (h.2.2.2.2.2.2.2.2.1.wx hx ?_) (h.2.2.2.2.2.2.2.2.2.1.wx hx ?_) (h.2.2.2.2.2.2.2.2.2.2.wx hx ?_)).inv
      · rintro a k (⟨q, q2⟩ | ⟨q, q2⟩)
        · exact Or.inr (Or.inr ⟨35, by omega, q, by omega⟩)
        · exact Or.inr (Or.inl ⟨q, by omega⟩)
      · refine ⟨j, by omega, ?_, uI_eq _ _ _ _, fun i hi => ?_⟩
        · rw [uI_ne (by omega), uI_eq]
        · obtain ⟨v, g1, g2, g3⟩ := w4 i (by omega)
          refine ⟨v, g1, ?_, ?_⟩
          · rw [uI_ne (by omega), uI_ne (by omega)]; exact g2
          · rw [uI_ne (by omega), uI_ne (by omega)]; exact g3
      · intro i k hi; omega
      · intro i k hi; omega
      · exact ⟨by omega, by omega, fun k => by omega, fun k => by omega⟩
      · exact ⟨fun k => by omega, fun k => by omega⟩
theorem rng5 {a1 : Int32} (hb : a1 < 0 ∨ nI 5 < a1) : a1 < 0 ∨ nI 6 ≤ a1 := by
  refine hb.imp id (fun h => ?_)
  rcases pk_ix a1 (n := 6) (by decide) with g | g | ⟨q, g1, g2⟩
  · exact absurd (fa_tr h (Int32.le_of_lt g)) (by decide)
  · exact g
  · subst g2
    exact absurd h (nI_nlt (a := 5) (b := q) (by omega) (by decide))
theorem stp_as (B : Nat) (a0 a1 : Int32) : StpC B (fun s => f_X6_as s B a0 a1) (fun s => f_X7_as s (B + 66) a0 a1) := by
  refine stp_same fun s nt τ h => ?_
  have L := h.1
  have hN := h.2.2.2.1.1
  have hM := h.2.2.2.2.1
  have hok := h.2.2.1
  have h8 := hok.1.2.2.2.1
  have bad : (a0 < 0 ∨ nI (tK τ) ≤ a0) → ∃ v, f_X6_as s B a0 a1 = some (v, s) ∧ f_X7_as s (B + 66) a0 a1 = some (v, s) := by
    intro hb
    refine ⟨-1000000001, ?_, ?_⟩
    · unfold f_X6_as
      exact bnd ((cV_ok L.kx).trans (noT_out L hN hb)) (ifn one_ne rfl)
    · unfold f_X7_as
      exact bnd ((cV_ok L.km).trans (isT_out L hM hok hb)) (ifp rfl rfl)
  rcases pk_ix a0 (n := tK τ) (by omega) with hb | hb | ⟨j, hj, rfl⟩
  · exact bad (Or.inl hb)
  · exact bad (Or.inr hb)
  rcases rng a1 5 (by decide) with hb | ⟨c, hc, rfl⟩
  · refine ⟨-1000000001, ?_, ?_⟩
    · show f_X6_as s B (nI j) a1 = _
      unfold f_X6_as
      exact bnd ((cV_ok L.kx).trans (noT_in L hN hok hj)) (ifp rfl (bnd (noK_out (rng5 hb)) (ifn one_ne rfl)))
    · show f_X7_as s (B + 66) (nI j) a1 = _
      unfold f_X7_as
      exact bnd ((cV_ok L.km).trans (isT_in L hM hok hj)) (ifn one_ne (bnd (in_no s hb) (ifp rfl rfl)))
  · have hk := (hok.2.2.2.2.1 j hj).1
    have c1 := hN.2.2.2.2 j (by omega)
    have m1 := hM.2.2.2.2.1 j (by omega)
    by_cases hkk : okk (tR τ 8 j) c = true
    · refine ⟨nI (tR τ 9 j), ?_, ?_⟩
      · show f_X6_as s B (nI j) (nI c) = _
        unfold f_X6_as
        refine bnd ((cV_ok L.kx).trans (noT_in L hN hok hj)) (ifp rfl (bnd (noK_in (by omega)) (ifp rfl (bnd L.gt (bnd L.gk (bnd (aI_ok j L.k8 rfl (by omega) (by decide)) ?_))))))
        rw [c1.1]
        refine bnd (kind6 s _ c hk (by omega)) ?_
        rw [if_pos hkk]
        refine ifn one_ne (bnd L.gt (bnd L.gp (bnd (aI_ok j L.k9 rfl (by omega) (by decide)) ?_)))
        rw [c1.2.1]
      · show f_X7_as s (B + 66) (nI j) (nI c) = _
        unfold f_X7_as
        refine bnd ((cV_ok L.km).trans (isT_in L hM hok hj)) (ifn one_ne (bnd (in_yes s (n := 5) hc (by decide) rfl rfl) (ifn one_ne (bnd L.gn (bnd (L.an (80 + 3 * j) (ixm 80 3 j) (by omega)) ?_)))))
        rw [m1.1]
        refine bnd (kind7 s _ c hk (by omega)) ?_
        rw [if_pos hkk]
        refine ifn one_ne (bnd L.gn (bnd (L.an (81 + 3 * j) ((ixn 80 3 j 1).trans (by rw [show 80 + 3 * j + 1 = 81 + 3 * j by omega])) (by omega)) ?_))
        rw [m1.2.1]
    · refine ⟨-1000000012, ?_, ?_⟩
      · show f_X6_as s B (nI j) (nI c) = _
        unfold f_X6_as
        refine bnd ((cV_ok L.kx).trans (noT_in L hN hok hj)) (ifp rfl (bnd (noK_in (by omega)) (ifp rfl (bnd L.gt (bnd L.gk (bnd (aI_ok j L.k8 rfl (by omega) (by decide)) ?_))))))
        rw [c1.1]
        refine bnd (kind6 s _ c hk (by omega)) ?_
        rw [if_neg hkk]
        exact ifp rfl rfl
      · show f_X7_as s (B + 66) (nI j) (nI c) = _
        unfold f_X7_as
        refine bnd ((cV_ok L.km).trans (isT_in L hM hok hj)) (ifn one_ne (bnd (in_yes s (n := 5) hc (by decide) rfl rfl) (ifn one_ne (bnd L.gn (bnd (L.an (80 + 3 * j) (ixm 80 3 j) (by omega)) ?_)))))
        rw [m1.1]
        refine bnd (kind7 s _ c hk (by omega)) ?_
        rw [if_neg hkk]
        exact ifp rfl rfl
theorem stp_set_ (B : Nat) (a0 a1 a2 : Int32) : StpC B (fun s => f_X6_set s B a0 a1 a2) (fun s => f_X7_set s (B + 66) a0 a1 a2) := by
  refine stp_set fun s nt τ h => ?_
  have L := h.1
  have hN := h.2.2.2.1.1
  have hM := h.2.2.2.2.1
  have hok := h.2.2.1
  have h16 := hok.1.1
  have bad : (a0 < 0 ∨ nI (tF τ) ≤ a0) → ∃ v s1 s2, f_X6_set s B a0 a1 a2 = some (v, s1) ∧ f_X7_set s1 (B + 66) a0 a1 a2 = some (v, s2) ∧ Lay B s1 ∧ Inv B s2 ∧ s2.1 = s.1 ∧ s2.2.1 = s.2.1 := by
    intro hb
    refine ⟨-1000000001, s, s, ?_, ?_, L, h.inv, rfl, rfl⟩
    · unfold f_X6_set
      exact bnd ((cV_ok L.kx).trans (noF_out L hN hb)) (ifn one_ne rfl)
    · unfold f_X7_set
      exact bnd ((cV_ok L.km).trans (isF_out L hM hok hb)) (ifp rfl rfl)
  rcases pk_ix a0 (n := tF τ) (by omega) with hb | hb | ⟨j, hj, rfl⟩
  · exact bad (Or.inl hb)
  · exact bad (Or.inr hb)
  have c1 := hN.2.1 j (by omega)
  have m1 := hM.2.1 j (by omega)
  rcases rng a1 1 (by decide) with hb | ⟨q, hq, rfl⟩
  · have n0 : ¬ a1 = 0 := by
      rintro rfl
      revert hb
      decide
    have n1 : ¬ a1 = 1 := by
      rintro rfl
      revert hb
      decide
    refine ⟨-1000000001, s, s, ?_, ?_, L, h.inv, rfl, rfl⟩
    · show f_X6_set s B (nI j) a1 a2 = _
      unfold f_X6_set f_X6_set_b49
      exact bnd ((cV_ok L.kx).trans (noF_in L hN hok hj)) (ifp rfl (ifn n0 (ifn n1 rfl)))
    · show f_X7_set s (B + 66) (nI j) a1 a2 = _
      unfold f_X7_set
      exact bnd ((cV_ok L.km).trans (isF_in L hM hok hj)) (ifn one_ne (bnd (in_no s hb) (ifp rfl rfl)))
  · have hq2 : q = 0 ∨ q = 1 := by omega
    rcases hq2 with rfl | rfl
    · rcases rng a2 99 (by decide) with hb | ⟨w, hw, rfl⟩
      · refine ⟨-1000000001, s, s, ?_, ?_, L, h.inv, rfl, rfl⟩
        · show f_X6_set s B (nI j) (nI 0) a2 = _
          unfold f_X6_set f_X6_set_b49
          exact bnd ((cV_ok L.kx).trans (noF_in L hN hok hj)) (ifp rfl (ifp rfl (bnd (out_no s hb) (ifn one_ne (ifn (by decide) rfl)))))
        · show f_X7_set s (B + 66) (nI j) (nI 0) a2 = _
          unfold f_X7_set f_X7_set_b31
          exact bnd ((cV_ok L.km).trans (isF_in L hM hok hj)) (ifn one_ne (bnd (in_yes s (n := 1) (j := 0) (by omega) (by decide) rfl rfl) (ifn one_ne (ifp rfl (bnd (in_no s hb) (ifp rfl rfl))))))
      · refine ⟨nI (tR τ 1 j), uI s (B + 2) j (nI w), uI (uI s (B + 2) j (nI w)) (B + 67) (8 + 2 * j) (nI w), ?_, ?_, L.u _ _ _, (h.put 1 j w (by unfold wok; omega) (hok.r1 j w hw) rfl).inv, rfl, rfl⟩
        · show f_X6_set s B (nI j) (nI 0) (nI w) = _
          unfold f_X6_set
          refine bnd ((cV_ok L.kx).trans (noF_in L hN hok hj)) (ifp rfl (ifp rfl (bnd (out_in s (n := 99) hw (by decide) rfl rfl) (ifp rfl (bnd L.gt (bnd L.gw (bnd (aI_ok j L.k2 rfl (by omega) (by decide)) (bnd L.gt (bnd L.gw (bnd (sI_ok j L.k2 rfl (by omega) (by decide)) ?_))))))))))
          rw [c1.1]
        · show f_X7_set (uI s (B + 2) j (nI w)) (B + 66) (nI j) (nI 0) (nI w) = _
          have L1 : Lay B (uI s (B + 2) j (nI w)) := L.u _ _ _
          have e1 : hI (uI s (B + 2) j (nI w)) (B + 67) = hI s (B + 67) := funext fun k => uI_ne (by omega)
          have hM1 : TwM (hI (uI s (B + 2) j (nI w)) (B + 67)) τ := by rw [e1]; exact hM
          unfold f_X7_set f_X7_set_b31
          refine bnd ((cV_ok L1.km).trans (isF_in L1 hM1 hok hj)) (ifn one_ne (bnd (in_yes _ (n := 1) (j := 0) (by omega) (by decide) rfl rfl) (ifn one_ne (ifp rfl (bnd (in_yes _ (n := 99) hw (by decide) rfl rfl) (ifn one_ne (bnd ((cV_ok L1.km).trans (X7_bec L1 (8 + 2 * j) (ixn 8 2 j 0) (by omega))) ?_)))))))
          rw [e1, m1.1]
    · rcases rng a2 999 (by decide) with hb | ⟨w, hw, rfl⟩
      · refine ⟨-1000000001, s, s, ?_, ?_, L, h.inv, rfl, rfl⟩
        · show f_X6_set s B (nI j) (nI 1) a2 = _
          unfold f_X6_set f_X6_set_b49
          exact bnd ((cV_ok L.kx).trans (noF_in L hN hok hj)) (ifp rfl (ifn (by decide) (ifp rfl (bnd (out_no s hb) (ifn one_ne rfl)))))
        · show f_X7_set s (B + 66) (nI j) (nI 1) a2 = _
          unfold f_X7_set f_X7_set_b31
          exact bnd ((cV_ok L.km).trans (isF_in L hM hok hj)) (ifn one_ne (bnd (in_yes s (n := 1) (j := 1) (by omega) (by decide) rfl rfl) (ifn one_ne (ifn (by decide) (bnd (in_no s hb) (ifp rfl rfl))))))
      · refine ⟨nI (tR τ 2 j), uI s (B + 3) j (nI w), uI (uI s (B + 3) j (nI w)) (B + 67) (9 + 2 * j) (nI w), ?_, ?_, L.u _ _ _, (h.put 2 j w (by unfold wok; omega) (hok.r2 j w hw) rfl).inv, rfl, rfl⟩
        · show f_X6_set s B (nI j) (nI 1) (nI w) = _
          unfold f_X6_set f_X6_set_b49
          refine bnd ((cV_ok L.kx).trans (noF_in L hN hok hj)) (ifp rfl (ifn (by decide) (ifp rfl (bnd (out_in s (n := 999) hw (by decide) rfl rfl) (ifp rfl (bnd L.gt (bnd L.gl (bnd (aI_ok j L.k3 rfl (by omega) (by decide)) (bnd L.gt (bnd L.gl (bnd (sI_ok j L.k3 rfl (by omega) (by decide)) ?_)))))))))))
          rw [c1.2]
        · show f_X7_set (uI s (B + 3) j (nI w)) (B + 66) (nI j) (nI 1) (nI w) = _
          have L1 : Lay B (uI s (B + 3) j (nI w)) := L.u _ _ _
          have e1 : hI (uI s (B + 3) j (nI w)) (B + 67) = hI s (B + 67) := funext fun k => uI_ne (by omega)
          have hM1 : TwM (hI (uI s (B + 3) j (nI w)) (B + 67)) τ := by rw [e1]; exact hM
          unfold f_X7_set f_X7_set_b31
          refine bnd ((cV_ok L1.km).trans (isF_in L1 hM1 hok hj)) (ifn one_ne (bnd (in_yes _ (n := 1) (j := 1) (by omega) (by decide) rfl rfl) (ifn one_ne (ifn (by decide) (bnd (in_yes _ (n := 999) hw (by decide) rfl rfl) (ifn one_ne (bnd ((cV_ok L1.km).trans (X7_bec L1 (9 + 2 * j) ((ixn 8 2 j 1).trans (by rw [show 8 + 2 * j + 1 = 9 + 2 * j by omega])) (by omega))) ?_)))))))
          rw [e1, m1.2]
