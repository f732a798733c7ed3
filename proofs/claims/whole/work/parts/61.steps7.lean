theorem Lay.gkn {B : Nat} {s : hS} (L : Lay B s) : gR s (B + 1) 5 10 = some (B + 4) := gR_ok L.kt (L.r 1 10 4 (by decide))
theorem Lay.gnd {B : Nat} {s : hS} (L : Lay B s) : gR s (B + 1) 5 11 = some (B + 5) := gR_ok L.kt (L.r 1 11 5 (by decide))
theorem Lay.k4 {B : Nat} {s : hS} (L : Lay B s) : hK s (B + 4) = (10, 8) := L.k 4 10 8 rfl
theorem Lay.k5 {B : Nat} {s : hS} (L : Lay B s) : hK s (B + 5) = (10, 8) := L.k 5 10 8 rfl
theorem stp_person (B : Nat) : StpC B (fun s => f_X6_person s B) (fun s => f_X7_person s (B + 66)) := by
  refine stp_set fun s nt τ h => ?_
  have L := h.1
  have hN := h.2.2.2.1.1
  have hM := h.2.2.2.2.1
  have hok := h.2.2.1
  have h8 := hok.1.2.1
  have cP := hN.1.2.1
  have mP := hM.1.2.1
  generalize hP : tP τ = P at cP mP h8
  by_cases hf : P = 8
  · subst hf
    refine ⟨-1000000003, s, s, ?_, ?_, L, h.inv, rfl, rfl⟩
    · show f_X6_person s B = _
      unfold f_X6_person
      refine bnd L.gt (bnd (gI_ok L.kt) ?_)
      rw [cP]
      exact ifn (by decide) rfl
    · show f_X7_person s (B + 66) = _
      unfold f_X7_person
      refine bnd L.gn (bnd (L.an 2 rfl (by decide)) ?_)
      rw [mP]
      exact ifp rfl rfl
  · have hf2 : P < 8 := by omega
    refine ⟨nI P, uI (uI (uI s (B + 4) P (nI 0)) (B + 5) P (nI 0)) (B + 1) 1 (nI (P + 1)), uI (uI (uI (uI (uI (uI s (B + 4) P (nI 0)) (B + 5) P (nI 0)) (B + 1) 1 (nI (P + 1))) (B + 67) (40 + 2 * P) (nI 0)) (B + 67) (41 + 2 * P) (nI 0)) (B + 67) 2 (nI (P + 1)), ?_, ?_, ((L.u _ _ _).u _ _ _).u _ _ _, ?_, rfl, rfl⟩
    · show f_X6_person s B = _
      unfold f_X6_person
      refine bnd L.gt (bnd (gI_ok L.kt) ?_)
      rw [cP]
      refine ifp (nI_lt (a := P) (b := 8) hf2 (by decide)) (bnd L.gt (bnd (x := (nI P, _)) ((cV_ok L.kt).trans ?_) rfl))
      show f_X5_addPerson s (B + 1) = some (nI P, _)
      unfold f_X5_addPerson
      refine bnd (gI_ok L.kt) ?_
      rw [cP]
      refine ifn (nI_ge hf2 (by decide)) (bnd L.gkn (bnd (sI_ok P L.k4 rfl hf2 (by decide)) (bnd (L.u _ _ _).gnd (bnd (sI_ok P (L.u _ _ _).k5 rfl hf2 (by decide)) (bnd (gI_ok ((L.u _ _ _).u _ _ _).kt) ?_)))))
      rw [uI_ne (by omega), uI_ne (by omega), cP]
      exact bnd (pI_ok ((L.u _ _ _).u _ _ _).kt) (by rw [nI_1]; rfl)
    · have L3 : Lay B (uI (uI (uI s (B + 4) P (nI 0)) (B + 5) P (nI 0)) (B + 1) 1 (nI (P + 1))) := ((L.u _ _ _).u _ _ _).u _ _ _
      have e3 : ∀ k, hI (uI (uI (uI s (B + 4) P (nI 0)) (B + 5) P (nI 0)) (B + 1) 1 (nI (P + 1))) (B + 67) k = hI s (B + 67) k := fun k => by rw [uI_ne (by omega), uI_ne (by omega), uI_ne (by omega)]
      show f_X7_person (uI (uI (uI s (B + 4) P (nI 0)) (B + 5) P (nI 0)) (B + 1) 1 (nI (P + 1))) (B + 66) = _
      generalize uI (uI (uI s (B + 4) P (nI 0)) (B + 5) P (nI 0)) (B + 1) 1 (nI (P + 1)) = s1 at L3 e3
      have f1 : hI s1 (B + 67) 2 = nI P := (e3 2).trans mP
      unfold f_X7_person
      refine bnd L3.gn (bnd (L3.an 2 rfl (by decide)) ?_)
      rw [f1]
      refine ifn (fun e => hf ((nI_eq (by omega) (by decide)).mp e)) (bnd L3.gn (bnd L3.gn (bnd (L3.an 2 rfl (by decide)) ?_)))
      rw [f1]
      refine bnd (L3.sn (40 + 2 * P) (ixm 40 2 P) (by omega)) (bnd (L3.u _ _ _).gn (bnd (L3.u _ _ _).gn (bnd ((L3.u _ _ _).an 2 rfl (by decide)) ?_)))
      rw [uI_ne (by omega), f1]
      refine bnd ((L3.u _ _ _).sn (41 + 2 * P) ((ixn 40 2 P 1).trans (by rw [show 40 + 2 * P + 1 = 41 + 2 * P by omega])) (by omega)) (bnd ((L3.u _ _ _).u _ _ _).gn (bnd (((L3.u _ _ _).u _ _ _).an 2 rfl (by decide)) ?_))
      rw [uI_ne (by omega), uI_ne (by omega), f1]
      refine bnd (((L3.u _ _ _).u _ _ _).sn 2 rfl (by decide)) (bnd (((L3.u _ _ _).u _ _ _).u _ _ _).gn (bnd ((((L3.u _ _ _).u _ _ _).u _ _ _).an 2 rfl (by decide)) ?_))
      rw [uI_eq, nI_1, nI_pred]
      rfl
    · refine (h.puts [(3, P, 0), (4, P, 0), (0, 1, P + 1)] ?_ ?_).inv
      · intro e he
        simp only [List.mem_cons, List.not_mem_nil, or_false] at he
        unfold wok
        rcases he with rfl | rfl | rfl
        · exact Or.inr (Or.inr ⟨Or.inl rfl, hf2⟩)
        · exact Or.inr (Or.inr ⟨Or.inr (Or.inl rfl), hf2⟩)
        · exact Or.inl ⟨rfl, by show 1 < 6; omega, by show 1 ≠ 2; omega, by show 1 ≠ 4; omega⟩
      · obtain ⟨⟨q1, q2, q3⟩, w1, w2, w3, w4, w5⟩ := hok
        show TwOk (upT (upT (upT τ 3 P 0) 4 P 0) 0 1 (P + 1))
        rw [hP] at w2
        have hr : ∀ set, rlP (upT (upT (upT τ 3 P 0) 4 P 0) 0 1 (P + 1)).1 set = rlP τ.1 set := fun set => by rw [rlP_tf (by omega), rlP_tf (by omega), rlP_tf (by omega)]
        refine ⟨⟨q1, by show P + 1 ≤ 8; omega, q3⟩, w1, fun p hp => ?_, w3, fun t ht => ?_, w5⟩
        · have hp2 : p < P + 1 := hp
          by_cases hpP : p = P
          · subst hpP
            have z1 : tR (upT (upT (upT τ 3 p 0) 4 p 0) 0 1 (p + 1)) 3 p = 0 := by
              show (upT (upT (upT τ 3 p 0) 4 p 0) 0 1 (p + 1)).1 3 p = 0
              rw [up_ne (by omega), up_ne (by omega), up_eq]
            have z2 : tR (upT (upT (upT τ 3 p 0) 4 p 0) 0 1 (p + 1)) 4 p = 0 := by
              show (upT (upT (upT τ 3 p 0) 4 p 0) 0 1 (p + 1)).1 4 p = 0
              rw [up_ne (by omega), up_eq]
            rw [z1, z2, hr]
            exact ⟨Nat.two_pow_pos _, Nat.two_pow_pos _, rlN_0 _ _⟩
          · have z1 : tR (upT (upT (upT τ 3 P 0) 4 P 0) 0 1 (P + 1)) 3 p = tR τ 3 p := by
              show (upT (upT (upT τ 3 P 0) 4 P 0) 0 1 (P + 1)).1 3 p = τ.1 3 p
              rw [up_ne (by omega), up_ne (by omega), up_ne (by omega)]
            have z2 : tR (upT (upT (upT τ 3 P 0) 4 P 0) 0 1 (P + 1)) 4 p = tR τ 4 p := by
              show (upT (upT (upT τ 3 P 0) 4 P 0) 0 1 (P + 1)).1 4 p = τ.1 4 p
              rw [up_ne (by omega), up_ne (by omega), up_ne (by omega)]
            rw [z1, z2, hr]
            exact w2 p (by omega)
        · obtain ⟨g1, g2, g3, g4⟩ := w4 t ht
          rw [hP] at g2 g3
          exact ⟨g1, Nat.lt_succ_of_lt g2, Nat.lt_succ_of_lt g3, g4⟩
theorem stp_talk (B : Nat) (a0 a1 a2 : Int32) : StpC B (fun s => f_X6_talk s B a0 a1 a2) (fun s => f_X7_talk s (B + 66) a0 a1 a2) := by
  refine stp_set fun s nt τ h => ?_
  have L := h.1
  have hN := h.2.2.2.1.1
  have hM := h.2.2.2.2.1
  have hok := h.2.2.1
  have hp8 := hok.1.2.1
  have h8 := hok.1.2.2.2.1
  rcases rng a0 5 (by decide) with hb | ⟨k, hk, rfl⟩
  · refine ⟨-1000000001, s, s, ?_, ?_, L, h.inv, rfl, rfl⟩
    · show f_X6_talk s B a0 a1 a2 = _
      unfold f_X6_talk
      exact bnd (noK_out (rng5 hb)) (ifn one_ne rfl)
    · show f_X7_talk s (B + 66) a0 a1 a2 = _
      unfold f_X7_talk
      exact bnd (in_no s hb) (ifp rfl rfl)
  have bad1 : (a1 < 0 ∨ nI (tP τ) ≤ a1) → ∃ v s1 s2, f_X6_talk s B (nI k) a1 a2 = some (v, s1) ∧ f_X7_talk s1 (B + 66) (nI k) a1 a2 = some (v, s2) ∧ Lay B s1 ∧ Inv B s2 ∧ s2.1 = s.1 ∧ s2.2.1 = s.2.1 := by
    intro hb
    refine ⟨-1000000001, s, s, ?_, ?_, L, h.inv, rfl, rfl⟩
    · unfold f_X6_talk
      exact bnd (noK_in (by omega)) (ifp rfl (bnd ((cV_ok L.kx).trans (noP_out L hN hb)) (ifn one_ne rfl)))
    · unfold f_X7_talk
      exact bnd (in_yes s (n := 5) hk (by decide) rfl rfl) (ifn one_ne (bnd ((cV_ok L.km).trans (isP_out L hM hok hb)) (ifp rfl rfl)))
  rcases pk_ix a1 (n := tP τ) (by omega) with hb | hb | ⟨p, hp, rfl⟩
  · exact bad1 (Or.inl hb)
  · exact bad1 (Or.inr hb)
  have bad2 : (a2 < 0 ∨ nI (tP τ) ≤ a2) → ∃ v s1 s2, f_X6_talk s B (nI k) (nI p) a2 = some (v, s1) ∧ f_X7_talk s1 (B + 66) (nI k) (nI p) a2 = some (v, s2) ∧ Lay B s1 ∧ Inv B s2 ∧ s2.1 = s.1 ∧ s2.2.1 = s.2.1 := by
    intro hb
    refine ⟨-1000000001, s, s, ?_, ?_, L, h.inv, rfl, rfl⟩
    · unfold f_X6_talk
      exact bnd (noK_in (by omega)) (ifp rfl (bnd ((cV_ok L.kx).trans (noP_in L hN hok hp)) (ifp rfl (bnd ((cV_ok L.kx).trans (noP_out L hN hb)) (ifn one_ne rfl)))))
    · unfold f_X7_talk
      exact bnd (in_yes s (n := 5) hk (by decide) rfl rfl) (ifn one_ne (bnd ((cV_ok L.km).trans (isP_in L hM hok hp)) (ifn one_ne (bnd ((cV_ok L.km).trans (isP_out L hM hok hb)) (ifp rfl rfl)))))
  rcases pk_ix a2 (n := tP τ) (by omega) with hb | hb | ⟨q, hq, rfl⟩
  · exact bad2 (Or.inl hb)
  · exact bad2 (Or.inr hb)
  by_cases hpq : p = q
  · subst hpq
    refine ⟨-1000000001, s, s, ?_, ?_, L, h.inv, rfl, rfl⟩
    · show f_X6_talk s B (nI k) (nI p) (nI p) = _
      unfold f_X6_talk
      exact bnd (noK_in (by omega)) (ifp rfl (bnd ((cV_ok L.kx).trans (noP_in L hN hok hp)) (ifp rfl (bnd ((cV_ok L.kx).trans (noP_in L hN hok hp)) (ifp rfl (ifp rfl rfl))))))
    · show f_X7_talk s (B + 66) (nI k) (nI p) (nI p) = _
      unfold f_X7_talk
      exact bnd (in_yes s (n := 5) hk (by decide) rfl rfl) (ifn one_ne (bnd ((cV_ok L.km).trans (isP_in L hM hok hp)) (ifn one_ne (bnd ((cV_ok L.km).trans (isP_in L hM hok hp)) (ifn one_ne (ifp rfl rfl))))))
  have hne : ¬ nI p = nI q := fun e => hpq ((nI_eq (by omega) (by omega)).mp e)
  have cK := hN.1.2.2.2.1
  have mK := hM.1.2.2.2.1
  generalize hT : tK τ = T at cK mK h8
  by_cases hf : T = 8
  · subst hf
    refine ⟨-1000000003, s, s, ?_, ?_, L, h.inv, rfl, rfl⟩
    · show f_X6_talk s B (nI k) (nI p) (nI q) = _
      unfold f_X6_talk
      refine bnd (noK_in (by omega)) (ifp rfl (bnd ((cV_ok L.kx).trans (noP_in L hN hok hp)) (ifp rfl (bnd ((cV_ok L.kx).trans (noP_in L hN hok hq)) (ifp rfl (ifn hne (bnd L.gt (bnd (gI_ok L.kt) ?_))))))))
      rw [cK]
      exact ifn (by decide) rfl
    · show f_X7_talk s (B + 66) (nI k) (nI p) (nI q) = _
      unfold f_X7_talk
      refine bnd (in_yes s (n := 5) hk (by decide) rfl rfl) (ifn one_ne (bnd ((cV_ok L.km).trans (isP_in L hM hok hp)) (ifn one_ne (bnd ((cV_ok L.km).trans (isP_in L hM hok hq)) (ifn one_ne (ifn hne (bnd L.gn (bnd (L.an 3 rfl (by decide)) ?_))))))))
      rw [mK]
      exact ifp rfl rfl
  · have hf2 : T < 8 := by omega
    refine ⟨nI T, uI (uI (uI (uI s (B + 8) T (nI k)) (B + 9) T (nI p)) (B + 10) T (nI q)) (B + 1) 3 (nI (T + 1)), uI (uI (uI (uI (uI (uI (uI (uI s (B + 8) T (nI k)) (B + 9) T (nI p)) (B + 10) T (nI q)) (B + 1) 3 (nI (T + 1))) (B + 67) (80 + 3 * T) (nI k)) (B + 67) (81 + 3 * T) (nI p)) (B + 67) (82 + 3 * T) (nI q)) (B + 67) 3 (nI (T + 1)), ?_, ?_, (((L.u _ _ _).u _ _ _).u _ _ _).u _ _ _, ?_, rfl, rfl⟩
    · show f_X6_talk s B (nI k) (nI p) (nI q) = _
      unfold f_X6_talk
      refine bnd (noK_in (by omega)) (ifp rfl (bnd ((cV_ok L.kx).trans (noP_in L hN hok hp)) (ifp rfl (bnd ((cV_ok L.kx).trans (noP_in L hN hok hq)) (ifp rfl (ifn hne (bnd L.gt (bnd (gI_ok L.kt) ?_))))))))
      rw [cK]
      refine ifp (nI_lt (a := T) (b := 8) hf2 (by decide)) (bnd L.gt (bnd (x := (nI T, _)) ((cV_ok L.kt).trans ?_) rfl))
      show f_X5_addTalk s (B + 1) (nI k) (nI p) (nI q) = some (nI T, _)
      unfold f_X5_addTalk
      refine bnd (gI_ok L.kt) ?_
      rw [cK]
      refine ifn (nI_ge hf2 (by decide)) (bnd L.gk (bnd (sI_ok T L.k8 rfl hf2 (by decide)) (bnd (L.u _ _ _).gp (bnd (sI_ok T (L.u _ _ _).k9 rfl hf2 (by decide)) (bnd ((L.u _ _ _).u _ _ _).gq (bnd (sI_ok T ((L.u _ _ _).u _ _ _).k10 rfl hf2 (by decide)) (bnd (gI_ok (((L.u _ _ _).u _ _ _).u _ _ _).kt) ?_)))))))
      rw [uI_ne (by omega), uI_ne (by omega), uI_ne (by omega), cK]
      exact bnd (pI_ok (((L.u _ _ _).u _ _ _).u _ _ _).kt) (by rw [nI_1]; rfl)
    · have L3 : Lay B (uI (uI (uI (uI s (B + 8) T (nI k)) (B + 9) T (nI p)) (B + 10) T (nI q)) (B + 1) 3 (nI (T + 1))) := (((L.u _ _ _).u _ _ _).u _ _ _).u _ _ _
      have e3 : ∀ j, hI (uI (uI (uI (uI s (B + 8) T (nI k)) (B + 9) T (nI p)) (B + 10) T (nI q)) (B + 1) 3 (nI (T + 1))) (B + 67) j = hI s (B + 67) j := fun j => by rw [uI_ne (by omega), uI_ne (by omega), uI_ne (by omega), uI_ne (by omega)]
      show f_X7_talk (uI (uI (uI (uI s (B + 8) T (nI k)) (B + 9) T (nI p)) (B + 10) T (nI q)) (B + 1) 3 (nI (T + 1))) (B + 66) (nI k) (nI p) (nI q) = _
      generalize uI (uI (uI (uI s (B + 8) T (nI k)) (B + 9) T (nI p)) (B + 10) T (nI q)) (B + 1) 3 (nI (T + 1)) = s1 at L3 e3
      have hM1 : TwM (hI s1 (B + 67)) τ := by rw [show hI s1 (B + 67) = hI s (B + 67) from funext e3]; exact hM
      have f1 : hI s1 (B + 67) 3 = nI T := (e3 3).trans mK
      unfold f_X7_talk
      refine bnd (in_yes _ (n := 5) hk (by decide) rfl rfl) (ifn one_ne (bnd ((cV_ok L3.km).trans (isP_in L3 hM1 hok hp)) (ifn one_ne (bnd ((cV_ok L3.km).trans (isP_in L3 hM1 hok hq)) (ifn one_ne (ifn hne (bnd L3.gn (bnd (L3.an 3 rfl (by decide)) ?_))))))))
      rw [f1]
      refine ifn (fun e => hf ((nI_eq (by omega) (by decide)).mp e)) (bnd L3.gn (bnd (L3.an 3 rfl (by decide)) ?_))
      rw [f1]
      show (gR s1 (B + 66) 7 0).bind _ = _
      refine bnd L3.gn (bnd (L3.sn (80 + 3 * T) (ixm 80 3 T) (by omega)) (bnd (L3.u _ _ _).gn (bnd ((L3.u _ _ _).sn (81 + 3 * T) ((ixn 80 3 T 1).trans (by rw [show 80 + 3 * T + 1 = 81 + 3 * T by omega])) (by omega)) (bnd ((L3.u _ _ _).u _ _ _).gn (bnd (((L3.u _ _ _).u _ _ _).sn (82 + 3 * T) ((ixn 80 3 T 2).trans (by rw [show 80 + 3 * T + 2 = 82 + 3 * T by omega])) (by omega)) (bnd (((L3.u _ _ _).u _ _ _).u _ _ _).gn (bnd ((((L3.u _ _ _).u _ _ _).u _ _ _).an 3 rfl (by decide)) ?_)))))))
      rw [uI_ne (by omega), uI_ne (by omega), uI_ne (by omega), f1]
      refine bnd ((((L3.u _ _ _).u _ _ _).u _ _ _).sn 3 rfl (by decide)) (bnd ((((L3.u _ _ _).u _ _ _).u _ _ _).u _ _ _).gn (bnd (((((L3.u _ _ _).u _ _ _).u _ _ _).u _ _ _).an 3 rfl (by decide)) ?_))
      rw [uI_eq, nI_1, nI_pred]
    · refine (h.puts [(8, T, k), (9, T, p), (10, T, q), (0, 3, T + 1)] ?_ ?_).inv
      · intro e he
        simp only [List.mem_cons, List.not_mem_nil, or_false] at he
        unfold wok
        rcases he with rfl | rfl | rfl | rfl
        · exact Or.inr (Or.inr ⟨Or.inr (Or.inr (Or.inl rfl)), hf2⟩)
        · exact Or.inr (Or.inr ⟨Or.inr (Or.inr (Or.inr (Or.inl rfl))), hf2⟩)
        · exact Or.inr (Or.inr ⟨Or.inr (Or.inr (Or.inr (Or.inr rfl))), hf2⟩)
        · exact Or.inl ⟨rfl, by show 3 < 6; omega, by show 3 ≠ 2; omega, by show 3 ≠ 4; omega⟩
      · obtain ⟨⟨q1, q2, q3, q4, q5⟩, w1, w2, w3, w4, w5⟩ := hok
        show TwOk (upT (upT (upT (upT τ 8 T k) 9 T p) 10 T q) 0 3 (T + 1))
        rw [hT] at w4
        refine ⟨⟨q1, q2, q3, by show T + 1 ≤ 8; omega, q5⟩, w1, fun i hi => ⟨(w2 i hi).1, (w2 i hi).2.1, ?_⟩, w3, fun t ht => ?_, w5⟩
        · rw [rlP_tf (by omega), rlP_tf (by omega), rlP_tf (by omega), rlP_tf (by omega)]
          exact (w2 i hi).2.2
        · have ht2 : t < T + 1 := ht
          show (upT (upT (upT (upT τ 8 T k) 9 T p) 10 T q) 0 3 (T + 1)).1 8 t < 6 ∧ (upT (upT (upT (upT τ 8 T k) 9 T p) 10 T q) 0 3 (T + 1)).1 9 t < tP τ ∧ (upT (upT (upT (upT τ 8 T k) 9 T p) 10 T q) 0 3 (T + 1)).1 10 t < tP τ ∧ (upT (upT (upT (upT τ 8 T k) 9 T p) 10 T q) 0 3 (T + 1)).1 9 t ≠ (upT (upT (upT (upT τ 8 T k) 9 T p) 10 T q) 0 3 (T + 1)).1 10 t
          by_cases htT : t = T
          · subst htT
            have z1 : (upT (upT (upT (upT τ 8 t k) 9 t p) 10 t q) 0 3 (t + 1)).1 8 t = k := by rw [up_ne (by omega), up_ne (by omega), up_ne (by omega), up_eq]
            have z2 : (upT (upT (upT (upT τ 8 t k) 9 t p) 10 t q) 0 3 (t + 1)).1 9 t = p := by rw [up_ne (by omega), up_ne (by omega), up_eq]
            have z3 : (upT (upT (upT (upT τ 8 t k) 9 t p) 10 t q) 0 3 (t + 1)).1 10 t = q := by rw [up_ne (by omega), up_eq]
            rw [z1, z2, z3]
            exact ⟨by omega, hp, hq, hpq⟩
          · have z : ∀ r, r = 8 ∨ r = 9 ∨ r = 10 → (upT (upT (upT (upT τ 8 T k) 9 T p) 10 T q) 0 3 (T + 1)).1 r t = τ.1 r t := fun r hr => by rw [up_ne (by omega), up_ne (by omega), up_ne (by omega), up_ne (by omega)]
            rw [z 8 (by omega), z 9 (by omega), z 10 (by omega)]
            exact w4 t (by omega)
