theorem clo_up {τ : Tw} {r k w : Nat} (h : r ≠ 5 ∧ r ≠ 6 ∧ r ≠ 7 ∧ ¬ (r = 0 ∧ k = 2)) : ∀ n x, clo (upT τ r k w).1 n x = clo τ.1 n x
  | 0, _ => rfl
  | n + 1, x => by
    show clo (upT τ r k w).1 n (rlP (upT τ r k w).1 x) = clo τ.1 n (rlP τ.1 x)
    rw [clo_up h n, rlP_tf h]
theorem cl8_up {τ : Tw} {r k w : Nat} (h : r ≠ 5 ∧ r ≠ 6 ∧ r ≠ 7 ∧ ¬ (r = 0 ∧ k = 2)) (x : Nat) : cl8 (upT τ r k w).1 x = cl8 τ.1 x := by
  unfold cl8
  rw [up_ne (by omega), clo_up h]
/-- all people learn what follows -/
def lpT (τ : Tw) : Nat → Tw
  | 0 => τ
  | n + 1 => upT (lpT τ n) 3 n (cl8 τ.1 (tR τ 3 n))
theorem lp_o (τ : Tw) : ∀ n a k, (a ≠ 3 ∨ n ≤ k) → (lpT τ n).1 a k = τ.1 a k
  | 0, _, _, _ => rfl
  | n + 1, a, k, h => by
    show (upT (lpT τ n) 3 n _).1 a k = _
    rw [up_ne (by omega), lp_o τ n a k (by omega)]
theorem lp_i (τ : Tw) : ∀ n k, k < n → (lpT τ n).1 3 k = cl8 τ.1 (tR τ 3 k)
  | 0, _, h => by omega
  | n + 1, k, h => by
    show (upT (lpT τ n) 3 n _).1 3 k = _
    by_cases c : k = n
    · subst c
      rw [up_eq]
    · rw [up_ne (by omega), lp_i τ n k (by omega)]
theorem lp_2 (τ : Tw) : ∀ n, (lpT τ n).2 = τ.2
  | 0 => rfl
  | n + 1 => lp_2 τ n
theorem lp_cl (τ : Tw) (x : Nat) : ∀ n, cl8 (lpT τ n).1 x = cl8 τ.1 x
  | 0 => rfl
  | n + 1 => by
    show cl8 (upT (lpT τ n) 3 n _).1 x = _
    rw [cl8_up (by omega), lp_cl τ x n]
theorem lp_rl (τ : Tw) (x : Nat) : ∀ n, rlP (lpT τ n).1 x = rlP τ.1 x
  | 0 => rfl
  | n + 1 => by
    show rlP (upT (lpT τ n) 3 n _).1 x = _
    rw [rlP_tf (by omega), lp_rl τ x n]
theorem lp_ok {τ : Tw} (h : RlOk τ) (n : Nat) : RlOk (lpT τ n) := by
  have e : ∀ a k, a ≠ 3 → (lpT τ n).1 a k = τ.1 a k := fun a k ha => lp_o τ n a k (Or.inl ha)
  unfold RlOk tF tL tR
  rw [e 0 0 (by omega), e 0 2 (by omega)]
  refine ⟨h.1, h.2.1, fun r hr => ?_⟩
  rw [e 5 r (by omega), e 6 r (by omega), e 7 r (by omega)]
  exact h.2.2 r hr
theorem stp_follows (B : Nat) (a0 a1 a2 : Int32) : StpC B (fun s => f_X6_follows s B a0 a1 a2) (fun s => f_X7_follows s (B + 66) a0 a1 a2) := by
  refine stp_town fun s nt τ h => ?_
  have L := h.1
  have hN := h.2.2.2.1.1
  have hok := h.2.2.1
  have T1 := L.tly 1 (Or.inl rfl)
  have b8 := hok.1.2.1
  have b16 := hok.1.1
  have bl := hok.1.2.2.1
  have same : ∀ v, f_X6_follows s B a0 a1 a2 = some (v, s) → (∀ t, Lay B t → TwM (hI t (B + 67)) τ → f_X7_follows t (B + 66) a0 a1 a2 = some (v, t)) → ∃ v τ', tX τ' = tX τ ∧ τ'.2.2 = τ.2.2 ∧ TwOk τ' ∧ (∃ s1, f_X6_follows s B a0 a1 a2 = some (v, s1) ∧ Sx (CP B) s s1 ∧ TwN s1 (B + 1) τ') ∧ ∀ t, Lay B t → TwM (hI t (B + 67)) τ → ∃ t2, f_X7_follows t (B + 66) a0 a1 a2 = some (v, t2) ∧ Sx (MP B) t t2 ∧ TwM (hI t2 (B + 67)) τ' := fun v h6 h7 => ⟨v, τ, rfl, rfl, hok, ⟨s, h6, Sx.rf _ s, hN⟩, fun t Lt Mt => ⟨t, h7 t Lt Mt, Sx.rf _ t, Mt⟩⟩
  show ∃ v τ', tX τ' = tX τ ∧ τ'.2.2 = τ.2.2 ∧ TwOk τ' ∧ (∃ s1, f_X6_follows s B a0 a1 a2 = some (v, s1) ∧ Sx (CP B) s s1 ∧ TwN s1 (B + 1) τ') ∧ ∀ t, Lay B t → TwM (hI t (B + 67)) τ → ∃ t2, f_X7_follows t (B + 66) a0 a1 a2 = some (v, t2) ∧ Sx (MP B) t t2 ∧ TwM (hI t2 (B + 67)) τ'
  have ix : ∀ x : Int32, (x < 0 ∨ nI (tF τ) ≤ x) ∨ ∃ j : Nat, j < tF τ ∧ x = nI j := fun x => by
    rcases pk_ix x (n := tF τ) (by omega) with q | q | q
    · exact Or.inl (Or.inl q)
    · exact Or.inl (Or.inr q)
    · exact Or.inr q
  have cn : ∀ {j}, j < tF τ → cV s B 6 (f_X6_isNoFact s B (nI j)) = some (0, s) := fun hj => (cV_ok L.kx).trans (noF_in L hN hok hj)
  have co : ∀ {x : Int32}, (x < 0 ∨ nI (tF τ) ≤ x) → cV s B 6 (f_X6_isNoFact s B x) = some (1, s) := fun hj => (cV_ok L.kx).trans (noF_out L hN hj)
  rcases ix a0 with hb | ⟨a, ha, rfl⟩
  · refine same (-1000000001) ?_ (fun t Lt Mt => ?_)
    · unfold f_X6_follows
      exact bnd (co hb) (ifn one_ne rfl)
    · unfold f_X7_follows
      exact bnd ((cV_ok Lt.km).trans (isF_out Lt Mt hok hb)) (ifp rfl rfl)
  rcases ix a1 with hb | ⟨b, hb, rfl⟩
  · refine same (-1000000001) ?_ (fun t Lt Mt => ?_)
    · unfold f_X6_follows
      exact bnd (cn ha) (ifp rfl (bnd (co hb) (ifn one_ne rfl)))
    · unfold f_X7_follows
      exact bnd ((cV_ok Lt.km).trans (isF_in Lt Mt hok ha)) (ifn one_ne (bnd ((cV_ok Lt.km).trans (isF_out Lt Mt hok hb)) (ifp rfl rfl)))
  rcases ix a2 with hc | ⟨c, hc, rfl⟩
  · refine same (-1000000001) ?_ (fun t Lt Mt => ?_)
    · unfold f_X6_follows
      exact bnd (cn ha) (ifp rfl (bnd (cn hb) (ifp rfl (bnd (co hc) (ifn one_ne rfl)))))
    · unfold f_X7_follows
      exact bnd ((cV_ok Lt.km).trans (isF_in Lt Mt hok ha)) (ifn one_ne (bnd ((cV_ok Lt.km).trans (isF_in Lt Mt hok hb)) (ifn one_ne (bnd ((cV_ok Lt.km).trans (isF_out Lt Mt hok hc)) (ifp rfl rfl)))))
  have cp : ∀ {r : Option (Int32 × hS)}, (if nI (tL τ) < (8 : Int32) then (gR s B 6 0).bind fun a6 => (cV s a6 5 (f_X5_addRule s a6 (nI a) (nI b) (nI c))).bind fun p7 => some (p7.1, p7.2) else some ((-1000000003 : Int32), s)) = r → f_X6_follows s B (nI a) (nI b) (nI c) = r := by
    intro r hr
    unfold f_X6_follows
    refine bnd (cn ha) (ifp rfl (bnd (cn hb) (ifp rfl (bnd (cn hc) (ifp rfl (bnd L.gt (bnd (gI_ok L.kt) ?_)))))))
    rw [hN.1.2.2.1]
    exact hr
  by_cases full : tL τ = 8
  · refine same (-1000000003) (cp (ifn ?_ rfl)) (fun t Lt Mt => ?_)
    · rw [full]; decide
    · unfold f_X7_follows
      refine bnd ((cV_ok Lt.km).trans (isF_in Lt Mt hok ha)) (ifn one_ne (bnd ((cV_ok Lt.km).trans (isF_in Lt Mt hok hb)) (ifn one_ne (bnd ((cV_ok Lt.km).trans (isF_in Lt Mt hok hc)) (ifn one_ne (bnd Lt.gn (bnd (Lt.an 4 rfl (by decide)) ?_)))))))
      rw [Mt.1.2.2.1, full]
      exact ifp rfl rfl
  have hl : tL τ < 8 := by omega
  have rF : tF (ruT τ a b c) = tF τ := ru_ne (by omega) (by omega)
  have rP : tP (ruT τ a b c) = tP τ := ru_ne (by omega) (by omega)
  have r3 : ∀ p, tR (ruT τ a b c) 3 p = tR τ 3 p := fun p => ru_ne (by omega) (by omega)
  have r4 : ∀ p, tR (ruT τ a b c) 4 p = tR τ 4 p := fun p => ru_ne (by omega) (by omega)
  have rr : ∀ r, r < tL (ruT τ a b c) → tR (ruT τ a b c) 5 r < tF τ ∧ tR (ruT τ a b c) 6 r < tF τ ∧ tR (ruT τ a b c) 7 r < tF τ := by
    intro r hr
    rw [ru_L] at hr
    by_cases q : r = tL τ
    · subst q
      rw [show tR (ruT τ a b c) 5 (tL τ) = a from ru_5, show tR (ruT τ a b c) 6 (tL τ) = b from ru_6, show tR (ruT τ a b c) 7 (tL τ) = c from ru_7]
      exact ⟨ha, hb, hc⟩
    · rw [show tR (ruT τ a b c) 5 r = tR τ 5 r from ru_ne (by omega) (by omega), show tR (ruT τ a b c) 6 r = tR τ 6 r from ru_ne (by omega) (by omega), show tR (ruT τ a b c) 7 r = tR τ 7 r from ru_ne (by omega) (by omega)]
      exact hok.2.2.2.1 r (by omega)
  have ro : RlOk (ruT τ a b c) := by
    unfold RlOk
    rw [rF, ru_L]
    exact ⟨b16, by omega, fun r hr => rr r (by rw [ru_L]; exact hr)⟩
  have kl : ∀ p, p < tP τ → tR (ruT τ a b c) 3 p < 2 ^ tF τ := fun p hp => by rw [r3]; exact (hok.2.2.1 p hp).1
  refine ⟨nI (tL τ + 1), lpT (ruT τ a b c) (tP τ), ?_, ?_, ?_, ?_, fun t Lt Mt => ?_⟩
  · exact (lp_o _ _ 0 4 (by omega)).trans (ru_ne (by omega) (by omega))
  · rw [lp_2]; rfl
  · have e : ∀ r k, r ≠ 3 → r ≠ 5 → r ≠ 6 → r ≠ 7 → ¬ (r = 0 ∧ k = 2) → (lpT (ruT τ a b c) (tP τ)).1 r k = τ.1 r k := fun r k h3 h5 h6 h7 h8 => (lp_o _ _ r k (Or.inl h3)).trans (ru_ne (by omega) (by omega))
    have eo := lp_ok ro (tP τ)
    obtain ⟨⟨q0, q1, q2, q3, q4, q5⟩, w1, w2, w3, w4, w5⟩ := hok
    have fe : tF (lpT (ruT τ a b c) (tP τ)) = tF τ := e 0 0 (by omega) (by omega) (by omega) (by omega) (by omega)
    have pe : tP (lpT (ruT τ a b c) (tP τ)) = tP τ := e 0 1 (by omega) (by omega) (by omega) (by omega) (by omega)
    have ke : tK (lpT (ruT τ a b c) (tP τ)) = tK τ := e 0 3 (by omega) (by omega) (by omega) (by omega) (by omega)
    have xe : tX (lpT (ruT τ a b c) (tP τ)) = tX τ := e 0 4 (by omega) (by omega) (by omega) (by omega) (by omega)
    have he : tH (lpT (ruT τ a b c) (tP τ)) = tH τ := e 0 5 (by omega) (by omega) (by omega) (by omega) (by omega)
    refine ⟨⟨by rw [fe]; exact q0, by rw [pe]; exact q1, eo.2.1, by rw [ke]; exact q3, by rw [xe]; exact q4, by rw [he]; exact q5⟩, fun i hi => ?_, fun p hp => ?_, eo.2.2, fun t ht => ?_, fun i hi => ?_⟩
    · rw [fe] at hi
      rw [show tR (lpT (ruT τ a b c) (tP τ)) 1 i = tR τ 1 i from e 1 i (by omega) (by omega) (by omega) (by omega) (by omega), show tR (lpT (ruT τ a b c) (tP τ)) 2 i = tR τ 2 i from e 2 i (by omega) (by omega) (by omega) (by omega) (by omega)]
      exact w1 i hi
    · rw [pe] at hp
      rw [show tR (lpT (ruT τ a b c) (tP τ)) 3 p = cl8 (ruT τ a b c).1 (tR (ruT τ a b c) 3 p) from lp_i _ _ p hp, show tR (lpT (ruT τ a b c) (tP τ)) 4 p = tR τ 4 p from e 4 p (by omega) (by omega) (by omega) (by omega) (by omega), lp_rl, fe]
      have := ro.lt (x := tR (ruT τ a b c) 3 p) (by rw [rF]; exact kl p hp)
      rw [rF] at this
      exact ⟨this, (w2 p hp).2.1, cl8_fix _ _⟩
    · rw [ke] at ht
      rw [show tR (lpT (ruT τ a b c) (tP τ)) 8 t = tR τ 8 t from e 8 t (by omega) (by omega) (by omega) (by omega) (by omega), show tR (lpT (ruT τ a b c) (tP τ)) 9 t = tR τ 9 t from e 9 t (by omega) (by omega) (by omega) (by omega) (by omega), show tR (lpT (ruT τ a b c) (tP τ)) 10 t = tR τ 10 t from e 10 t (by omega) (by omega) (by omega) (by omega) (by omega), pe]
      exact w4 t ht
    · rw [xe] at hi
      rw [lp_2]
      exact w5 i hi
  · have N0 := hN.rule a b c
    have X0 : Sx (CP B) s (uI (uI (uI s (B + 1 + 5) (tL τ) (nI (2 ^ a ||| 2 ^ b))) (B + 1 + 6) (tL τ) (nI (2 ^ c))) (B + 1) 2 (nI (tL τ + 1))) := ((Sx.u s _ _ _ (TP.cp (Or.inl rfl) (TP.r 5 (by omega)))).tr (Sx.u _ _ _ _ (TP.cp (Or.inl rfl) (TP.r 6 (by omega))))).tr (Sx.u _ _ _ _ (TP.cp (Or.inl rfl) (TP.r 0 (by omega))))
    have lp : ∃ s1, jL f_X5_addRule_b50 (fun _ _ _ => none) jF (B + 1) 0 (uI (uI (uI s (B + 1 + 5) (tL τ) (nI (2 ^ a ||| 2 ^ b))) (B + 1 + 6) (tL τ) (nI (2 ^ c))) (B + 1) 2 (nI (tL τ + 1))) = some (nI (tL τ + 1), s1) ∧ Sx (CP B) s s1 ∧ TwN s1 (B + 1) (lpT (ruT τ a b c) (tP τ)) := by
      refine jL_ex (F := f_X5_addRule_b50) (z := fun _ _ _ => none) (fun (k : Nat → Int32 → hS → Option (Int32 × hS)) i (x : hS) => k (B + 1) (nI i) x) (tP τ) (fun i x => Sx (CP B) s x ∧ TwN x (B + 1) (lpT (ruT τ a b c) i)) (fun r => ∃ s1, r = some (nI (tL τ + 1), s1) ∧ Sx (CP B) s s1 ∧ TwN s1 (B + 1) (lpT (ruT τ a b c) (tP τ))) (fun i hi x hx k => Or.inl ?_) (fun x hx k => ?_) jF 0 _ (Nat.zero_le _) (jF_lt (by omega)) ⟨X0, N0⟩
      · obtain ⟨Sxx, hT⟩ := hx
        have Lx := L.sx Sxx
        have Tx := Lx.tly 1 (Or.inl rfl)
        have ro' := lp_ok ro i
        have fe : tF (lpT (ruT τ a b c) i) = tF τ := (lp_o _ _ 0 0 (by omega)).trans rF
        have ke : tR (lpT (ruT τ a b c) i) 3 i = tR (ruT τ a b c) 3 i := lp_o _ _ 3 i (by omega)
        have lr := c_learn Tx hT ro' (p := i) (m := 0) (by omega) (by rw [ke, fe]; exact kl i hi) (Nat.two_pow_pos _)
        rw [lp_cl, ke, Nat.or_zero] at lr
        refine ⟨_, ⟨Sxx.tr (Sx.u _ _ _ _ (TP.cp (Or.inl rfl) (TP.r 3 (by omega)))), hT.w 3 i (cl8 (ruT τ a b c).1 (tR (ruT τ a b c) 3 i)) (by unfold wok; omega)⟩, ?_⟩
        show f_X5_addRule_b50 k (B + 1) (nI i) x = _
        unfold f_X5_addRule_b50
        refine bnd (gI_ok Tx.1) ?_
        rw [hT.1.2.1, show tP (lpT (ruT τ a b c) i) = tP τ from (lp_o _ _ 0 1 (by omega)).trans rP]
        refine ifn (nI_ge hi (by omega)) (bnd ((cV_ok Tx.1).trans lr) ?_)
        rw [nI_1]
      · obtain ⟨Sxx, hT⟩ := hx
        have Lx := L.sx Sxx
        have Tx := Lx.tly 1 (Or.inl rfl)
        refine ⟨x, ?_, Sxx, hT⟩
        show f_X5_addRule_b50 k (B + 1) (nI (tP τ)) x = _
        unfold f_X5_addRule_b50
        refine bnd (gI_ok Tx.1) ?_
        rw [hT.1.2.1, show tP (lpT (ruT τ a b c) (tP τ)) = tP τ from (lp_o _ _ 0 1 (by omega)).trans rP]
        refine ifp (nI_le (Nat.le_refl _) (by omega)) (bnd (gI_ok Tx.1) ?_)
        rw [hT.1.2.2.1, show tL (lpT (ruT τ a b c) (tP τ)) = tL τ + 1 from (lp_o _ _ 0 2 (by omega)).trans ru_L]
    obtain ⟨s1, e1, x1, n1⟩ := lp
    refine ⟨s1, cp (ifp (nI_lt (b := 8) hl (by decide)) (bnd L.gt (bnd (x := (nI (tL τ + 1), s1)) ((cV_ok L.kt).trans ?_) rfl))), x1, n1⟩
    unfold f_X5_addRule f_X5_addRule_b47
    refine bnd (gI_ok L.kt) ?_
    rw [hN.1.2.2.1]
    refine ifn (nI_ge (b := 8) hl (by decide)) (bnd T1.g12 (bnd (gI_ok L.kt) ?_))
    rw [hN.1.2.2.1, bi_one (by omega), bi_one (by omega), bi_or]
    refine bnd (T1.s5 hl) (bnd (T1.u _ _ _).g13 (bnd (gI_ok (L.u _ _ _).kt) ?_))
    rw [uI_ne (by omega), hN.1.2.2.1, bi_one (by omega)]
    refine bnd ((T1.u _ _ _).s6 hl) (bnd (gI_ok ((L.u _ _ _).u _ _ _).kt) ?_)
    rw [uI_ne (by omega), uI_ne (by omega), hN.1.2.2.1, nI_1]
    exact bnd (pI_ok ((L.u _ _ _).u _ _ _).kt) e1
  · have M0 := Mt.rule hl a b c
    have X0 : Sx (MP B) t (uI (uI (uI (uI t (B + 67) (56 + 3 * tL τ) (nI a)) (B + 67) (57 + 3 * tL τ) (nI b)) (B + 67) (58 + 3 * tL τ) (nI c)) (B + 67) 4 (nI (tL τ + 1))) := (((Sx.u t _ _ _ (Or.inl rfl)).tr (Sx.u _ _ _ _ (Or.inl rfl))).tr (Sx.u _ _ _ _ (Or.inl rfl))).tr (Sx.u _ _ _ _ (Or.inl rfl))
    have lp : ∃ s1, jL f_X7_follows_b95 (fun _ _ _ => none) jF (B + 66) 0 (uI (uI (uI (uI t (B + 67) (56 + 3 * tL τ) (nI a)) (B + 67) (57 + 3 * tL τ) (nI b)) (B + 67) (58 + 3 * tL τ) (nI c)) (B + 67) 4 (nI (tL τ + 1))) = some (nI (tL τ + 1), s1) ∧ Sx (MP B) t s1 ∧ TwM (hI s1 (B + 67)) (lpT (ruT τ a b c) (tP τ)) := by
      refine jL_ex (F := f_X7_follows_b95) (z := fun _ _ _ => none) (fun (k : Nat → Int32 → hS → Option (Int32 × hS)) i (x : hS) => k (B + 66) (nI i) x) (tP τ) (fun i x => Sx (MP B) t x ∧ TwM (hI x (B + 67)) (lpT (ruT τ a b c) i)) (fun r => ∃ s1, r = some (nI (tL τ + 1), s1) ∧ Sx (MP B) t s1 ∧ TwM (hI s1 (B + 67)) (lpT (ruT τ a b c) (tP τ))) (fun i hi x hx k => Or.inl ?_) (fun x hx k => ?_) jF 0 _ (Nat.zero_le _) (jF_lt (by omega)) ⟨X0, M0⟩
      · obtain ⟨Sxx, hT⟩ := hx
        have Lx := Lt.sx Sxx
        have ro' := lp_ok ro i
        have fe : tF (lpT (ruT τ a b c) i) = tF τ := (lp_o _ _ 0 0 (by omega)).trans rF
        have ke : tR (lpT (ruT τ a b c) i) 3 i = tR (ruT τ a b c) 3 i := lp_o _ _ 3 i (by omega)
        have lr := m_learn Lx hT ro' (p := i) (m := 0) (by omega) (by rw [ke, fe]; exact kl i hi) (Nat.two_pow_pos _)
        rw [lp_cl, ke, Nat.or_zero] at lr
        refine ⟨_, ⟨Sxx.tr (Sx.u _ _ _ _ (Or.inl rfl)), hT.uw ro'.2.1 3 i (cl8 (ruT τ a b c).1 (tR (ruT τ a b c) 3 i)) (by unfold wok; omega)⟩, ?_⟩
        show f_X7_follows_b95 k (B + 66) (nI i) x = _
        unfold f_X7_follows_b95
        refine bnd Lx.gn (bnd (Lx.an 2 rfl (by decide)) ?_)
        rw [hT.1.2.1, show tP (lpT (ruT τ a b c) i) = tP τ from (lp_o _ _ 0 1 (by omega)).trans rP]
        refine ifn (nI_ge hi (by omega)) (bnd ((cV_ok Lx.km).trans lr) ?_)
        rw [nI_1]
        rfl
      · obtain ⟨Sxx, hT⟩ := hx
        have Lx := Lt.sx Sxx
        refine ⟨x, ?_, Sxx, hT⟩
        show f_X7_follows_b95 k (B + 66) (nI (tP τ)) x = _
        unfold f_X7_follows_b95
        refine bnd Lx.gn (bnd (Lx.an 2 rfl (by decide)) ?_)
        rw [hT.1.2.1, show tP (lpT (ruT τ a b c) (tP τ)) = tP τ from (lp_o _ _ 0 1 (by omega)).trans rP]
        refine ifp (nI_le (Nat.le_refl _) (by omega)) (bnd Lx.gn (bnd (Lx.an 4 rfl (by decide)) ?_))
        rw [hT.1.2.2.1, show tL (lpT (ruT τ a b c) (tP τ)) = tL τ + 1 from (lp_o _ _ 0 2 (by omega)).trans ru_L]
    obtain ⟨s1, e1, x1, n1⟩ := lp
    refine ⟨s1, ?_, x1, n1⟩
    unfold f_X7_follows
    refine bnd ((cV_ok Lt.km).trans (isF_in Lt Mt hok ha)) (ifn one_ne (bnd ((cV_ok Lt.km).trans (isF_in Lt Mt hok hb)) (ifn one_ne (bnd ((cV_ok Lt.km).trans (isF_in Lt Mt hok hc)) (ifn one_ne (bnd Lt.gn (bnd (Lt.an 4 rfl (by decide)) ?_)))))))
    rw [Mt.1.2.2.1]
    refine ifn (fun q => full ((nI_eq (b := 8) (by omega) (by decide)).mp q)) (bnd Lt.gn (bnd (Lt.an 4 rfl (by decide)) ?_))
    rw [Mt.1.2.2.1]
    show ((gR t (B + 66) 7 0).bind fun a9 => (sI t a9 10 ((56 : Int32) + (3 : Int32) * nI (tL τ)) (nI a)).bind fun s10 => (gR s10 (B + 66) 7 0).bind fun a11 => (sI s10 a11 10 ((56 : Int32) + (3 : Int32) * nI (tL τ) + (1 : Int32)) (nI b)).bind fun s12 => (gR s12 (B + 66) 7 0).bind fun a13 => (sI s12 a13 10 ((56 : Int32) + (3 : Int32) * nI (tL τ) + (2 : Int32)) (nI c)).bind fun s14 => (gR s14 (B + 66) 7 0).bind fun a15 => (aI s14 a15 10 (4 : Int32)).bind fun x16 => (sI s14 a15 10 (4 : Int32) (x16 + (1 : Int32))).bind fun s17 => jL f_X7_follows_b95 (fun _ _ _ => none) jF (B + 66) (0 : Int32) s17) = _
    refine bnd Lt.gn (bnd (Lt.sn (56 + 3 * tL τ) (ixm 56 3 (tL τ)) (by omega)) (bnd (Lt.u _ _ _).gn (bnd ((Lt.u _ _ _).sn (57 + 3 * tL τ) (ixe 56 3 (tL τ) 1 (by omega)) (by omega)) (bnd ((Lt.u _ _ _).u _ _ _).gn (bnd (((Lt.u _ _ _).u _ _ _).sn (58 + 3 * tL τ) (ixe 56 3 (tL τ) 2 (by omega)) (by omega)) (bnd (((Lt.u _ _ _).u _ _ _).u _ _ _).gn (bnd ((((Lt.u _ _ _).u _ _ _).u _ _ _).an 4 rfl (by decide)) ?_)))))))
    rw [uI_ne (by omega), uI_ne (by omega), uI_ne (by omega), Mt.1.2.2.1, nI_1]
    exact bnd ((((Lt.u _ _ _).u _ _ _).u _ _ _).sn 4 rfl (by decide)) e1
/-! draws -/
theorem nzE : ∃ f : Int32 → Int32, ∀ z : Int32, f z = z * (1103515245 : Int32) + (12345 : Int32) := ⟨fun z => z * (1103515245 : Int32) + (12345 : Int32), fun _ => rfl⟩
noncomputable def nz : Int32 → Int32 := Classical.choose nzE
theorem nz_eq (z : Int32) : nz z = z * (1103515245 : Int32) + (12345 : Int32) := Classical.choose_spec nzE z
def dz (z : Int32) : Nat := z.toBitVec.toNat / 256 % 65536
theorem dz_ok (z : Int32) : (z.toUInt32 >>> (((8 : Int32)).toUInt32 &&& Int32.toUInt32 31)).toInt32 - (z.toUInt32 >>> (((8 : Int32)).toUInt32 &&& Int32.toUInt32 31)).toInt32 / (65536 : Int32) * (65536 : Int32) = nI (dz z) := by
  obtain ⟨n, hn, rfl⟩ := nI_all z
  unfold dz
  rw [pk_ushrN hn 8 8 (by decide), pk_tn hn, show (65536 : Int32) = nI 65536 from rfl, pk_rem (by omega) (by decide) (by decide)]
theorem and_all (x F : Nat) : x &&& (2 ^ F - 1) < 2 ^ F := by
  rw [Nat.and_two_pow_sub_one_eq_mod]
  exact Nat.mod_lt _ (Nat.two_pow_pos _)
/-- one person is dealt to -/
noncomputable def d1T (τ : Tw) (p : Nat) : Tw := upT (szT (upT (szT τ (nz τ.2.1.2)) 3 p (cl8 τ.1 (dz (nz τ.2.1.2) &&& (2 ^ tF τ - 1)))) (nz (nz τ.2.1.2))) 4 p (dz (nz (nz τ.2.1.2)) &&& (2 ^ tF τ - 1))
noncomputable def dlT (τ : Tw) : Nat → Tw
  | 0 => τ
  | n + 1 => d1T (dlT τ n) n
theorem d1_ok {τ : Tw} (h : TwOk τ) (p : Nat) : TwOk (d1T τ p) := by
  have h1 : TwOk (szT τ (nz τ.2.1.2)) := h
  have h2 := h1.r3 p (cl8 τ.1 (dz (nz τ.2.1.2) &&& (2 ^ tF τ - 1))) (h.rl.lt (and_all _ _)) (cl8_fix _ _)
  have h3 : TwOk (szT (upT (szT τ (nz τ.2.1.2)) 3 p (cl8 τ.1 (dz (nz τ.2.1.2) &&& (2 ^ tF τ - 1)))) (nz (nz τ.2.1.2))) := h2
  exact h3.r4 p _ (and_all _ _)
theorem d1_o (τ : Tw) (p a k : Nat) (h : a ≠ 3 ∧ a ≠ 4) : (d1T τ p).1 a k = τ.1 a k := by
  unfold d1T
  rw [up_ne (by omega)]
  show (upT (szT τ (nz τ.2.1.2)) 3 p _).1 a k = _
  rw [up_ne (by omega)]
  rfl
theorem dl_ok {τ : Tw} (h : TwOk τ) : ∀ n, TwOk (dlT τ n)
  | 0 => h
  | n + 1 => d1_ok (dl_ok h n) n
theorem dl_o (τ : Tw) : ∀ n a k, (a ≠ 3 ∧ a ≠ 4) → (dlT τ n).1 a k = τ.1 a k
  | 0, _, _, _ => rfl
  | n + 1, a, k, h => (d1_o _ n a k h).trans (dl_o τ n a k h)
theorem dl_2 (τ : Tw) : ∀ n, (dlT τ n).2.2 = τ.2.2
  | 0 => rfl
  | n + 1 => dl_2 τ n
theorem d1_alt (σ : Tw) (p x y w : Nat) (z : Int32) : upT (upT (szT (upT σ 3 p x) z) 4 p y) 3 p w = upT (szT (upT σ 3 p w) z) 4 p y := by
  have : (upT (upT (szT (upT σ 3 p x) z) 4 p y) 3 p w).1 = (upT (szT (upT σ 3 p w) z) 4 p y).1 := by
    funext a i
    by_cases q : a = 3 ∧ i = p
    · obtain ⟨rfl, rfl⟩ := q
      rw [up_eq, up_ne (by omega)]
      exact (up_eq σ 3 i w).symm
    · rw [up_ne q]
      by_cases q2 : a = 4 ∧ i = p
      · obtain ⟨rfl, rfl⟩ := q2
        rw [up_eq, up_eq]
      · rw [up_ne q2, up_ne q2]
        show (upT σ 3 p x).1 a i = (upT σ 3 p w).1 a i
        rw [up_ne q, up_ne q]
  exact Prod.ext this rfl
theorem c_draw {s : hS} {T : Nat} {τ : Tw} (h : TLy s T) (hN : TwN s T τ) : f_X5_drawOne s T = some (((nz τ.2.1.2).toUInt32 >>> (((8 : Int32)).toUInt32 &&& Int32.toUInt32 31)).toInt32, uI s T 7 (nz τ.2.1.2)) := by
  unfold f_X5_drawOne
  refine bnd (gI_ok h.1) ?_
  rw [hN.1.2.2.2.2.2.2.2, ← nz_eq]
  refine bnd (pI_ok h.1) (bnd (gI_ok (h.u _ _ _).1) ?_)
  rw [uI_eq]
theorem m_draw {B : Nat} {s : hS} {τ : Tw} (L : Lay B s) (hM : TwM (hI s (B + 67)) τ) : f_X7_draw s (B + 66) = some (((nz τ.2.1.2).toUInt32 >>> (((8 : Int32)).toUInt32 &&& Int32.toUInt32 31)).toInt32, uI s (B + 67) 0 (nz τ.2.1.2)) := by
  unfold f_X7_draw
  refine bnd L.gn (bnd L.gn (bnd (L.an 0 rfl (by decide)) ?_))
  rw [hM.1.2.2.2.2.2.2.2, ← nz_eq]
  refine bnd (L.sn 0 rfl (by decide)) (bnd (L.u _ _ _).gn (bnd ((L.u _ _ _).an 0 rfl (by decide)) ?_))
  rw [uI_eq]
theorem stp_deal (B : Nat) : StpC B (fun s => f_X6_deal s B) (fun s => f_X7_deal s (B + 66)) := by
  refine stp_town fun s nt τ h => ?_
  have L := h.1
  have hN := h.2.2.2.1.1
  have hok := h.2.2.1
  have b8 := hok.1.2.1
  have b16 := hok.1.1
  have fin := dl_ok hok (tP τ)
  have pe : tP (dlT τ (tP τ)) = tP τ := dl_o τ _ 0 1 (by omega)
  refine ⟨nI (kto (dlT τ (tP τ)) (tP (dlT τ (tP τ)))), dlT τ (tP τ), dl_o τ _ 0 4 (by omega), dl_2 τ _, fin, ?_, fun t Lt Mt => ?_⟩
  · have lp : ∃ s1, f_X5_drawAll s (B + 1) = some ((), s1) ∧ Sx (CP B) s s1 ∧ TwN s1 (B + 1) (dlT τ (tP τ)) := by
      refine jL_ex (F := f_X5_drawAll_b2) (z := fun _ _ _ => none) (fun (k : Nat → Int32 → hS → Option (Unit × hS)) i (x : hS) => k (B + 1) (nI i) x) (tP τ) (fun i x => Sx (CP B) s x ∧ TwN x (B + 1) (dlT τ i)) (fun r => ∃ s1, r = some ((), s1) ∧ Sx (CP B) s s1 ∧ TwN s1 (B + 1) (dlT τ (tP τ))) (fun i hi x hx k => Or.inl ?_) (fun x hx k => ?_) jF 0 s (Nat.zero_le _) (jF_lt (by omega)) ⟨Sx.rf _ s, hN⟩
      · obtain ⟨Sxx, hT⟩ := hx
        have Lx := L.sx Sxx
        have Tx := Lx.tly 1 (Or.inl rfl)
        have ok := dl_ok hok i
        have p1 : tP (dlT τ i) = tP τ := dl_o τ _ 0 1 (by omega)
        show ∃ x', (Sx (CP B) s x' ∧ TwN x' (B + 1) (d1T (dlT τ i) i)) ∧ f_X5_drawAll_b2 k (B + 1) (nI i) x = k (B + 1) (nI (i + 1)) x'
        generalize dlT τ i = σ at hT ok p1
        have N1 := hT.sz (nz σ.2.1.2)
        have N2 := N1.w 3 i (cl8 σ.1 (dz (nz σ.2.1.2) &&& (2 ^ tF σ - 1))) (by unfold wok; omega)
        have N3 := N2.sz (nz (nz σ.2.1.2))
        have N4 := N3.w 4 i (dz (nz (nz σ.2.1.2)) &&& (2 ^ tF σ - 1)) (by unfold wok; omega)
        have Ta := Tx.u (B + 1) 7 (nz σ.2.1.2)
        have Tb := Ta.u (B + 1 + 3) i (nI (cl8 σ.1 (dz (nz σ.2.1.2) &&& (2 ^ tF σ - 1))))
        have Tc := Tb.u (B + 1) 7 (nz (nz σ.2.1.2))
        refine ⟨_, ⟨(((Sxx.tr (Sx.u _ _ _ _ (TP.cp (Or.inl rfl) (TP.r 0 (by omega))))).tr (Sx.u _ _ _ _ (TP.cp (Or.inl rfl) (TP.r 3 (by omega))))).tr (Sx.u _ _ _ _ (TP.cp (Or.inl rfl) (TP.r 0 (by omega))))).tr (Sx.u _ _ _ _ (TP.cp (Or.inl rfl) (TP.r 4 (by omega)))), N4⟩, ?_⟩
        unfold f_X5_drawAll_b2
        refine bnd (gI_ok Tx.1) ?_
        rw [hT.1.2.1, p1]
        refine ifn (nI_ge hi (by omega)) (bnd Tx.g10 (bnd ((cV_ok Tx.1).trans (c_draw Tx hT)) (ifn (by decide) (bnd ((cV_ok Ta.1).trans (c_all Ta N1 ok.1.1)) ?_))))
        rw [dz_ok]
        show ((cV (uI x (B + 1) 7 (nz σ.2.1.2)) (B + 1) 5 (f_X5_withWhatFollows (uI x (B + 1) 7 (nz σ.2.1.2)) (B + 1) (nI (dz (nz σ.2.1.2)) &&& nI (2 ^ tF σ - 1)))).bind _) = _
        rw [bi_and]
        refine bnd ((cV_ok Ta.1).trans (c_wwf Ta N1 ok.rl (and_all _ _))) (bnd (Ta.s3 (by omega)) (bnd Tb.g11 (bnd ((cV_ok Tb.1).trans (c_draw Tb N2)) (ifn (by decide) (bnd ((cV_ok Tc.1).trans (c_all Tc N3 ok.1.1)) ?_)))))
        rw [dz_ok]
        show ((sI _ (B + 1 + 4) 10 (nI i) (nI (dz (nz (nz σ.2.1.2))) &&& nI (2 ^ tF σ - 1))).bind _) = _
        rw [bi_and]
        refine bnd (Tc.s4 (by omega)) ?_
        rw [nI_1]
      · obtain ⟨Sxx, hT⟩ := hx
        have Lx := L.sx Sxx
        have Tx := Lx.tly 1 (Or.inl rfl)
        refine ⟨x, ?_, Sxx, hT⟩
        show f_X5_drawAll_b2 k (B + 1) (nI (tP τ)) x = _
        unfold f_X5_drawAll_b2
        refine bnd (gI_ok Tx.1) ?_
        rw [hT.1.2.1, pe]
        exact ifp (nI_le (Nat.le_refl _) (by omega)) rfl
    obtain ⟨s1, e1, x1, n1⟩ := lp
    have L1 := L.sx x1
    have Tx := L1.tly 1 (Or.inl rfl)
    refine ⟨s1, ?_, x1, n1⟩
    show f_X6_deal s B = _
    unfold f_X6_deal
    exact bnd L.gt (bnd ((cV_ok L.kt).trans e1) (bnd L1.gt (bnd ((cV_ok Tx.1).trans (c_kto Tx n1 fin)) rfl)))
  · show ∃ t2, f_X7_deal t (B + 66) = some (_, t2) ∧ _
    unfold f_X7_deal
    have e0 : ((1 : Int32) <<< (nI (tF τ) &&& 31)) - 1 = nI (2 ^ tF τ - 1) := by
      have : 0 < 2 ^ tF τ := Nat.two_pow_pos _
      rw [bi_one (by omega), show nI (2 ^ tF τ) - 1 = nI (2 ^ tF τ - 1) from pk_sub (b := 1) (by omega)]
    have lp : ∃ s1, jL f_X7_deal_b13 (fun _ _ _ _ => none) jF (B + 66) (nI (2 ^ tF τ - 1)) 0 t = some (nI (kto (dlT τ (tP τ)) (tP (dlT τ (tP τ)))), s1) ∧ Sx (MP B) t s1 ∧ TwM (hI s1 (B + 67)) (dlT τ (tP τ)) := by
      refine jL_ex (F := f_X7_deal_b13) (z := fun _ _ _ _ => none) (fun (k : kk2) i (x : hS) => k (B + 66) (nI (2 ^ tF τ - 1)) (nI i) x) (tP τ) (fun i x => Sx (MP B) t x ∧ TwM (hI x (B + 67)) (dlT τ i)) (fun r => ∃ s1, r = some (nI (kto (dlT τ (tP τ)) (tP (dlT τ (tP τ)))), s1) ∧ Sx (MP B) t s1 ∧ TwM (hI s1 (B + 67)) (dlT τ (tP τ))) (fun i hi x hx k => Or.inl ?_) (fun x hx k => ?_) jF 0 t (Nat.zero_le _) (jF_lt (by omega)) ⟨Sx.rf _ t, Mt⟩
      · obtain ⟨Sxx, hT⟩ := hx
        have Lx := Lt.sx Sxx
        have ok := dl_ok hok i
        have p1 : tP (dlT τ i) = tP τ := dl_o τ _ 0 1 (by omega)
        have f1 : tF (dlT τ i) = tF τ := dl_o τ _ 0 0 (by omega)
        show ∃ x', (Sx (MP B) t x' ∧ TwM (hI x' (B + 67)) (d1T (dlT τ i) i)) ∧ f_X7_deal_b13 k (B + 66) (nI (2 ^ tF τ - 1)) (nI i) x = k (B + 66) (nI (2 ^ tF τ - 1)) (nI (i + 1)) x'
        rw [← f1]
        generalize dlT τ i = σ at hT ok p1
        have l8 := ok.1.2.2.1
        have N1 := hT.sz (nz σ.2.1.2)
        have N2 := N1.uw l8 3 i (dz (nz σ.2.1.2) &&& (2 ^ tF σ - 1)) (by unfold wok; omega)
        have N3 := N2.sz (nz (nz σ.2.1.2))
        have N4 := N3.uw l8 4 i (dz (nz (nz σ.2.1.2)) &&& (2 ^ tF σ - 1)) (by unfold wok; omega)
        have Ta := Lx.u (B + 67) 0 (nz σ.2.1.2)
        have Tb := Ta.u (B + 67) (40 + 2 * i) (nI (dz (nz σ.2.1.2) &&& (2 ^ tF σ - 1)))
        have Tc := Tb.u (B + 67) 0 (nz (nz σ.2.1.2))
        have Td := Tc.u (B + 67) (41 + 2 * i) (nI (dz (nz (nz σ.2.1.2)) &&& (2 ^ tF σ - 1)))
        have r4 : RlOk (upT (szT (upT (szT σ (nz σ.2.1.2)) 3 i (dz (nz σ.2.1.2) &&& (2 ^ tF σ - 1))) (nz (nz σ.2.1.2))) 4 i (dz (nz (nz σ.2.1.2)) &&& (2 ^ tF σ - 1))) := ok.rl
        have k4 : tR (upT (szT (upT (szT σ (nz σ.2.1.2)) 3 i (dz (nz σ.2.1.2) &&& (2 ^ tF σ - 1))) (nz (nz σ.2.1.2))) 4 i (dz (nz (nz σ.2.1.2)) &&& (2 ^ tF σ - 1))) 3 i = dz (nz σ.2.1.2) &&& (2 ^ tF σ - 1) := (up_ne (by omega)).trans (up_eq (szT σ (nz σ.2.1.2)) 3 i _)
        have lr := m_learn Td N4 r4 (p := i) (m := 0) (by omega) (by rw [k4]; exact and_all _ _) (Nat.two_pow_pos _)
        rw [k4, Nat.or_zero, cl8_up (by omega)] at lr
        have lc : cl8 (szT (upT (szT σ (nz σ.2.1.2)) 3 i (dz (nz σ.2.1.2) &&& (2 ^ tF σ - 1))) (nz (nz σ.2.1.2))).1 (dz (nz σ.2.1.2) &&& (2 ^ tF σ - 1)) = cl8 σ.1 (dz (nz σ.2.1.2) &&& (2 ^ tF σ - 1)) := cl8_up (τ := szT σ (nz σ.2.1.2)) (by omega) _
        rw [lc] at lr
        have N5 := N4.uw l8 3 i (cl8 σ.1 (dz (nz σ.2.1.2) &&& (2 ^ tF σ - 1))) (by unfold wok; omega)
        rw [d1_alt] at N5
        refine ⟨_, ⟨((((Sxx.tr (Sx.u _ _ _ _ (Or.inl rfl))).tr (Sx.u _ _ _ _ (Or.inl rfl))).tr (Sx.u _ _ _ _ (Or.inl rfl))).tr (Sx.u _ _ _ _ (Or.inl rfl))).tr (Sx.u _ _ _ _ (Or.inl rfl)), N5⟩, ?_⟩
        unfold f_X7_deal_b13
        refine bnd Lx.gn (bnd (Lx.an 2 rfl (by decide)) ?_)
        rw [hT.1.2.1, p1]
        refine ifn (nI_ge hi (by omega)) (bnd Lx.gn (bnd ((cV_ok Lx.km).trans (m_draw Lx hT)) (ifn (by decide) ?_)))
        rw [dz_ok, bi_and]
        refine bnd (Ta.sn (40 + 2 * i) (ixm 40 2 i) (by omega)) (bnd Tb.gn (bnd ((cV_ok Tb.km).trans (m_draw Tb N2)) (ifn (by decide) ?_)))
        rw [dz_ok]
        show ((sI _ (B + 67) 10 ((40 : Int32) + (2 : Int32) * nI i + (1 : Int32)) (nI (dz (nz (nz σ.2.1.2))) &&& nI (2 ^ tF σ - 1))).bind _) = _
        rw [bi_and]
        refine bnd (Tc.sn (41 + 2 * i) (ixe 40 2 i 1 (by omega)) (by omega)) (bnd ((cV_ok Td.km).trans lr) ?_)
        rw [nI_1]
        rfl
      · obtain ⟨Sxx, hT⟩ := hx
        have Lx := Lt.sx Sxx
        refine ⟨x, ?_, Sxx, hT⟩
        show f_X7_deal_b13 k (B + 66) _ (nI (tP τ)) x = _
        unfold f_X7_deal_b13
        refine bnd Lx.gn (bnd (Lx.an 2 rfl (by decide)) ?_)
        rw [hT.1.2.1]
        refine ifp ?_ (bnd ((cV_ok Lx.km).trans (m_kto Lx hT fin)) rfl)
        rw [pe]
        exact nI_le (Nat.le_refl _) (by omega)
    obtain ⟨s1, e1, x1, n1⟩ := lp
    refine ⟨s1, bnd Lt.gn (bnd (Lt.an 1 rfl (by decide)) ?_), x1, n1⟩
    rw [Mt.1.1]
    show jL f_X7_deal_b13 (fun _ _ _ _ => none) jF (B + 66) (((1 : Int32) <<< (nI (tF τ) &&& 31)) - 1) 0 t = _
    rw [e0]
    exact e1
