/-! checks: rounds told ahead -/
def ckv (w : Nat → Int32) (held : Nat) : Nat → Nat → Tw → Int32
  | 0, r, _ => if held ≤ r then 0 else nI (1 + r)
  | e + 1, r, σ => if held ≤ r then nI (1 + r) else if ¬ w r = nI (rnd σ (tK σ)).1 then nI (1 + r) else if held ≤ r + 1 then nI (1 + (r + 1)) else if ¬ w (r + 1) = nI (kto (rndT σ) (tP (rndT σ))) then nI (1 + (r + 1)) else ckv w held e (r + 2) (rndT σ)
theorem Lay.k64 {B : Nat} {s : hS} (L : Lay B s) : hK s (B + 64) = (10, 60) := L.k 64 10 60 rfl
theorem Lay.k88 {B : Nat} {s : hS} (L : Lay B s) : hK s (B + 88) = (10, 60) := L.k 88 10 60 rfl
theorem Lay.g64 {B : Nat} {s : hS} (L : Lay B s) : gR s B 6 8 = some (B + 64) := gR_ok L.kx (L.r 0 8 64 (by decide))
theorem Lay.m32 {B : Nat} {s : hS} (L : Lay B s) : gR s (B + 66) 7 32 = some (B + 88) := L.gm 32 88 0 (by decide)
theorem one_add (r : Nat) : (1 : Int32) + nI r = nI (1 + r) := nI_add 1 r
theorem c_ckv {B nt N held : Nat} {w : Nat → Int32} (hN : N ≤ 30) (hh : held ≤ 60) : ∀ e i fuel σ y, CT B nt (B + 23) y σ → Lay B y → (∀ k, k < held → hI y (B + 64) k = w k) → ((i + e = N ∧ tH σ + e ≤ 999) ∨ (tH σ + e = 999 ∧ i + e ≤ N)) → e < fuel → ∃ y', jL f_X6_check_b49 (fun _ _ _ _ _ _ => none) fuel B (nI N) (nI held) (nI (2 * i)) (nI i) y = some (ckv w held e (2 * i) σ, y') ∧ Sx (TP B (B + 23)) y y'
  | 0, i, fuel + 1, σ, y, h, L, hw, hE, hf => by
    refine ⟨y, ?_, Sx.rf _ y⟩
    show f_X6_check_b49 (jL f_X6_check_b49 (fun _ _ _ _ _ _ => none) fuel) B (nI N) (nI held) (nI (2 * i)) (nI i) y = some (if held ≤ 2 * i then 0 else nI (1 + 2 * i), y)
    have fin : f_X6_check_b134 (nI held) (nI (2 * i)) y = some (if held ≤ 2 * i then 0 else nI (1 + 2 * i), y) := by
      unfold f_X6_check_b134
      by_cases c : held ≤ 2 * i
      · rw [if_pos c]
        exact ifp (nI_le c (by omega)) rfl
      · rw [if_neg c]
        refine ifn (nI_ge (by omega) (by omega)) ?_
        rw [one_add]
    unfold f_X6_check_b49
    by_cases c : N ≤ i
    · exact ifp (nI_le c (by omega)) fin
    · refine ifn (nI_ge (by omega) (by omega)) (bnd L.gth (bnd (gI_ok L.kth) ?_))
      rw [h.2.1.1.1.2.2.2.2.2.1]
      exact ifp (nI_le (a := 999) (by omega) (by omega)) fin
  | e + 1, i, fuel + 1, σ, y, h, L, hw, hE, hf => by
    have b8 := h.2.2.1.1.2.2.2.1
    obtain ⟨y1, k1, c1, x1⟩ := c_rnd h (by omega)
    have L1 := L.sx x1
    have r60 : ∀ k, hI y1 (B + 64) k = hI y (B + 64) k := fun k => x1.2.2.2 _ (by rintro (⟨q1, q2⟩ | ⟨j, q⟩) <;> omega) k
    have pre : ∀ r, (if nI held ≤ nI (2 * i) then some ((1 : Int32) + nI (2 * i), y1) else (gR y1 B 6 8).bind fun a5 => (aI y1 a5 10 (nI (2 * i))).bind fun x6 => if x6 = nI (rnd σ (tK σ)).1 then (if nI held ≤ nI (2 * i) + 1 then some ((1 : Int32) + (nI (2 * i) + 1), y1) else (gR y1 B 6 8).bind fun a7 => (aI y1 a7 10 (nI (2 * i) + 1)).bind fun x8 => (gR y1 B 6 2).bind fun a9 => (cV y1 a9 5 (f_X5_knownTogether y1 a9)).bind fun p10 => if x8 = p10.1 then jL f_X6_check_b49 (fun _ _ _ _ _ _ => none) fuel B (nI N) (nI held) ((nI (2 * i) + 1) + 1) (nI i + 1) p10.2 else some ((1 : Int32) + (nI (2 * i) + 1), p10.2)) else some ((1 : Int32) + nI (2 * i), y1)) = r → jL f_X6_check_b49 (fun _ _ _ _ _ _ => none) (fuel + 1) B (nI N) (nI held) (nI (2 * i)) (nI i) y = r := by
      intro r hr
      show f_X6_check_b49 (jL f_X6_check_b49 (fun _ _ _ _ _ _ => none) fuel) B (nI N) (nI held) (nI (2 * i)) (nI i) y = r
      unfold f_X6_check_b49
      refine ifn (nI_ge (by omega) (by omega)) (bnd L.gth (bnd (gI_ok L.kth) ?_))
      rw [h.2.1.1.1.2.2.2.2.2.1]
      exact ifn (nI_ge (b := 999) (by omega) (by omega)) (bnd L.gth (bnd ((cV_ok L.kth).trans k1) hr))
    show ∃ y', _ = some ((if held ≤ 2 * i then nI (1 + 2 * i) else if ¬ w (2 * i) = nI (rnd σ (tK σ)).1 then nI (1 + 2 * i) else if held ≤ 2 * i + 1 then nI (1 + (2 * i + 1)) else if ¬ w (2 * i + 1) = nI (kto (rndT σ) (tP (rndT σ))) then nI (1 + (2 * i + 1)) else ckv w held e (2 * i + 2) (rndT σ)), y') ∧ _
    by_cases d1 : held ≤ 2 * i
    · refine ⟨y1, pre _ ?_, x1⟩
      rw [if_pos d1, one_add]
      exact ifp (nI_le d1 (by omega)) rfl
    rw [if_neg d1]
    have n1 : ¬ nI held ≤ nI (2 * i) := nI_ge (by omega) (by omega)
    have w1 : hI y1 (B + 64) (2 * i) = w (2 * i) := (r60 _).trans (hw _ (by omega))
    by_cases d2 : ¬ w (2 * i) = nI (rnd σ (tK σ)).1
    · refine ⟨y1, pre _ (ifn n1 (bnd L1.g64 (bnd (aI_ok (2 * i) L1.k64 rfl (by omega) (by decide)) ?_))), x1⟩
      rw [w1, if_pos d2, if_neg d2, one_add]
    rw [if_neg d2]
    replace d2 := Classical.not_not.mp d2
    by_cases d3 : held ≤ 2 * i + 1
    · refine ⟨y1, pre _ (ifn n1 (bnd L1.g64 (bnd (aI_ok (2 * i) L1.k64 rfl (by omega) (by decide)) ?_))), x1⟩
      rw [w1, if_pos d3, nI_1, one_add]
      exact ifp d2 (ifp (nI_le d3 (by omega)) rfl)
    rw [if_neg d3]
    have n3 : ¬ nI held ≤ nI (2 * i + 1) := nI_ge (by omega) (by omega)
    have w3 : hI y1 (B + 64) (2 * i + 1) = w (2 * i + 1) := (r60 _).trans (hw _ (by omega))
    have kt := c_kto c1.1 c1.2.1.1 c1.2.2.1
    by_cases d4 : ¬ w (2 * i + 1) = nI (kto (rndT σ) (tP (rndT σ)))
    · refine ⟨y1, pre _ (ifn n1 (bnd L1.g64 (bnd (aI_ok (2 * i) L1.k64 rfl (by omega) (by decide)) ?_))), x1⟩
      rw [w1, if_pos d4, nI_1, one_add]
      refine ifp d2 (ifn n3 (bnd L1.g64 (bnd (aI_ok (2 * i + 1) L1.k64 rfl (by omega) (by decide)) (bnd L1.gth (bnd ((cV_ok L1.kth).trans kt) ?_)))))
      rw [w3]
      exact ifn d4 rfl
    rw [if_neg d4]
    replace d4 := Classical.not_not.mp d4
    obtain ⟨y2, k2, x2⟩ := c_ckv hN hh e (i + 1) fuel (rndT σ) y1 c1 L1 (fun k hk => (r60 k).trans (hw k hk)) (by rw [rndT_h]; omega) (by omega)
    refine ⟨y2, pre _ (ifn n1 (bnd L1.g64 (bnd (aI_ok (2 * i) L1.k64 rfl (by omega) (by decide)) ?_))), x1.tr x2⟩
    rw [w1, nI_1]
    refine ifp d2 (ifn n3 (bnd L1.g64 (bnd (aI_ok (2 * i + 1) L1.k64 rfl (by omega) (by decide)) (bnd L1.gth (bnd ((cV_ok L1.kth).trans kt) ?_)))))
    rw [w3]
    refine ifp d4 ?_
    rw [nI_1, nI_1]
    exact k2
theorem nI_z (a : Nat) : nI a + 0 = nI a := nI_add a 0
theorem m_177 {B held D r : Nat} {z : hS} (L : Lay B z) (hh : held < 2 ^ 30) (hD : 2 * D < 2 ^ 30) (hr : r < 2 ^ 30) : ∃ z', f_X7_check_b177 (B + 66) (nI held) (nI (2 * D)) (nI r) z = some ((if r = held ∧ r = 2 * D then 0 else nI (1 + r)), z') ∧ Sx (fun x => x = B + 67) z z' ∧ ∀ k, k < 1476 → hI z' (B + 67) k = hI z (B + 69) k := by
  obtain ⟨z', k1, x1, c1⟩ := m_cpa L.k69 L.kn (by omega)
  refine ⟨z', ?_, x1, c1⟩
  unfold f_X7_check_b177
  refine bnd L.m2 (bnd L.gn (bnd k1 ?_))
  rw [one_add]
  by_cases c : r = held
  · refine ifp (by rw [c]) ?_
    by_cases c2 : r = 2 * D
    · have e : (if r = held ∧ r = 2 * D then (0 : Int32) else nI (1 + r)) = 0 := if_pos ⟨c, c2⟩
      rw [e]
      exact ifp (by rw [c2]) rfl
    · have e : (if r = held ∧ r = 2 * D then (0 : Int32) else nI (1 + r)) = nI (1 + r) := if_neg (fun q => c2 q.2)
      rw [e]
      exact ifn (fun q => c2 ((nI_eq (by omega) (by omega)).mp q)) rfl
  · have e : (if r = held ∧ r = 2 * D then (0 : Int32) else nI (1 + r)) = nI (1 + r) := if_neg (fun q => c q.1)
    rw [e]
    exact ifn (fun q => c ((nI_eq (by omega) (by omega)).mp q)) rfl
theorem m_ckv {B held D : Nat} {w : Nat → Int32} (hD : D ≤ 30) (hh : held ≤ 60) : ∀ e i fuel σ z, MT B z σ → (∀ k, k < held → hI z (B + 88) k = w k) → i + e = D → tH σ + e ≤ 999 → 2 * i ≤ held ∨ i = 0 → e + 1 < fuel → ∃ z', jL f_X7_check_b79 (fun _ _ _ _ _ _ => none) fuel (B + 66) (nI held) (nI (2 * D)) (nI (2 * i)) (nI i) z = some (ckv w held e (2 * i) σ, z') ∧ Sx (MZ B) z z' ∧ ∀ k, k < 1476 → hI z' (B + 67) k = hI z (B + 69) k
  | 0, i, fuel + 1, σ, z, h, hw, hE, h9, hi, hf => by
    obtain ⟨z', k1, x1, c1⟩ := m_177 (held := held) (D := D) (r := 2 * i) h.1 (by omega) (by omega) (by omega)
    refine ⟨z', ?_, x1.q67, c1⟩
    show f_X7_check_b79 (jL f_X7_check_b79 (fun _ _ _ _ _ _ => none) fuel) (B + 66) (nI held) (nI (2 * D)) (nI (2 * i)) (nI i) z = some (if held ≤ 2 * i then 0 else nI (1 + 2 * i), z')
    unfold f_X7_check_b79
    have e2 : (2 : Int32) * nI i = nI (2 * i) := pk_mul 2 i
    rw [e2]
    refine ifp (nI_le (by omega) (by omega)) ?_
    rw [k1]
    by_cases c : held ≤ 2 * i
    · rw [if_pos c, if_pos ⟨by omega, by omega⟩]
    · rw [if_neg c, if_neg (by omega)]
  | e + 1, i, fuel + 1 + 1, σ, z, h, hw, hE, h9, hi, hf => by
    have b8 := h.2.2.1.2.2.2.1
    obtain ⟨z1, k1, c1, x1⟩ := m_rnd h (by omega)
    have L1 := c1.1
    have r60 : ∀ k, hI z1 (B + 88) k = hI z (B + 88) k := fun k => x1.2.2.2 _ (by unfold MZ; omega) k
    have r69 : ∀ k, hI z1 (B + 69) k = hI z (B + 69) k := fun k => x1.2.2.2 _ (by unfold MZ; omega) k
    have e2 : ∀ j : Nat, (2 : Int32) * nI j = nI (2 * j) := fun j => pk_mul 2 j
    have pre : ∀ r, (if nI held ≤ nI (2 * i) then f_X7_check_b127 (jL f_X7_check_b79 (fun _ _ _ _ _ _ => none) (fuel + 1)) (B + 66) (nI held) (nI (2 * D)) (nI i) (nI (2 * i)) 0 z1 else (gR z1 (B + 66) 7 32).bind fun a2 => (aI z1 a2 10 (nI (2 * i))).bind fun x3 => if x3 = nI (rnd σ (tK σ)).1 then f_X7_check_b127 (jL f_X7_check_b79 (fun _ _ _ _ _ _ => none) (fuel + 1)) (B + 66) (nI held) (nI (2 * D)) (nI i) (nI (2 * i)) 1 z1 else f_X7_check_b127 (jL f_X7_check_b79 (fun _ _ _ _ _ _ => none) (fuel + 1)) (B + 66) (nI held) (nI (2 * D)) (nI i) (nI (2 * i)) 0 z1) = r → jL f_X7_check_b79 (fun _ _ _ _ _ _ => none) (fuel + 1 + 1) (B + 66) (nI held) (nI (2 * D)) (nI (2 * i)) (nI i) z = r := by
      intro r hr
      show f_X7_check_b79 (jL f_X7_check_b79 (fun _ _ _ _ _ _ => none) (fuel + 1)) (B + 66) (nI held) (nI (2 * D)) (nI (2 * i)) (nI i) z = r
      unfold f_X7_check_b79 f_X7_check_b126
      rw [e2]
      exact ifn (nI_ge (by omega) (by omega)) (ifp rfl (bnd ((cV_ok h.1.km).trans k1) hr))
    have stop : ∀ r, (r = 2 * i ∨ r = 2 * i + 1) → ∃ z', jL f_X7_check_b79 (fun _ _ _ _ _ _ => none) (fuel + 1) (B + 66) (nI held) (nI (2 * D)) (nI r) (nI (i + 1)) z1 = some (nI (1 + r), z') ∧ Sx (MZ B) z z' ∧ ∀ k, k < 1476 → hI z' (B + 67) k = hI z (B + 69) k := by
      intro r hr
      obtain ⟨z', q1, q2, q3⟩ := m_177 (held := held) (D := D) (r := r) L1 (by omega) (by omega) (by omega)
      rw [if_neg (by omega)] at q1
      refine ⟨z', ?_, x1.tr q2.q67, fun k hk => (q3 k hk).trans (r69 k)⟩
      show f_X7_check_b79 (jL f_X7_check_b79 (fun _ _ _ _ _ _ => none) fuel) (B + 66) (nI held) (nI (2 * D)) (nI r) (nI (i + 1)) z1 = _
      unfold f_X7_check_b79
      rw [e2]
      by_cases c : 2 * D ≤ 2 * (i + 1)
      · exact ifp (nI_le c (by omega)) q1
      · exact ifn (nI_ge (by omega) (by omega)) (ifn (fun q => by have := (nI_eq (by omega) (by omega)).mp q; omega) q1)
    have z0 : ∀ z' v, jL f_X7_check_b79 (fun _ _ _ _ _ _ => none) (fuel + 1) (B + 66) (nI held) (nI (2 * D)) (nI (2 * i)) (nI (i + 1)) z1 = some (v, z') → f_X7_check_b127 (jL f_X7_check_b79 (fun _ _ _ _ _ _ => none) (fuel + 1)) (B + 66) (nI held) (nI (2 * D)) (nI i) (nI (2 * i)) 0 z1 = some (v, z') := by
      intro z' v hv
      unfold f_X7_check_b127 f_X7_check_b167 f_X7_check_b168 nmv
      dsimp only
      rw [nI_z, nI_z, e2, nI_1, nI_1]
      exact ifn (fun q => by have := (nI_eq (by omega) (by omega)).mp q; omega) hv
    show ∃ z', _ = some ((if held ≤ 2 * i then nI (1 + 2 * i) else if ¬ w (2 * i) = nI (rnd σ (tK σ)).1 then nI (1 + 2 * i) else if held ≤ 2 * i + 1 then nI (1 + (2 * i + 1)) else if ¬ w (2 * i + 1) = nI (kto (rndT σ) (tP (rndT σ))) then nI (1 + (2 * i + 1)) else ckv w held e (2 * i + 2) (rndT σ)), z') ∧ _
    by_cases d1 : held ≤ 2 * i
    · obtain ⟨z', q1, q2, q3⟩ := stop (2 * i) (Or.inl rfl)
      refine ⟨z', pre _ ?_, q2, q3⟩
      rw [if_pos d1]
      exact ifp (nI_le d1 (by omega)) (z0 _ _ q1)
    rw [if_neg d1]
    have n1 : ¬ nI held ≤ nI (2 * i) := nI_ge (by omega) (by omega)
    have w1 : hI z1 (B + 88) (2 * i) = w (2 * i) := (r60 _).trans (hw _ (by omega))
    by_cases d2 : ¬ w (2 * i) = nI (rnd σ (tK σ)).1
    · obtain ⟨z', q1, q2, q3⟩ := stop (2 * i) (Or.inl rfl)
      refine ⟨z', pre _ (ifn n1 (bnd L1.m32 (bnd (aI_ok (2 * i) L1.k88 rfl (by omega) (by decide)) ?_))), q2, q3⟩
      rw [w1, if_pos d2]
      exact ifn d2 (z0 _ _ q1)
    rw [if_neg d2]
    replace d2 := Classical.not_not.mp d2
    have z1' : ∀ r, (if nI held ≤ nI (2 * i + 1) then jL f_X7_check_b79 (fun _ _ _ _ _ _ => none) (fuel + 1) (B + 66) (nI held) (nI (2 * D)) (nI (2 * i + 1)) (nI (i + 1)) z1 else (gR z1 (B + 66) 7 32).bind fun a2 => (aI z1 a2 10 (nI (2 * i + 1))).bind fun x3 => (cV z1 (B + 66) 7 (f_X7_knownAll z1 (B + 66))).bind fun p4 => if x3 = p4.1 then jL f_X7_check_b79 (fun _ _ _ _ _ _ => none) (fuel + 1) (B + 66) (nI held) (nI (2 * D)) (nI (2 * i + 1 + 1)) (nI (i + 1)) p4.2 else jL f_X7_check_b79 (fun _ _ _ _ _ _ => none) (fuel + 1) (B + 66) (nI held) (nI (2 * D)) (nI (2 * i + 1)) (nI (i + 1)) p4.2) = r → f_X7_check_b127 (jL f_X7_check_b79 (fun _ _ _ _ _ _ => none) (fuel + 1)) (B + 66) (nI held) (nI (2 * D)) (nI i) (nI (2 * i)) 1 z1 = r := by
      intro r hr
      unfold f_X7_check_b127 f_X7_check_b167 f_X7_check_b168 nmv
      dsimp only
      rw [e2, nI_1 (2 * i), nI_1 i, nI_z, nI_1]
      exact ifp rfl hr
    have kt := m_kto c1.1 c1.2.1 c1.2.2
    by_cases d3 : held ≤ 2 * i + 1
    · obtain ⟨z', q1, q2, q3⟩ := stop (2 * i + 1) (Or.inr rfl)
      refine ⟨z', pre _ (ifn n1 (bnd L1.m32 (bnd (aI_ok (2 * i) L1.k88 rfl (by omega) (by decide)) ?_))), q2, q3⟩
      rw [w1, if_pos d3]
      exact ifp d2 (z1' _ (ifp (nI_le d3 (by omega)) q1))
    rw [if_neg d3]
    have n3 : ¬ nI held ≤ nI (2 * i + 1) := nI_ge (by omega) (by omega)
    have w3 : hI z1 (B + 88) (2 * i + 1) = w (2 * i + 1) := (r60 _).trans (hw _ (by omega))
    by_cases d4 : ¬ w (2 * i + 1) = nI (kto (rndT σ) (tP (rndT σ)))
    · obtain ⟨z', q1, q2, q3⟩ := stop (2 * i + 1) (Or.inr rfl)
      refine ⟨z', pre _ (ifn n1 (bnd L1.m32 (bnd (aI_ok (2 * i) L1.k88 rfl (by omega) (by decide)) ?_))), q2, q3⟩
      rw [w1, if_pos d4]
      refine ifp d2 (z1' _ (ifn n3 (bnd L1.m32 (bnd (aI_ok (2 * i + 1) L1.k88 rfl (by omega) (by decide)) (bnd ((cV_ok L1.km).trans kt) ?_)))))
      rw [w3]
      exact ifn d4 q1
    rw [if_neg d4]
    replace d4 := Classical.not_not.mp d4
    obtain ⟨z2, k2, x2, c2⟩ := m_ckv hD hh e (i + 1) (fuel + 1) (rndT σ) z1 c1 (fun k hk => (r60 k).trans (hw k hk)) (by omega) (by rw [rndT_h]; omega) (Or.inl (by omega)) (by omega)
    refine ⟨z2, pre _ (ifn n1 (bnd L1.m32 (bnd (aI_ok (2 * i) L1.k88 rfl (by omega) (by decide)) ?_))), x1.tr x2, fun k hk => (c2 k hk).trans (r69 k)⟩
    rw [w1]
    refine ifp d2 (z1' _ (ifn n3 (bnd L1.m32 (bnd (aI_ok (2 * i + 1) L1.k88 rfl (by omega) (by decide)) (bnd ((cV_ok L1.km).trans kt) ?_)))))
    rw [w3]
    exact ifp d4 k2
