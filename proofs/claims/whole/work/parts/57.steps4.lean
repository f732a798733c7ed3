theorem TwOk.r1 {τ : Tw} (h : TwOk τ) (j w : Nat) (hw : w ≤ 99) : TwOk (upT τ 1 j w) := by
  obtain ⟨q, w1, w2, w3, w4, w5⟩ := h
  refine ⟨q, fun i hi => ⟨?_, (w1 i hi).2⟩, fun p hp => ⟨(w2 p hp).1, (w2 p hp).2.1, ?_⟩, w3, w4, w5⟩
  · show (if 1 = 1 ∧ i = j then w else τ.1 1 i) ≤ 99
    split
    · exact hw
    · exact (w1 i hi).1
  · have e : rlP (upT τ 1 j w).1 (tR τ 3 p) = rlP τ.1 (tR τ 3 p) := by
      unfold rlP
      rw [up_ne (by omega), rlN_congr (fun q i hq => up_ne (by omega))]
    exact e.trans (w2 p hp).2.2
theorem TwOk.r2 {τ : Tw} (h : TwOk τ) (j w : Nat) (hw : w ≤ 999) : TwOk (upT τ 2 j w) := by
  obtain ⟨q, w1, w2, w3, w4, w5⟩ := h
  refine ⟨q, fun i hi => ⟨(w1 i hi).1, ?_⟩, fun p hp => ⟨(w2 p hp).1, (w2 p hp).2.1, ?_⟩, w3, w4, w5⟩
  · show (if 2 = 2 ∧ i = j then w else τ.1 2 i) ≤ 999
    split
    · exact hw
    · exact (w1 i hi).2
  · have e : rlP (upT τ 2 j w).1 (tR τ 3 p) = rlP τ.1 (tR τ 3 p) := by
      unfold rlP
      rw [up_ne (by omega), rlN_congr (fun q i hq => up_ne (by omega))]
    exact e.trans (w2 p hp).2.2
theorem TwOk.r8 {τ : Tw} (h : TwOk τ) (j w : Nat) (hw : w < 6) : TwOk (upT τ 8 j w) := by
  obtain ⟨q, w1, w2, w3, w4, w5⟩ := h
  refine ⟨q, w1, fun p hp => ⟨(w2 p hp).1, (w2 p hp).2.1, ?_⟩, w3, fun t ht => ⟨?_, (w4 t ht).2⟩, w5⟩
  · have e : rlP (upT τ 8 j w).1 (tR τ 3 p) = rlP τ.1 (tR τ 3 p) := by
      unfold rlP
      rw [up_ne (by omega), rlN_congr (fun q i hq => up_ne (by omega))]
    exact e.trans (w2 p hp).2.2
  · show (if 8 = 8 ∧ t = j then w else τ.1 8 t) < 6
    split
    · exact hw
    · exact (w4 t ht).1
/-- rows of the class's town -/
theorem Lay.gw {B : Nat} {s : hS} (L : Lay B s) : gR s (B + 1) 5 8 = some (B + 2) := gR_ok L.kt (L.r 1 8 2 (by decide))
theorem Lay.gl {B : Nat} {s : hS} (L : Lay B s) : gR s (B + 1) 5 9 = some (B + 3) := gR_ok L.kt (L.r 1 9 3 (by decide))
theorem Lay.gk {B : Nat} {s : hS} (L : Lay B s) : gR s (B + 1) 5 14 = some (B + 8) := gR_ok L.kt (L.r 1 14 8 (by decide))
theorem Lay.gp {B : Nat} {s : hS} (L : Lay B s) : gR s (B + 1) 5 15 = some (B + 9) := gR_ok L.kt (L.r 1 15 9 (by decide))
theorem Lay.gq {B : Nat} {s : hS} (L : Lay B s) : gR s (B + 1) 5 16 = some (B + 10) := gR_ok L.kt (L.r 1 16 10 (by decide))
theorem Lay.k2 {B : Nat} {s : hS} (L : Lay B s) : hK s (B + 2) = (10, 16) := L.k 2 10 16 rfl
theorem Lay.k3 {B : Nat} {s : hS} (L : Lay B s) : hK s (B + 3) = (10, 16) := L.k 3 10 16 rfl
theorem Lay.k8 {B : Nat} {s : hS} (L : Lay B s) : hK s (B + 8) = (10, 8) := L.k 8 10 8 rfl
theorem Lay.k9 {B : Nat} {s : hS} (L : Lay B s) : hK s (B + 9) = (10, 8) := L.k 9 10 8 rfl
theorem Lay.k10 {B : Nat} {s : hS} (L : Lay B s) : hK s (B + 10) = (10, 8) := L.k 10 10 8 rfl
theorem stp_turns (B : Nat) (a0 a1 : Int32) : StpC B (fun s => f_X6_turns s B a0 a1) (fun s => f_X7_turns s (B + 66) a0 a1) := by
  refine stp_set fun s nt τ h => ?_
  have L := h.1
  have hN := h.2.2.2.1.1
  have hM := h.2.2.2.2.1
  have hok := h.2.2.1
  have h8 := hok.1.2.2.2.1
  have bad : (a0 < 0 ∨ nI (tK τ) ≤ a0) → ∃ v s1 s2, f_X6_turns s B a0 a1 = some (v, s1) ∧ f_X7_turns s1 (B + 66) a0 a1 = some (v, s2) ∧ Lay B s1 ∧ Inv B s2 ∧ s2.1 = s.1 ∧ s2.2.1 = s.2.1 := by
    intro hb
    refine ⟨-1000000001, s, s, ?_, ?_, L, h.inv, rfl, rfl⟩
    · unfold f_X6_turns
      exact bnd ((cV_ok L.kx).trans (noT_out L hN hb)) (ifn one_ne rfl)
    · unfold f_X7_turns
      exact bnd ((cV_ok L.km).trans (isT_out L hM hok hb)) (ifp rfl rfl)
  rcases pk_ix a0 (n := tK τ) (by omega) with hb | hb | ⟨j, hj, rfl⟩
  · exact bad (Or.inl hb)
  · exact bad (Or.inr hb)
  rcases rng a1 5 (by decide) with hb | ⟨w, hw, rfl⟩
  · refine ⟨-1000000001, s, s, ?_, ?_, L, h.inv, rfl, rfl⟩
    · show f_X6_turns s B (nI j) a1 = _
      unfold f_X6_turns
      refine bnd ((cV_ok L.kx).trans (noT_in L hN hok hj)) (ifp rfl (bnd (noK_out (hb.imp id (fun h => ?_))) (ifn one_ne rfl)))
      rcases pk_ix a1 (n := 6) (by decide) with g | g | ⟨q, g1, g2⟩
      · exact absurd (fa_tr h (Int32.le_of_lt g)) (by decide)
      · exact g
      · subst g2
        exact absurd h (nI_nlt (a := 5) (b := q) (by omega) (by decide))
    · show f_X7_turns s (B + 66) (nI j) a1 = _
      unfold f_X7_turns
      exact bnd ((cV_ok L.km).trans (isT_in L hM hok hj)) (ifn one_ne (bnd (in_no s hb) (ifp rfl rfl)))
  · refine ⟨nI (tR τ 8 j), uI s (B + 8) j (nI w), uI (uI s (B + 8) j (nI w)) (B + 67) (80 + 3 * j) (nI w), ?_, ?_, L.u _ _ _, ?_, rfl, rfl⟩
    · show f_X6_turns s B (nI j) (nI w) = _
      unfold f_X6_turns
      refine bnd ((cV_ok L.kx).trans (noT_in L hN hok hj)) (ifp rfl (bnd (noK_in (by omega)) (ifp rfl ?_)))
      refine bnd L.gt (bnd L.gk (bnd (aI_ok j L.k8 rfl (by omega) (by decide)) (bnd L.gt (bnd L.gk (bnd (sI_ok j L.k8 rfl (by omega) (by decide)) ?_)))))
      rw [(hN.2.2.2.2 j (by omega)).1]
    · show f_X7_turns (uI s (B + 8) j (nI w)) (B + 66) (nI j) (nI w) = _
      have L1 : Lay B (uI s (B + 8) j (nI w)) := L.u _ _ _
      have hM1 : TwM (hI (uI s (B + 8) j (nI w)) (B + 67)) τ := by
        rw [show hI (uI s (B + 8) j (nI w)) (B + 67) = hI s (B + 67) from funext fun k => uI_ne (by omega)]
        exact hM
      unfold f_X7_turns
      refine bnd ((cV_ok L1.km).trans (isT_in L1 hM1 hok hj)) (ifn one_ne (bnd (in_yes _ (n := 5) hw (by decide) rfl rfl) (ifn one_ne ?_)))
      refine bnd ((cV_ok L1.km).trans (X7_bec L1 (80 + 3 * j) (ixm 80 3 j) (by omega))) ?_
      rw [(hM1.2.2.2.2.1 j (by omega)).1]
    · exact (h.put 8 j w (by unfold wok; omega) (hok.r8 j w (by omega)) rfl).inv
def okk (k c : Nat) : Bool := c == 0 || k == c || (c == 1 && k == 3) || (c == 2 && k == 4)
theorem kind6 (s : hS) (k c : Nat) (hk : k < 6) (hc : c < 6) : f_X6_isOfKind s (nI k) (nI c) = some (if okk k c then 1 else 0, s) := by
  match k, c, hk, hc with
  | 0, 0, _, _ => rfl
  | 0, 1, _, _ => rfl
  | 0, 2, _, _ => rfl
  | 0, 3, _, _ => rfl
  | 0, 4, _, _ => rfl
  | 0, 5, _, _ => rfl
  | 1, 0, _, _ => rfl
  | 1, 1, _, _ => rfl
  | 1, 2, _, _ => rfl
  | 1, 3, _, _ => rfl
  | 1, 4, _, _ => rfl
  | 1, 5, _, _ => rfl
  | 2, 0, _, _ => rfl
  | 2, 1, _, _ => rfl
  | 2, 2, _, _ => rfl
  | 2, 3, _, _ => rfl
  | 2, 4, _, _ => rfl
  | 2, 5, _, _ => rfl
  | 3, 0, _, _ => rfl
  | 3, 1, _, _ => rfl
  | 3, 2, _, _ => rfl
  | 3, 3, _, _ => rfl
  | 3, 4, _, _ => rfl
  | 3, 5, _, _ => rfl
  | 4, 0, _, _ => rfl
  | 4, 1, _, _ => rfl
  | 4, 2, _, _ => rfl
  | 4, 3, _, _ => rfl
  | 4, 4, _, _ => rfl
  | 4, 5, _, _ => rfl
  | 5, 0, _, _ => rfl
  | 5, 1, _, _ => rfl
  | 5, 2, _, _ => rfl
  | 5, 3, _, _ => rfl
  | 5, 4, _, _ => rfl
  | 5, 5, _, _ => rfl
  | k + 6, _, h, _ => omega
  | _, c + 6, _, h => omega
theorem kind7 (s : hS) (k c : Nat) (hk : k < 6) (hc : c < 6) : f_X7_isUnder s (nI k) (nI c) = some (if okk k c then 1 else 0, s) := by
  match k, c, hk, hc with
  | 0, 0, _, _ => rfl
  | 0, 1, _, _ => rfl
  | 0, 2, _, _ => rfl
  | 0, 3, _, _ => rfl
  | 0, 4, _, _ => rfl
  | 0, 5, _, _ => rfl
  | 1, 0, _, _ => rfl
  | 1, 1, _, _ => rfl
  | 1, 2, _, _ => rfl
  | 1, 3, _, _ => rfl
  | 1, 4, _, _ => rfl
  | 1, 5, _, _ => rfl
  | 2, 0, _, _ => rfl
  | 2, 1, _, _ => rfl
  | 2, 2, _, _ => rfl
  | 2, 3, _, _ => rfl
  | 2, 4, _, _ => rfl
  | 2, 5, _, _ => rfl
  | 3, 0, _, _ => rfl
  | 3, 1, _, _ => rfl
  | 3, 2, _, _ => rfl
  | 3, 3, _, _ => rfl
  | 3, 4, _, _ => rfl
  | 3, 5, _, _ => rfl
  | 4, 0, _, _ => rfl
  | 4, 1, _, _ => rfl
  | 4, 2, _, _ => rfl
  | 4, 3, _, _ => rfl
  | 4, 4, _, _ => rfl
  | 4, 5, _, _ => rfl
  | 5, 0, _, _ => rfl
  | 5, 1, _, _ => rfl
  | 5, 2, _, _ => rfl
  | 5, 3, _, _ => rfl
  | 5, 4, _, _ => rfl
  | 5, 5, _, _ => rfl
  | k + 6, _, h, _ => omega
  | _, c + 6, _, h => omega
