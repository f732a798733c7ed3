theorem up_ne {τ : Tw} {r k w a i : Nat} (h : ¬ (a = r ∧ i = k)) : (upT τ r k w).1 a i = τ.1 a i := if_neg h
theorem up_eq (τ : Tw) (r k w : Nat) : (upT τ r k w).1 r k = w := if_pos ⟨rfl, rfl⟩
theorem rlN_congr {ρ ρ' : Nat → Nat → Nat} (h : ∀ q i, (q = 5 ∨ q = 6 ∨ q = 7) → ρ' q i = ρ q i) (set : Nat) : ∀ n, rlN ρ' n set = rlN ρ n set
  | 0 => rfl
  | n + 1 => by
    show rl1 ρ' n (rlN ρ' n set) = rl1 ρ n (rlN ρ n set)
    rw [rlN_congr h set n]
    unfold rl1
    rw [h 5 n (by omega), h 6 n (by omega), h 7 n (by omega)]
theorem rlP_up {τ : Tw} {r k w : Nat} (hr : wok r k) (set : Nat) : rlP (upT τ r k w).1 set = rlP τ.1 set := by
  unfold rlP
  rw [up_ne (by unfold wok at hr; omega), rlN_congr (fun q i hq => up_ne (by unfold wok at hr; omega)) set]
/-- the answers of the class's own tests of a number -/
theorem noF_in {B : Nat} {s : hS} {τ : Tw} (L : Lay B s) (hN : TwN s (B + 1) τ) (hok : TwOk τ) {j : Nat} (hj : j < tF τ) : f_X6_isNoFact s B (nI j) = some (0, s) := by
  have hb := hok.1.1
  unfold f_X6_isNoFact
  refine ifn (nI_pos (by omega)) (bnd L.gt (bnd (gI_ok L.kt) ?_))
  rw [hN.1.1]
  exact ifp (nI_lt hj (by omega)) rfl
theorem noF_out {B : Nat} {s : hS} {τ : Tw} (L : Lay B s) (hN : TwN s (B + 1) τ) {i : Int32} (hi : i < 0 ∨ nI (tF τ) ≤ i) : f_X6_isNoFact s B i = some (1, s) := by
  unfold f_X6_isNoFact f_X6_isNoFact_b15
  by_cases h0 : i < 0
  · exact ifp h0 rfl
  · refine ifn h0 (bnd L.gt (bnd (gI_ok L.kt) ?_))
    rw [hN.1.1]
    exact ifn (Int32.not_lt.mpr (hi.resolve_left h0)) rfl
theorem noP_in {B : Nat} {s : hS} {τ : Tw} (L : Lay B s) (hN : TwN s (B + 1) τ) (hok : TwOk τ) {j : Nat} (hj : j < tP τ) : f_X6_isNobody s B (nI j) = some (0, s) := by
  have hb := hok.1.2.1
  unfold f_X6_isNobody
  refine ifn (nI_pos (by omega)) (bnd L.gt (bnd (gI_ok L.kt) ?_))
  rw [hN.1.2.1]
  exact ifp (nI_lt hj (by omega)) rfl
theorem noP_out {B : Nat} {s : hS} {τ : Tw} (L : Lay B s) (hN : TwN s (B + 1) τ) {i : Int32} (hi : i < 0 ∨ nI (tP τ) ≤ i) : f_X6_isNobody s B i = some (1, s) := by
  unfold f_X6_isNobody f_X6_isNobody_b15
  by_cases h0 : i < 0
  · exact ifp h0 rfl
  · refine ifn h0 (bnd L.gt (bnd (gI_ok L.kt) ?_))
    rw [hN.1.2.1]
    exact ifn (Int32.not_lt.mpr (hi.resolve_left h0)) rfl
theorem noT_in {B : Nat} {s : hS} {τ : Tw} (L : Lay B s) (hN : TwN s (B + 1) τ) (hok : TwOk τ) {j : Nat} (hj : j < tK τ) : f_X6_isNoTalk s B (nI j) = some (0, s) := by
  have hb := hok.1.2.2.2.1
  unfold f_X6_isNoTalk
  refine ifn (nI_pos (by omega)) (bnd L.gt (bnd (gI_ok L.kt) ?_))
  rw [hN.1.2.2.2.1]
  exact ifp (nI_lt hj (by omega)) rfl
theorem noT_out {B : Nat} {s : hS} {τ : Tw} (L : Lay B s) (hN : TwN s (B + 1) τ) {i : Int32} (hi : i < 0 ∨ nI (tK τ) ≤ i) : f_X6_isNoTalk s B i = some (1, s) := by
  unfold f_X6_isNoTalk f_X6_isNoTalk_b15
  by_cases h0 : i < 0
  · exact ifp h0 rfl
  · refine ifn h0 (bnd L.gt (bnd (gI_ok L.kt) ?_))
    rw [hN.1.2.2.2.1]
    exact ifn (Int32.not_lt.mpr (hi.resolve_left h0)) rfl
theorem noK_in {s : hS} {j : Nat} (hj : j < 6) : f_X6_isNoKind s (nI j) = some (0, s) := by
  unfold f_X6_isNoKind
  exact ifn (nI_pos (by omega)) (ifp (nI_lt (a := j) (b := 6) hj (by decide)) rfl)
theorem noK_out {s : hS} {i : Int32} (hi : i < 0 ∨ nI 6 ≤ i) : f_X6_isNoKind s i = some (1, s) := by
  unfold f_X6_isNoKind f_X6_isNoKind_b10
  by_cases h0 : i < 0
  · exact ifp h0 rfl
  · exact ifn h0 (ifn (Int32.not_lt.mpr (hi.resolve_left h0)) rfl)
theorem one_ne : ¬ (1 : Int32) = 0 := by decide
theorem out_in (s : hS) {j n : Nat} (hj : j ≤ n) (hn : n < 2 ^ 31) {i b : Int32} (hi : i = nI j) (hb : b = nI n) : f_X6_isOutside s i 0 b = some (0, s) := by
  subst hi; subst hb
  rw [X6_out, if_neg]
  rintro (h | h)
  · exact nI_pos (by omega) h
  · exact nI_nlt hj hn h
theorem out_no (s : hS) {i b : Int32} (h : i < 0 ∨ b < i) : f_X6_isOutside s i 0 b = some (1, s) := by rw [X6_out, if_pos h]
/-- the reference's -/
theorem in_yes (s : hS) {j n : Nat} (hj : j ≤ n) (hn : n < 2 ^ 31) {i b : Int32} (hi : i = nI j) (hb : b = nI n) : f_X7_in s i 0 b = some (1, s) := by
  subst hi; subst hb
  rw [X7_in, if_neg]
  rintro (h | h)
  · exact nI_pos (by omega) h
  · exact nI_nlt hj hn h
theorem in_no (s : hS) {i b : Int32} (h : i < 0 ∨ b < i) : f_X7_in s i 0 b = some (0, s) := by rw [X7_in, if_pos h]
theorem nIm1_lt {n : Nat} {i : Int32} (hn : n < 2 ^ 31) (h0 : ¬ i < 0) (h : nI n ≤ i) : nI n - 1 < i := by
  cases n with
  | zero =>
    have h1 : nI 0 - 1 < 0 := by decide
    exact fa_tr h1 (Int32.not_lt.mp h0)
  | succ k =>
    rw [nI_pred]
    exact fa_tr (nI_lt (Nat.lt_succ_self k) hn) h
theorem isF_in {B : Nat} {s : hS} {τ : Tw} (L : Lay B s) (hM : TwM (hI s (B + 67)) τ) (hok : TwOk τ) {j : Nat} (hj : j < tF τ) : f_X7_isFact s (B + 66) (nI j) = some (1, s) := by
  have hb := hok.1.1
  unfold f_X7_isFact
  refine bnd L.gn (bnd (L.an 1 rfl (by decide)) ?_)
  rw [hM.1.1]
  exact bnd (in_yes s (n := tF τ - 1) (by omega) (by omega) rfl (pk_sub (b := 1) (by omega))) (ifp (Or.inr rfl) rfl)
theorem isF_out {B : Nat} {s : hS} {τ : Tw} (L : Lay B s) (hM : TwM (hI s (B + 67)) τ) (hok : TwOk τ) {i : Int32} (hi : i < 0 ∨ nI (tF τ) ≤ i) : f_X7_isFact s (B + 66) i = some (0, s) := by
  have hb := hok.1.1
  unfold f_X7_isFact
  refine bnd L.gn (bnd (L.an 1 rfl (by decide)) ?_)
  rw [hM.1.1]
  refine bnd (in_no s ?_) (ifp (Or.inl rfl) rfl)
  by_cases h0 : i < 0
  · exact Or.inl h0
  · exact Or.inr (nIm1_lt (by omega) h0 (hi.resolve_left h0))
theorem isP_in {B : Nat} {s : hS} {τ : Tw} (L : Lay B s) (hM : TwM (hI s (B + 67)) τ) (hok : TwOk τ) {j : Nat} (hj : j < tP τ) : f_X7_isPerson s (B + 66) (nI j) = some (1, s) := by
  have hb := hok.1.2.1
  unfold f_X7_isPerson
  refine bnd L.gn (bnd (L.an 2 rfl (by decide)) ?_)
  rw [hM.1.2.1]
  exact bnd (in_yes s (n := tP τ - 1) (by omega) (by omega) rfl (pk_sub (b := 1) (by omega))) (ifp (Or.inr rfl) rfl)
theorem isP_out {B : Nat} {s : hS} {τ : Tw} (L : Lay B s) (hM : TwM (hI s (B + 67)) τ) (hok : TwOk τ) {i : Int32} (hi : i < 0 ∨ nI (tP τ) ≤ i) : f_X7_isPerson s (B + 66) i = some (0, s) := by
  have hb := hok.1.2.1
  unfold f_X7_isPerson
  refine bnd L.gn (bnd (L.an 2 rfl (by decide)) ?_)
  rw [hM.1.2.1]
  refine bnd (in_no s ?_) (ifp (Or.inl rfl) rfl)
  by_cases h0 : i < 0
  · exact Or.inl h0
  · exact Or.inr (nIm1_lt (by omega) h0 (hi.resolve_left h0))
theorem isT_in {B : Nat} {s : hS} {τ : Tw} (L : Lay B s) (hM : TwM (hI s (B + 67)) τ) (hok : TwOk τ) {j : Nat} (hj : j < tK τ) : f_X7_isTalk s (B + 66) (nI j) = some (1, s) := by
  have hb := hok.1.2.2.2.1
  unfold f_X7_isTalk
  refine bnd L.gn (bnd (L.an 3 rfl (by decide)) ?_)
  rw [hM.1.2.2.2.1]
  exact bnd (in_yes s (n := tK τ - 1) (by omega) (by omega) rfl (pk_sub (b := 1) (by omega))) (ifp (Or.inr rfl) rfl)
theorem isT_out {B : Nat} {s : hS} {τ : Tw} (L : Lay B s) (hM : TwM (hI s (B + 67)) τ) (hok : TwOk τ) {i : Int32} (hi : i < 0 ∨ nI (tK τ) ≤ i) : f_X7_isTalk s (B + 66) i = some (0, s) := by
  have hb := hok.1.2.2.2.1
  unfold f_X7_isTalk
  refine bnd L.gn (bnd (L.an 3 rfl (by decide)) ?_)
  rw [hM.1.2.2.2.1]
  refine bnd (in_no s ?_) (ifp (Or.inl rfl) rfl)
  by_cases h0 : i < 0
  · exact Or.inl h0
  · exact Or.inr (nIm1_lt (by omega) h0 (hi.resolve_left h0))
/-- one number of the town is put on both sides -/
theorem InvT.put {B nt : Nat} {s : hS} {τ : Tw} (h : InvT B s nt τ) (r k w : Nat) (hr : wok r k) (hok : TwOk (upT τ r k w)) {v : Int32} (hv : v = nI w) : InvT B (uI (uI s (B + 1 + ci2 r) k v) (B + 67) (mi r k) v) nt (upT τ r k w) := by
  subst hv
  have hc : 1 + ci2 r ∈ freeL ∧ ci2 r < 10 := by
    unfold wok at hr
    have h8 : ∀ r, r < 11 → (r = 5 ∨ r = 6 ∨ r = 7) ∨ (1 + ci2 r ∈ freeL ∧ ci2 r < 10) := by decide
    exact (h8 r (by omega)).resolve_left (by omega)
  have hx : Sx (FrP B) s (uI (uI s (B + 1 + ci2 r) k (nI w)) (B + 67) (mi r k) (nI w)) := (Sx.u s _ k _ (by rw [Nat.add_assoc]; exact FrP.i hc.1)).tr (Sx.u _ _ _ _ (FrP.i (by decide)))
  refine h.town hx ?_ rfl hok ?_ ?_
  · show (if 0 = r ∧ 4 = k then w else τ.1 0 4) = τ.1 0 4
    rw [if_neg (by unfold wok at hr; omega)]
  · exact TwN.keep (B := B) (h.2.2.2.1.1.w r k w hr) (fun q hq i => uI_ne (by omega))
  · refine h.2.2.2.2.1.w h.2.2.1.1.2.2.1 r k w hr (fun i => ?_)
    by_cases hi : i = mi r k
    · rw [hi, if_pos rfl, uI_eq]
    · rw [if_neg hi, uI_ne (by omega), uI_ne (by omega)]
theorem stp_clock (B : Nat) (a0 : Int32) : StpC B (fun s => f_X6_clock s B a0) (fun s => f_X7_clock s (B + 66) a0) := by
  rcases rng a0 999 (by decide) with hbad | ⟨j, hj, rfl⟩
  · refine stp_same fun s nt τ h => ⟨-1000000001, ?_, ?_⟩
    · show f_X6_clock s B a0 = _
      unfold f_X6_clock
      exact bnd (out_no s hbad) (ifn one_ne rfl)
    · show f_X7_clock s (B + 66) a0 = _
      unfold f_X7_clock
      exact bnd (in_no s hbad) (ifp rfl rfl)
  · refine stp_set fun s nt τ h => ?_
    have L := h.1
    have hN := h.2.2.2.1.1
    have hM := h.2.2.2.2.1
    refine ⟨nI (tH τ), uI s (B + 1) 5 (nI j), uI (uI s (B + 1) 5 (nI j)) (B + 67) 5 (nI j), ?_, ?_, L.u _ _ _, ?_, rfl, rfl⟩
    · show f_X6_clock s B (nI j) = _
      unfold f_X6_clock
      exact bnd (out_in s (n := 999) hj (by decide) rfl rfl) (ifp rfl (bnd L.gt (bnd (gI_ok L.kt) (bnd L.gt (bnd (pI_ok L.kt) (by rw [hN.1.2.2.2.2.2.1]))))))
    · show f_X7_clock (uI s (B + 1) 5 (nI j)) (B + 66) (nI j) = _
      unfold f_X7_clock
      refine bnd (in_yes _ (n := 999) hj (by decide) rfl rfl) (ifn one_ne (bnd ((cV_ok (L.u (B + 1) 5 (nI j)).km).trans (X7_bec (L.u _ _ _) 5 rfl (by decide))) ?_))
      rw [uI_ne (by omega), hM.1.2.2.2.2.2.1]
    · refine (h.put 0 5 j (by unfold wok; omega) ?_ rfl).inv
      obtain ⟨⟨q1, q2, q3, q4, q5, q6⟩, w1, w2, w3, w4, w5⟩ := h.2.2.1
      refine ⟨⟨q1, q2, q3, q4, q5, hj⟩, w1, fun p hp => ⟨(w2 p hp).1, (w2 p hp).2.1, ?_⟩, w3, w4, w5⟩
      rw [rlP_up (by unfold wok; omega)]
      exact (w2 p hp).2.2
