/-- a town's cells, wherever it lies -/
def TLy (s : hS) (T : Nat) : Prop := hK s T = (5, 18) ∧ (∀ i, i < 2 → hK s (T + 1 + i) = (10, 16)) ∧ (∀ i, i < 7 → hK s (T + 3 + i) = (10, 8)) ∧ hK s (T + 10) = (14, 14) ∧ ∀ i, i < 10 → hR s T (8 + i) = some (T + 1 + i)
theorem Lay.tly {B : Nat} {s : hS} (L : Lay B s) (o : Nat) (ho : o = 1 ∨ o = 12 ∨ o = 23) : TLy s (B + o) := by
  have c0 : layK[o]? = some (5, 18) := by rcases ho with rfl | rfl | rfl <;> decide
  have c1 : ∀ i, i < 2 → layK[o + 1 + i]? = some (10, 16) := by rcases ho with rfl | rfl | rfl <;> decide
  have c2 : ∀ i, i < 7 → layK[o + 3 + i]? = some (10, 8) := by rcases ho with rfl | rfl | rfl <;> decide
  have c3 : layK[o + 10]? = some (14, 14) := by rcases ho with rfl | rfl | rfl <;> decide
  have c4 : ∀ i, i < 10 → (o, 8 + i, o + 1 + i) ∈ layR := by rcases ho with rfl | rfl | rfl <;> decide
  refine ⟨L.k o 5 18 c0, fun i hi => ?_, fun i hi => ?_, ?_, fun i hi => ?_⟩
  · rw [Nat.add_assoc B, Nat.add_assoc B]; exact L.k _ 10 16 (c1 i hi)
  · rw [Nat.add_assoc B, Nat.add_assoc B]; exact L.k _ 10 8 (c2 i hi)
  · rw [Nat.add_assoc B]; exact L.k _ 14 14 c3
  · rw [Nat.add_assoc B o 1, Nat.add_assoc B (o + 1) i]; exact L.r o (8 + i) (o + 1 + i) (c4 i hi)
theorem TLy.u {s : hS} {T : Nat} (h : TLy s T) (a k : Nat) (v : Int32) : TLy (uI s a k v) T := h
theorem TLy.g {s : hS} {T : Nat} (h : TLy s T) (i : Nat) (hi : i < 10) : gR s T 5 (8 + i) = some (T + 1 + i) := gR_ok h.1 (h.2.2.2.2 i hi)
theorem TLy.g8 {s : hS} {T : Nat} (h : TLy s T) : gR s T 5 8 = some (T + 1) := h.g 0 (by decide)
theorem TLy.g9 {s : hS} {T : Nat} (h : TLy s T) : gR s T 5 9 = some (T + 2) := h.g 1 (by decide)
theorem TLy.g10 {s : hS} {T : Nat} (h : TLy s T) : gR s T 5 10 = some (T + 3) := h.g 2 (by decide)
theorem TLy.g11 {s : hS} {T : Nat} (h : TLy s T) : gR s T 5 11 = some (T + 4) := h.g 3 (by decide)
theorem TLy.g12 {s : hS} {T : Nat} (h : TLy s T) : gR s T 5 12 = some (T + 5) := h.g 4 (by decide)
theorem TLy.g13 {s : hS} {T : Nat} (h : TLy s T) : gR s T 5 13 = some (T + 6) := h.g 5 (by decide)
theorem TLy.g14 {s : hS} {T : Nat} (h : TLy s T) : gR s T 5 14 = some (T + 7) := h.g 6 (by decide)
theorem TLy.g15 {s : hS} {T : Nat} (h : TLy s T) : gR s T 5 15 = some (T + 8) := h.g 7 (by decide)
theorem TLy.g16 {s : hS} {T : Nat} (h : TLy s T) : gR s T 5 16 = some (T + 9) := h.g 8 (by decide)
theorem TLy.g17 {s : hS} {T : Nat} (h : TLy s T) : gR s T 5 17 = some (T + 10) := h.g 9 (by decide)
theorem TLy.a1 {s : hS} {T k : Nat} (h : TLy s T) (hk : k < 16) : aI s (T + 1) 10 (nI k) = some (hI s (T + 1) k) := aI_ok k (h.2.1 0 (by decide)) rfl hk (by decide)
theorem TLy.a2 {s : hS} {T k : Nat} (h : TLy s T) (hk : k < 16) : aI s (T + 2) 10 (nI k) = some (hI s (T + 2) k) := aI_ok k (h.2.1 1 (by decide)) rfl hk (by decide)
theorem TLy.s1 {s : hS} {T k : Nat} {v : Int32} (h : TLy s T) (hk : k < 16) : sI s (T + 1) 10 (nI k) v = some (uI s (T + 1) k v) := sI_ok k (h.2.1 0 (by decide)) rfl hk (by decide)
theorem TLy.a8 {s : hS} {T k : Nat} (h : TLy s T) (i : Nat) (hi : i < 7) (hk : k < 8) : aI s (T + 3 + i) 10 (nI k) = some (hI s (T + 3 + i) k) := aI_ok k (h.2.2.1 i hi) rfl hk (by decide)
theorem TLy.a3 {s : hS} {T k : Nat} (h : TLy s T) (hk : k < 8) : aI s (T + 3) 10 (nI k) = some (hI s (T + 3) k) := h.a8 0 (by decide) hk
theorem TLy.a4 {s : hS} {T k : Nat} (h : TLy s T) (hk : k < 8) : aI s (T + 4) 10 (nI k) = some (hI s (T + 4) k) := h.a8 1 (by decide) hk
theorem TLy.a5 {s : hS} {T k : Nat} (h : TLy s T) (hk : k < 8) : aI s (T + 5) 10 (nI k) = some (hI s (T + 5) k) := h.a8 2 (by decide) hk
theorem TLy.a6 {s : hS} {T k : Nat} (h : TLy s T) (hk : k < 8) : aI s (T + 6) 10 (nI k) = some (hI s (T + 6) k) := h.a8 3 (by decide) hk
theorem TLy.a7 {s : hS} {T k : Nat} (h : TLy s T) (hk : k < 8) : aI s (T + 7) 10 (nI k) = some (hI s (T + 7) k) := h.a8 4 (by decide) hk
theorem TLy.ap {s : hS} {T k : Nat} (h : TLy s T) (hk : k < 8) : aI s (T + 8) 10 (nI k) = some (hI s (T + 8) k) := h.a8 5 (by decide) hk
theorem TLy.aq {s : hS} {T k : Nat} (h : TLy s T) (hk : k < 8) : aI s (T + 9) 10 (nI k) = some (hI s (T + 9) k) := h.a8 6 (by decide) hk
theorem TLy.s3 {s : hS} {T k : Nat} {v : Int32} (h : TLy s T) (hk : k < 8) : sI s (T + 3) 10 (nI k) v = some (uI s (T + 3) k v) := sI_ok k (h.2.2.1 0 (by decide)) rfl hk (by decide)
theorem TLy.s4 {s : hS} {T k : Nat} {v : Int32} (h : TLy s T) (hk : k < 8) : sI s (T + 4) 10 (nI k) v = some (uI s (T + 4) k v) := sI_ok k (h.2.2.1 1 (by decide)) rfl hk (by decide)
theorem TLy.s5 {s : hS} {T k : Nat} {v : Int32} (h : TLy s T) (hk : k < 8) : sI s (T + 5) 10 (nI k) v = some (uI s (T + 5) k v) := sI_ok k (h.2.2.1 2 (by decide)) rfl hk (by decide)
theorem TLy.s6 {s : hS} {T k : Nat} {v : Int32} (h : TLy s T) (hk : k < 8) : sI s (T + 6) 10 (nI k) v = some (uI s (T + 6) k v) := sI_ok k (h.2.2.1 3 (by decide)) rfl hk (by decide)
theorem TLy.al {s : hS} {T k b : Nat} (h : TLy s T) (hk : k < 14) (hb : hR s (T + 10) k = some b) : aR s (T + 10) 14 (nI k) = some b := aR_ok k h.2.2.2.1 rfl hk (by decide) hb
def bI (b : Bool) : Int32 := cond b 1 0
/-- what is fresh, who knows -/
def pfr (τ : Tw) (f : Nat) : Bool := decide (tH τ ≤ tR τ 2 f)
def pkn (τ : Tw) (f p : Nat) : Bool := (tR τ 3 p).testBit f
def frs (τ : Tw) : Nat := sb (pfr τ) (tF τ)
def kws (τ : Tw) (f : Nat) : Nat := sb (pkn τ f) (tP τ)
theorem sb_t {P : Nat → Bool} {n : Nat} (h : P n = true) : sb P (n + 1) = sb P n ||| 2 ^ n := if_pos h
theorem sb_f {P : Nat → Bool} {n : Nat} (h : P n = false) : sb P (n + 1) = sb P n := if_neg (by rw [h]; decide)
theorem ct_t {P : Nat → Bool} {n : Nat} (h : P n = true) : ct P (n + 1) = ct P n + 1 := by
  show ct P n + (P n).toNat = _
  rw [h]; rfl
theorem ct_f {P : Nat → Bool} {n : Nat} (h : P n = false) : ct P (n + 1) = ct P n := by
  show ct P n + (P n).toNat = _
  rw [h]; rfl
theorem ixe (a m k b : Nat) {c : Nat} (h : a + m * k + b = c) : nI a + nI m * nI k + nI b = nI c := by rw [ixn, h]
theorem jF_lt {n : Nat} (h : n < 4000) : n < jF + 0 := by unfold jF; omega
theorem TwOk.p3 {τ : Tw} (h : TwOk τ) {p : Nat} (hp : p < tP τ) : tR τ 3 p < 65536 ∧ tR τ 4 p < 65536 ∧ tR τ 3 p < 2 ^ tF τ ∧ tR τ 4 p < 2 ^ tF τ := by
  have h1 := h.2.2.1 p hp
  have h2 : 2 ^ tF τ ≤ 2 ^ 16 := Nat.pow_le_pow_right (by decide) h.1.1
  have h3 : (2 : Nat) ^ 16 = 65536 := by decide
  rw [h3] at h2
  exact ⟨Nat.lt_of_lt_of_le h1.1 h2, Nat.lt_of_lt_of_le h1.2.1 h2, h1.1, h1.2.1⟩
theorem frs_lt {τ : Tw} (h : TwOk τ) : frs τ < 65536 := by
  have h2 : 2 ^ tF τ ≤ 2 ^ 16 := Nat.pow_le_pow_right (by decide) h.1.1
  have h3 : (2 : Nat) ^ 16 = 65536 := by decide
  rw [h3] at h2
  exact Nat.lt_of_lt_of_le (sb_lt _ _) h2
theorem kws_lt {τ : Tw} (h : TwOk τ) (f : Nat) : kws τ f < 256 := by
  have h2 : 2 ^ tP τ ≤ 2 ^ 8 := Nat.pow_le_pow_right (by decide) h.1.2.1
  have h3 : (2 : Nat) ^ 8 = 256 := by decide
  rw [h3] at h2
  exact Nat.lt_of_lt_of_le (sb_lt _ _) h2
abbrev kk2 : Type := Nat → Int32 → Int32 → hS → Option (Int32 × hS)
abbrev kk3 : Type := Nat → Int32 → Int32 → Int32 → hS → Option (Int32 × hS)
/-! the class's side -/
section CS
variable {s : hS} {T : Nat} {τ : Tw} (h : TLy s T) (hN : TwN s T τ) (hok : TwOk τ)
theorem c_fr1 (h : TLy s T) (hN : TwN s T τ) (hok : TwOk τ) {f : Nat} (hf : f < tF τ) : f_X5_isFresh s T (nI f) = some (bI (pfr τ f), s) := by
  have b1 := hok.1.1
  have b2 := (hok.2.1 f hf).2
  have b3 := hok.1.2.2.2.2.2
  unfold f_X5_isFresh
  refine bnd (gI_ok h.1) (bnd h.g9 (bnd (h.a2 (by omega)) ?_))
  rw [hN.1.2.2.2.2.2.1, (hN.2.1 f (by omega)).2]
  unfold pfr
  by_cases c : tH τ ≤ tR τ 2 f
  · rw [decide_eq_true c]
    exact ifn (nI_nlt c (by omega)) rfl
  · rw [decide_eq_false c]
    exact ifp (nI_lt (by omega) (by omega)) rfl
theorem c_frs (h : TLy s T) (hN : TwN s T τ) (hok : TwOk τ) : f_X5_freshFacts s T = some (nI (frs τ), s) := by
  have b1 := hok.1.1
  refine jL_run (F := f_X5_freshFacts_b4) (z := fun _ _ _ _ => none) (fun (k : kk2) i => k T (nI (sb (pfr τ) i)) (nI i) s) (tF τ) _ (fun i hi k => ?_) (fun k => ?_) jF 0 (Nat.zero_le _) (jF_lt (by omega))
  · show f_X5_freshFacts_b4 k T _ _ s = _
    unfold f_X5_freshFacts_b4 f_X5_freshFacts_b26
    refine bnd (gI_ok h.1) ?_
    rw [hN.1.1]
    refine ifn (nI_ge hi (by omega)) (bnd ((cV_ok h.1).trans (c_fr1 h hN hok hi)) ?_)
    cases hp : pfr τ i
    · refine ifp rfl ?_
      rw [sb_f hp, nI_1]
    · refine ifn one_ne ?_
      show k T (nI (sb (pfr τ) i) ||| ((1 : Int32) <<< (nI i &&& 31))) (nI i + 1) s = _
      rw [sb_t hp, nI_1, bi_one (by omega), bi_or]
  · show f_X5_freshFacts_b4 k T _ _ s = _
    unfold f_X5_freshFacts_b4
    refine bnd (gI_ok h.1) ?_
    rw [hN.1.1]
    exact ifp (nI_le (Nat.le_refl _) (by omega)) rfl
theorem c_kn (h : TLy s T) (hN : TwN s T τ) (hok : TwOk τ) {p f : Nat} (hp : p < tP τ) (hf : f < 32) : f_X5_isKnown s T (nI p) (nI f) = some (bI (pkn τ f p), s) := by
  have b1 := hok.1.2.1
  have b2 := (hok.p3 hp).1
  unfold f_X5_isKnown
  refine bnd h.g10 (bnd (h.a3 (by omega)) ?_)
  rw [(hN.2.2.1 p (by omega)).1, bi_bit (by omega) hf]
  unfold pkn
  cases (tR τ 3 p).testBit f
  · exact ifp rfl rfl
  · exact ifn one_ne rfl
theorem c_kws (h : TLy s T) (hN : TwN s T τ) (hok : TwOk τ) {f : Nat} (hf : f < 32) : f_X5_knowersOf s T (nI f) = some (nI (kws τ f), s) := by
  have b1 := hok.1.2.1
  refine jL_run (F := f_X5_knowersOf_b4) (z := fun _ _ _ _ _ => none) (fun (k : kk3) i => k T (nI f) (nI (sb (pkn τ f) i)) (nI i) s) (tP τ) _ (fun i hi k => ?_) (fun k => ?_) jF 0 (Nat.zero_le _) (jF_lt (by omega))
  · show f_X5_knowersOf_b4 k T _ _ _ s = _
    unfold f_X5_knowersOf_b4 f_X5_knowersOf_b27
    refine bnd (gI_ok h.1) ?_
    rw [hN.1.2.1]
    refine ifn (nI_ge hi (by omega)) (bnd ((cV_ok h.1).trans (c_kn h hN hok hi hf)) ?_)
    cases hp : pkn τ f i
    · refine ifp rfl ?_
      rw [sb_f hp, nI_1]
    · refine ifn one_ne ?_
      show k T (nI f) (nI (sb (pkn τ f) i) ||| ((1 : Int32) <<< (nI i &&& 31))) (nI i + 1) s = _
      rw [sb_t hp, nI_1, bi_one (by omega), bi_or]
  · show f_X5_knowersOf_b4 k T _ _ _ s = _
    unfold f_X5_knowersOf_b4
    refine bnd (gI_ok h.1) ?_
    rw [hN.1.2.1]
    exact ifp (nI_le (Nat.le_refl _) (by omega)) rfl
/-- how many know -/
def hmk (τ : Tw) (f : Nat) : Nat := ct (pkn τ f) (tP τ)
theorem hmk_le {τ : Tw} (hok : TwOk τ) (f : Nat) : hmk τ f ≤ 8 := Nat.le_trans (ct_le _ _) hok.1.2.1
theorem c_hmk (h : TLy s T) (hN : TwN s T τ) (hok : TwOk τ) {f : Nat} (hf : f < 32) : f_X5_howManyKnow s T (nI f) = some (nI (hmk τ f), s) := by
  have b1 := hok.1.2.1
  refine jL_run (F := f_X5_howManyKnow_b4) (z := fun _ _ _ _ _ => none) (fun (k : kk3) i => k T (nI f) (nI (ct (pkn τ f) i)) (nI i) s) (tP τ) _ (fun i hi k => ?_) (fun k => ?_) jF 0 (Nat.zero_le _) (jF_lt (by omega))
  · show f_X5_howManyKnow_b4 k T _ _ _ s = _
    have b2 := (hok.p3 hi).1
    unfold f_X5_howManyKnow_b4
    refine bnd (gI_ok h.1) ?_
    rw [hN.1.2.1]
    refine ifn (nI_ge hi (by omega)) (bnd h.g10 (bnd (h.a3 (by omega)) ?_))
    show k T (nI f) (nI (ct (pkn τ f) i) + ((hI s (T + 3) i >>> (nI f &&& 31)) &&& 1)) (nI i + 1) s = _
    rw [(hN.2.2.1 i (by omega)).1, bi_bit (by omega) hf, nI_add, nI_1]
    rfl
  · show f_X5_howManyKnow_b4 k T _ _ _ s = _
    unfold f_X5_howManyKnow_b4
    refine bnd (gI_ok h.1) ?_
    rw [hN.1.2.1]
    exact ifp (nI_le (Nat.le_refl _) (by omega)) rfl
/-- what all know together -/
def kto (τ : Tw) : Nat → Nat
  | 0 => 0
  | n + 1 => kto τ n + pop (tR τ 3 n) 16
theorem c_kto (h : TLy s T) (hN : TwN s T τ) (hok : TwOk τ) : f_X5_knownTogether s T = some (nI (kto τ (tP τ)), s) := by
  have b1 := hok.1.2.1
  refine jL_run (F := f_X5_knownTogether_b4) (z := fun _ _ _ _ => none) (fun (k : kk2) i => k T (nI (kto τ i)) (nI i) s) (tP τ) _ (fun i hi k => ?_) (fun k => ?_) jF 0 (Nat.zero_le _) (jF_lt (by omega))
  · show f_X5_knownTogether_b4 k T _ _ s = _
    have b2 := (hok.p3 hi).1
    unfold f_X5_knownTogether_b4
    refine bnd (gI_ok h.1) ?_
    rw [hN.1.2.1]
    refine ifn (nI_ge hi (by omega)) (bnd h.g10 (bnd (h.a3 (by omega)) ?_))
    rw [(hN.2.2.1 i (by omega)).1]
    refine bnd (bc s b2) ?_
    show k T (nI (kto τ i) + nI (pop (tR τ 3 i) 16)) (nI i + 1) s = _
    rw [nI_add, nI_1]
    rfl
  · show f_X5_knownTogether_b4 k T _ _ s = _
    unfold f_X5_knownTogether_b4
    refine bnd (gI_ok h.1) ?_
    rw [hN.1.2.1]
    exact ifp (nI_le (Nat.le_refl _) (by omega)) rfl
/-- riches -/
def rch (τ : Tw) (p : Nat) : Nat → Nat
  | 0 => 0
  | n + 1 => rch τ p n + (if pkn τ n p then tR τ 1 n else 0)
theorem rch_t {τ : Tw} {p n : Nat} (h : pkn τ n p = true) : rch τ p (n + 1) = rch τ p n + tR τ 1 n := by
  show rch τ p n + _ = _
  rw [if_pos h]
theorem rch_f {τ : Tw} {p n : Nat} (h : pkn τ n p = false) : rch τ p (n + 1) = rch τ p n := by
  show rch τ p n + _ = _
  rw [if_neg (by rw [h]; decide)]
  rfl
theorem rch_le {τ : Tw} (hok : TwOk τ) (p : Nat) : ∀ n, n ≤ tF τ → rch τ p n ≤ 99 * n
  | 0, _ => Nat.le_refl 0
  | n + 1, hn => by
    have h1 := rch_le hok p n (by omega)
    have h2 := (hok.2.1 n (by omega)).1
    cases hp : pkn τ n p
    · rw [rch_f hp]; omega
    · rw [rch_t hp]; omega
theorem c_rch (h : TLy s T) (hN : TwN s T τ) (hok : TwOk τ) {p : Nat} (hp : p < tP τ) : f_X5_richesOf s T (nI p) = some (nI (rch τ p (tF τ)), s) := by
  have b1 := hok.1.1
  refine jL_run (F := f_X5_richesOf_b4) (z := fun _ _ _ _ _ => none) (fun (k : kk3) i => k T (nI p) (nI (rch τ p i)) (nI i) s) (tF τ) _ (fun i hi k => ?_) (fun k => ?_) jF 0 (Nat.zero_le _) (jF_lt (by omega))
  · show f_X5_richesOf_b4 k T _ _ _ s = _
    unfold f_X5_richesOf_b4 f_X5_richesOf_b30
    refine bnd (gI_ok h.1) ?_
    rw [hN.1.1]
    refine ifn (nI_ge hi (by omega)) (bnd ((cV_ok h.1).trans (c_kn h hN hok hp (by omega))) ?_)
    cases hq : pkn τ i p
    · refine ifp rfl ?_
      rw [rch_f hq, nI_1]
    · refine ifn one_ne (bnd h.g8 (bnd (h.a1 (by omega)) ?_))
      show k T (nI p) (nI (rch τ p i) + hI s (T + 1) i) (nI i + 1) s = _
      rw [(hN.2.1 i (by omega)).1, rch_t hq, nI_1, nI_add]
  · show f_X5_richesOf_b4 k T _ _ _ s = _
    unfold f_X5_richesOf_b4
    refine bnd (gI_ok h.1) ?_
    rw [hN.1.1]
    exact ifp (nI_le (Nat.le_refl _) (by omega)) rfl
/-- who is richest among the first -/
def rb (τ : Tw) : Nat → Nat
  | 0 => 0
  | n + 1 => if n = 0 then 0 else if rch τ (rb τ n) (tF τ) < rch τ n (tF τ) then n else rb τ n
theorem rb_lt (τ : Tw) : ∀ n, 0 < n → rb τ n < n
  | 0, h => h
  | n + 1, _ => by
    show (if n = 0 then 0 else if rch τ (rb τ n) (tF τ) < rch τ n (tF τ) then n else rb τ n) < n + 1
    split
    · omega
    · split
      · omega
      · have := rb_lt τ n (by omega); omega
def rbI (τ : Tw) (i : Nat) : Int32 := if i = 0 then -1 else nI (rb τ i)
def rbM (τ : Tw) (i : Nat) : Int32 := if i = 0 then 0 else nI (rch τ (rb τ i) (tF τ))
theorem c_rb (h : TLy s T) (hN : TwN s T τ) (hok : TwOk τ) : f_X5_richestOne s T = some (rbI τ (tP τ), s) := by
  have b1 := hok.1.2.1
  have b0 := hok.1.1
  refine jL_run (F := f_X5_richestOne_b6) (z := fun _ _ _ _ _ => none) (fun (k : kk3) i => k T (rbI τ i) (rbM τ i) (nI i) s) (tP τ) _ (fun i hi k => ?_) (fun k => ?_) jF 0 (Nat.zero_le _) (jF_lt (by omega))
  · show f_X5_richestOne_b6 k T _ _ _ s = _
    unfold f_X5_richestOne_b6 f_X5_richestOne_b32 f_X5_richestOne_b37
    refine bnd (gI_ok h.1) ?_
    rw [hN.1.2.1]
    refine ifn (nI_ge hi (by omega)) (bnd ((cV_ok h.1).trans (c_rch h hN hok hi)) ?_)
    by_cases i0 : i = 0
    · subst i0
      exact ifp rfl rfl
    · have hb := rb_lt τ i (by omega)
      have r1 := rch_le hok i (tF τ) (Nat.le_refl _)
      have r2 := rch_le hok (rb τ i) (tF τ) (Nat.le_refl _)
      have e1 : rbI τ i = nI (rb τ i) := if_neg i0
      have e2 : rbM τ i = nI (rch τ (rb τ i) (tF τ)) := if_neg i0
      have e3 : rbI τ (i + 1) = nI (rb τ (i + 1)) := if_neg (by omega)
      have e4 : rbM τ (i + 1) = nI (rch τ (rb τ (i + 1)) (tF τ)) := if_neg (by omega)
      have e5 : rb τ (i + 1) = if rch τ (rb τ i) (tF τ) < rch τ i (tF τ) then i else rb τ i := if_neg i0
      rw [e1, e2, e3, e4, e5]
      refine ifn (fun e => ?_) ?_
      · have z : ¬ nI (rb τ i) < 0 := nI_pos (by omega)
        rw [e] at z
        exact z (by decide)
      · by_cases c : rch τ (rb τ i) (tF τ) < rch τ i (tF τ)
        · rw [if_pos c]
          refine ifn (nI_ge c (by omega)) ?_
          rw [nI_1]
        · rw [if_neg c]
          refine ifp (nI_le (by omega) (by omega)) ?_
          rw [nI_1]
  · show f_X5_richestOne_b6 k T _ _ _ s = _
    unfold f_X5_richestOne_b6
    refine bnd (gI_ok h.1) ?_
    rw [hN.1.2.1]
    exact ifp (nI_le (Nat.le_refl _) (by omega)) rfl
end CS
