/-! the reference's side of a town -/
section RS
variable {B : Nat} {s : hS} {τ : Tw}
theorem m_wo (L : Lay B s) (hM : TwM (hI s (B + 67)) τ) {f : Nat} (hf : f < 16) : f_X7_worthOf s (B + 66) (nI f) = some (nI (tR τ 1 f), s) := by
  unfold f_X7_worthOf
  refine bnd L.gn (bnd (L.an (8 + 2 * f) (ixm 8 2 f) (by omega)) ?_)
  rw [(hM.2.1 f hf).1]
theorem m_fr1 (L : Lay B s) (hM : TwM (hI s (B + 67)) τ) (hok : TwOk τ) {f : Nat} (hf : f < tF τ) : f_X7_isFresh s (B + 66) (nI f) = some (bI (pfr τ f), s) := by
  have b1 := hok.1.1
  have b2 := (hok.2.1 f hf).2
  have b3 := hok.1.2.2.2.2.2
  unfold f_X7_isFresh
  refine bnd L.gn (bnd (L.an (9 + 2 * f) (ixe 8 2 f 1 (by omega)) (by omega)) (bnd L.gn (bnd (L.an 5 rfl (by decide)) ?_)))
  rw [hM.1.2.2.2.2.2.1, (hM.2.1 f (by omega)).2]
  unfold pfr
  by_cases c : tH τ ≤ tR τ 2 f
  · rw [decide_eq_true c]
    exact ifn (nI_nlt c (by omega)) rfl
  · rw [decide_eq_false c]
    exact ifp (nI_lt (by omega) (by omega)) rfl
theorem m_kt (L : Lay B s) (hM : TwM (hI s (B + 67)) τ) {p : Nat} (hp : p < 8) : f_X7_knownTo s (B + 66) (nI p) = some (nI (tR τ 3 p), s) := by
  unfold f_X7_knownTo
  refine bnd L.gn (bnd (L.an (40 + 2 * p) (ixm 40 2 p) (by omega)) ?_)
  rw [(hM.2.2.1 p hp).1]
theorem m_nb (L : Lay B s) (hM : TwM (hI s (B + 67)) τ) {p : Nat} (hp : p < 8) : f_X7_neededBy s (B + 66) (nI p) = some (nI (tR τ 4 p), s) := by
  unfold f_X7_neededBy
  refine bnd L.gn (bnd (L.an (41 + 2 * p) (ixe 40 2 p 1 (by omega)) (by omega)) ?_)
  rw [(hM.2.2.1 p hp).2]
theorem m_kn (L : Lay B s) (hM : TwM (hI s (B + 67)) τ) (hok : TwOk τ) {p f : Nat} (hp : p < tP τ) (hf : f < 32) : f_X7_doesKnow s (B + 66) (nI p) (nI f) = some (bI (pkn τ f p), s) := by
  have b1 := hok.1.2.1
  have b2 := (hok.p3 hp).1
  unfold f_X7_doesKnow
  refine bnd ((cV_ok L.km).trans (m_kt L hM (by omega))) ?_
  rw [bi_bit (by omega) hf]
  unfold pkn
  cases (tR τ 3 p).testBit f
  · exact ifn (by decide) rfl
  · exact ifp rfl rfl
theorem m_kws (L : Lay B s) (hM : TwM (hI s (B + 67)) τ) (hok : TwOk τ) {f : Nat} (hf : f < 32) : f_X7_knowers s (B + 66) (nI f) = some (nI (kws τ f), s) := by
  have b1 := hok.1.2.1
  refine jL_run (F := f_X7_knowers_b4) (z := fun _ _ _ _ _ => none) (fun (k : kk3) i => k (B + 66) (nI f) (nI (sb (pkn τ f) i)) (nI i) s) (tP τ) _ (fun i hi k => ?_) (fun k => ?_) jF 0 (Nat.zero_le _) (jF_lt (by omega))
  · show f_X7_knowers_b4 k (B + 66) _ _ _ s = _
    unfold f_X7_knowers_b4 f_X7_knowers_b31
    refine bnd L.gn (bnd (L.an 2 rfl (by decide)) ?_)
    rw [hM.1.2.1]
    refine ifn (nI_ge hi (by omega)) (bnd ((cV_ok L.km).trans (m_kn L hM hok hi hf)) ?_)
    cases hp : pkn τ f i
    · refine ifp rfl ?_
      show k (B + 66) (nI f) (nI (sb (pkn τ f) i) ||| nI 0) (nI i + 1) s = _
      rw [sb_f hp, nI_1, bi_or, Nat.or_zero]
    · refine ifn one_ne ?_
      show k (B + 66) (nI f) (nI (sb (pkn τ f) i) ||| ((1 : Int32) <<< (nI i &&& 31))) (nI i + 1) s = _
      rw [sb_t hp, nI_1, bi_one (by omega), bi_or]
  · show f_X7_knowers_b4 k (B + 66) _ _ _ s = _
    unfold f_X7_knowers_b4
    refine bnd L.gn (bnd (L.an 2 rfl (by decide)) ?_)
    rw [hM.1.2.1]
    exact ifp (nI_le (Nat.le_refl _) (by omega)) rfl
theorem kws_pop {τ : Tw} (hok : TwOk τ) (f : Nat) : pop (kws τ f) 16 = hmk τ f := by
  have b1 := hok.1.2.1
  unfold kws hmk
  rw [pop_up (sb_lt _ _) 16 (by omega), pop_sb]
theorem m_kto (L : Lay B s) (hM : TwM (hI s (B + 67)) τ) (hok : TwOk τ) : f_X7_knownAll s (B + 66) = some (nI (kto τ (tP τ)), s) := by
  have b1 := hok.1.2.1
  refine jL_run (F := f_X7_knownAll_b4) (z := fun _ _ _ _ => none) (fun (k : kk2) i => k (B + 66) (nI (kto τ i)) (nI i) s) (tP τ) _ (fun i hi k => ?_) (fun k => ?_) jF 0 (Nat.zero_le _) (jF_lt (by omega))
  · show f_X7_knownAll_b4 k (B + 66) _ _ s = _
    have b2 := (hok.p3 hi).1
    unfold f_X7_knownAll_b4
    refine bnd L.gn (bnd (L.an 2 rfl (by decide)) ?_)
    rw [hM.1.2.1]
    refine ifn (nI_ge hi (by omega)) (bnd ((cV_ok L.km).trans (m_kt L hM (by omega))) (bnd (m_bits s b2) ?_))
    show k (B + 66) (nI (kto τ i) + nI (pop (tR τ 3 i) 16)) (nI i + 1) s = _
    rw [nI_add, nI_1]
    rfl
  · show f_X7_knownAll_b4 k (B + 66) _ _ s = _
    unfold f_X7_knownAll_b4
    refine bnd L.gn (bnd (L.an 2 rfl (by decide)) ?_)
    rw [hM.1.2.1]
    exact ifp (nI_le (Nat.le_refl _) (by omega)) rfl
theorem m_rch (L : Lay B s) (hM : TwM (hI s (B + 67)) τ) (hok : TwOk τ) {p : Nat} (hp : p < tP τ) : f_X7_richesOf s (B + 66) (nI p) = some (nI (rch τ p (tF τ)), s) := by
  have b1 := hok.1.1
  refine jL_run (F := f_X7_richesOf_b4) (z := fun _ _ _ _ _ => none) (fun (k : kk3) i => k (B + 66) (nI p) (nI (rch τ p i)) (nI i) s) (tF τ) _ (fun i hi k => ?_) (fun k => ?_) jF 0 (Nat.zero_le _) (jF_lt (by omega))
  · show f_X7_richesOf_b4 k (B + 66) _ _ _ s = _
    unfold f_X7_richesOf_b4 f_X7_richesOf_b33
    refine bnd L.gn (bnd (L.an 1 rfl (by decide)) ?_)
    rw [hM.1.1]
    refine ifn (nI_ge hi (by omega)) (bnd ((cV_ok L.km).trans (m_kn L hM hok hp (by omega))) ?_)
    cases hq : pkn τ i p
    · refine ifp rfl ?_
      show k (B + 66) (nI p) (nI (rch τ p i) + nI 0) (nI i + 1) s = _
      rw [rch_f hq, nI_1, nI_add]
      rfl
    · refine ifn one_ne (bnd ((cV_ok L.km).trans (m_wo L hM (by omega))) ?_)
      show k (B + 66) (nI p) (nI (rch τ p i) + nI (tR τ 1 i)) (nI i + 1) s = _
      rw [rch_t hq, nI_1, nI_add]
  · show f_X7_richesOf_b4 k (B + 66) _ _ _ s = _
    unfold f_X7_richesOf_b4
    refine bnd L.gn (bnd (L.an 1 rfl (by decide)) ?_)
    rw [hM.1.1]
    exact ifp (nI_le (Nat.le_refl _) (by omega)) rfl
def noneOr (x : Int32) : Int32 := if x = -1 then -1000000005 else x
theorem c_orNone (s : hS) (x : Int32) : f_X6_orNone s x = some (noneOr x, s) := by
  unfold f_X6_orNone noneOr
  by_cases h : x = -1
  · rw [if_pos h, if_pos h]
  · rw [if_neg h, if_neg h]
theorem m_told (s : hS) {x : Int32} (h : x = -1 ∨ ∃ n : Nat, n < 2 ^ 31 ∧ x = nI n) : f_X7_told0 s x = some (noneOr x, s) := by
  unfold f_X7_told0 noneOr
  rcases h with rfl | ⟨n, hn, rfl⟩
  · rfl
  · have z := nI_pos hn
    rw [if_pos (nI_pos' hn), if_neg]
    intro e
    rw [e] at z
    exact z (by decide)
theorem m_rb (L : Lay B s) (hM : TwM (hI s (B + 67)) τ) (hok : TwOk τ) : f_X7_richest s (B + 66) = some (noneOr (rbI τ (tP τ)), s) := by
  have b1 := hok.1.2.1
  have b0 := hok.1.1
  refine jL_run (F := f_X7_richest_b4) (z := fun _ _ _ _ => none) (fun (k : kk2) i => k (B + 66) (rbI τ i) (nI i) s) (tP τ) _ (fun i hi k => ?_) (fun k => ?_) jF 0 (Nat.zero_le _) (jF_lt (by omega))
  · show f_X7_richest_b4 k (B + 66) _ _ s = _
    unfold f_X7_richest_b4 f_X7_richest_b31 f_X7_richest_b36
    refine bnd L.gn (bnd (L.an 2 rfl (by decide)) ?_)
    rw [hM.1.2.1]
    refine ifn (nI_ge hi (by omega)) ?_
    by_cases i0 : i = 0
    · subst i0
      exact ifp (show (-1 : Int32) < 0 by decide) rfl
    · have hb := rb_lt τ i (by omega)
      have r1 := rch_le hok i (tF τ) (Nat.le_refl _)
      have r2 := rch_le hok (rb τ i) (tF τ) (Nat.le_refl _)
      have e1 : rbI τ i = nI (rb τ i) := if_neg i0
      have e3 : rbI τ (i + 1) = nI (rb τ (i + 1)) := if_neg (by omega)
      have e5 : rb τ (i + 1) = if rch τ (rb τ i) (tF τ) < rch τ i (tF τ) then i else rb τ i := if_neg i0
      rw [e1, e3, e5]
      refine ifn (nI_pos (by omega)) (bnd ((cV_ok L.km).trans (m_rch L hM hok hi)) (bnd ((cV_ok L.km).trans (m_rch L hM hok (by omega))) ?_))
      by_cases c : rch τ (rb τ i) (tF τ) < rch τ i (tF τ)
      · rw [if_pos c]
        refine ifn (nI_ge c (by omega)) ?_
        rw [nI_1]
      · rw [if_neg c]
        refine ifp (nI_le (by omega) (by omega)) ?_
        rw [nI_1]
  · show f_X7_richest_b4 k (B + 66) _ _ s = _
    unfold f_X7_richest_b4
    refine bnd L.gn (bnd (L.an 2 rfl (by decide)) ?_)
    rw [hM.1.2.1]
    refine ifp (nI_le (Nat.le_refl _) (by omega)) (bnd (m_told s ?_) rfl)
    unfold rbI
    by_cases p0 : tP τ = 0
    · exact Or.inl (if_pos p0)
    · have := rb_lt τ (tP τ) (by omega)
      exact Or.inr ⟨rb τ (tP τ), by omega, if_neg p0⟩
end RS
/-- news: fresh, and known by one alone -/
def nwP (τ : Tw) (p f : Nat) : Bool := pfr τ f && decide (kws τ f = 2 ^ p)
def nws (τ : Tw) (p : Nat) : Nat → Nat
  | 0 => frs τ &&& tR τ 3 p
  | n + 1 => if n = p then nws τ p n else dif (nws τ p n) (tR τ 3 n)
theorem nws_le (τ : Tw) (p : Nat) : ∀ n, nws τ p n ≤ frs τ
  | 0 => Nat.and_le_left
  | n + 1 => by
    have ih := nws_le τ p n
    show (if n = p then nws τ p n else dif (nws τ p n) (tR τ 3 n)) ≤ _
    split
    · exact ih
    · refine Nat.le_trans ?_ ih
      apply Nat.ge_of_not_lt
      intro hlt
      have e : dif (nws τ p n) (tR τ 3 n) = nws τ p n &&& dif (nws τ p n) (tR τ 3 n) := by
        apply Nat.eq_of_testBit_eq
        intro i
        rw [Nat.testBit_and, dif_tb]
        cases (nws τ p n).testBit i <;> simp
      have : nws τ p n &&& dif (nws τ p n) (tR τ 3 n) ≤ nws τ p n := Nat.and_le_left
      rw [← e] at this
      omega
theorem nws_tb (τ : Tw) (p f : Nat) : ∀ n, (nws τ p n).testBit f = true ↔ ((frs τ).testBit f = true ∧ pkn τ f p = true ∧ ∀ o, o < n → o ≠ p → pkn τ f o = false)
  | 0 => by
    show (frs τ &&& tR τ 3 p).testBit f = true ↔ _
    rw [Nat.testBit_and, Bool.and_eq_true]
    exact ⟨fun h => ⟨h.1, h.2, fun o ho => by omega⟩, fun h => ⟨h.1, h.2.1⟩⟩
  | n + 1 => by
    have ih := nws_tb τ p f n
    show (if n = p then nws τ p n else dif (nws τ p n) (tR τ 3 n)).testBit f = true ↔ _
    by_cases e : n = p
    · rw [if_pos e, ih]
      refine ⟨fun h => ⟨h.1, h.2.1, fun o ho hop => h.2.2 o (by omega) hop⟩, fun h => ⟨h.1, h.2.1, fun o ho hop => h.2.2 o (by omega) hop⟩⟩
    · rw [if_neg e, dif_tb, Bool.and_eq_true, ih]
      constructor
      · rintro ⟨⟨h1, h2, h3⟩, h4⟩
        refine ⟨h1, h2, fun o ho hop => ?_⟩
        by_cases eo : o = n
        · subst eo
          unfold pkn
          revert h4
          cases (tR τ 3 o).testBit f <;> simp
        · exact h3 o (by omega) hop
      · rintro ⟨h1, h2, h3⟩
        refine ⟨⟨h1, h2, fun o ho hop => h3 o (by omega) hop⟩, ?_⟩
        have := h3 n (by omega) e
        unfold pkn at this
        rw [this]; rfl
theorem kws_one {τ : Tw} {p f : Nat} (hp : p < tP τ) : kws τ f = 2 ^ p ↔ (pkn τ f p = true ∧ ∀ o, o < tP τ → o ≠ p → pkn τ f o = false) := by
  constructor
  · intro h
    have hb : ∀ o, (decide (o < tP τ) && pkn τ f o) = decide (p = o) := fun o => by
      rw [← sb_tb, ← Nat.testBit_two_pow]
      exact congrArg (fun x => Nat.testBit x o) h
    constructor
    · have := hb p
      rw [decide_eq_true hp, decide_eq_true rfl, Bool.true_and] at this
      exact this
    · intro o ho hop
      have := hb o
      rw [decide_eq_true ho, decide_eq_false (fun e => hop e.symm), Bool.true_and] at this
      exact this
  · rintro ⟨h1, h2⟩
    apply Nat.eq_of_testBit_eq
    intro o
    unfold kws
    rw [sb_tb, Nat.testBit_two_pow]
    by_cases e : p = o
    · subst e
      rw [decide_eq_true hp, h1, decide_eq_true rfl]; rfl
    · rw [decide_eq_false e]
      by_cases ho : o < tP τ
      · rw [h2 o ho (fun q => e q.symm), Bool.and_false]
      · rw [decide_eq_false ho, Bool.false_and]
theorem nws_pop {τ : Tw} (hok : TwOk τ) {p : Nat} (hp : p < tP τ) : pop (nws τ p (tP τ)) 16 = ct (nwP τ p) (tF τ) := by
  have b1 := hok.1.1
  have hl : nws τ p (tP τ) < 2 ^ tF τ := Nat.lt_of_le_of_lt (nws_le τ p (tP τ)) (sb_lt _ _)
  rw [pop_up hl 16 b1]
  refine pop_ct _ (fun f hf => ?_)
  rw [Bool.eq_iff_iff, nws_tb]
  unfold nwP frs
  rw [sb_tb, decide_eq_true hf, Bool.true_and, Bool.and_eq_true, decide_eq_true_iff, kws_one hp]
theorem c_nws {s : hS} {T : Nat} {τ : Tw} (h : TLy s T) (hN : TwN s T τ) (hok : TwOk τ) {p : Nat} (hp : p < tP τ) : f_X5_newsOf s T (nI p) = some (nI (ct (nwP τ p) (tF τ)), s) := by
  have b1 := hok.1.2.1
  unfold f_X5_newsOf
  refine bnd ((cV_ok h.1).trans (c_frs h hN hok)) (bnd h.g10 (bnd (h.a3 (by omega)) ?_))
  rw [(hN.2.2.1 p (by omega)).1]
  show jL f_X5_newsOf_b14 (fun _ _ _ _ _ => none) jF T (nI p) (nI (frs τ) &&& nI (tR τ 3 p)) 0 s = _
  rw [bi_and]
  refine jL_run (F := f_X5_newsOf_b14) (z := fun _ _ _ _ _ => none) (fun (k : kk3) i => k T (nI p) (nI (nws τ p i)) (nI i) s) (tP τ) _ (fun i hi k => ?_) (fun k => ?_) jF 0 (Nat.zero_le _) (jF_lt (by omega))
  · show f_X5_newsOf_b14 k T _ _ _ s = _
    unfold f_X5_newsOf_b14 f_X5_newsOf_b38
    refine bnd (gI_ok h.1) ?_
    rw [hN.1.2.1]
    refine ifn (nI_ge hi (by omega)) ?_
    by_cases e : i = p
    · have e5 : nws τ p (i + 1) = nws τ p i := if_pos e
      refine ifp (by rw [e]) ?_
      rw [e5, nI_1]
    · have e5 : nws τ p (i + 1) = dif (nws τ p i) (tR τ 3 i) := if_neg e
      refine ifn (fun q => e ((nI_eq (by omega) (by omega)).mp q)) (bnd h.g10 (bnd (h.a3 (by omega)) ?_))
      show k T (nI p) (nI (nws τ p i) &&& (hI s (T + 3) i ^^^ (-1))) (nI i + 1) s = _
      rw [(hN.2.2.1 i (by omega)).1, bi_dif, e5, nI_1]
  · show f_X5_newsOf_b14 k T _ _ _ s = _
    have hl := nws_le τ p (tP τ)
    have hf := frs_lt hok
    unfold f_X5_newsOf_b14
    refine bnd (gI_ok h.1) ?_
    rw [hN.1.2.1]
    refine ifp (nI_le (Nat.le_refl _) (by omega)) (bnd (bc s (by omega)) ?_)
    rw [nws_pop hok hp]
theorem m_nws {B : Nat} {s : hS} {τ : Tw} (L : Lay B s) (hM : TwM (hI s (B + 67)) τ) (hok : TwOk τ) {p : Nat} (hp : p < tP τ) : f_X7_newsOf s (B + 66) (nI p) = some (nI (ct (nwP τ p) (tF τ)), s) := by
  have b1 := hok.1.1
  have b2 := hok.1.2.1
  refine jL_run (F := f_X7_newsOf_b4) (z := fun _ _ _ _ _ => none) (fun (k : kk3) i => k (B + 66) (nI p) (nI (ct (nwP τ p) i)) (nI i) s) (tF τ) _ (fun i hi k => ?_) (fun k => ?_) jF 0 (Nat.zero_le _) (jF_lt (by omega))
  · show f_X7_newsOf_b4 k (B + 66) _ _ _ s = _
    have fin0 : nwP τ p i = false → k (B + 66) (nI p) (nI (ct (nwP τ p) i) + 0) (nI i + 1) s = k (B + 66) (nI p) (nI (ct (nwP τ p) (i + 1))) (nI (i + 1)) s := by
      intro q
      rw [ct_f q, nI_1]
      show k (B + 66) (nI p) (nI (ct (nwP τ p) i) + nI 0) (nI (i + 1)) s = _
      rw [nI_add]
      rfl
    unfold f_X7_newsOf_b4 f_X7_newsOf_b38 f_X7_newsOf_b39
    refine bnd L.gn (bnd (L.an 1 rfl (by decide)) ?_)
    rw [hM.1.1]
    refine ifn (nI_ge hi (by omega)) (bnd ((cV_ok L.km).trans (m_fr1 L hM hok hi)) ?_)
    cases hq : pfr τ i
    · refine ifp rfl ?_
      exact fin0 (by unfold nwP; rw [hq]; rfl)
    · refine ifn one_ne (bnd ((cV_ok L.km).trans (m_kws L hM hok (by omega))) ?_)
      have hk := kws_lt hok i
      have h2 : 2 ^ p ≤ 2 ^ 8 := Nat.pow_le_pow_right (by decide) (by omega)
      have h3 : (2 : Nat) ^ 8 = 256 := by decide
      by_cases c : kws τ i = 2 ^ p
      · refine ifp (by rw [c, bi_one (by omega)]) ?_
        show k (B + 66) (nI p) (nI (ct (nwP τ p) i) + 1) (nI i + 1) s = _
        rw [nI_1, nI_1, ct_t]
        unfold nwP
        rw [hq, decide_eq_true c]; rfl
      · refine ifn (fun q => c ?_) (fin0 ?_)
        · rw [bi_one (by omega)] at q
          exact (nI_eq (by omega) (by omega)).mp q
        · unfold nwP
          rw [decide_eq_false c, Bool.and_false]
  · show f_X7_newsOf_b4 k (B + 66) _ _ _ s = _
    unfold f_X7_newsOf_b4
    refine bnd L.gn (bnd (L.an 1 rfl (by decide)) ?_)
    rw [hM.1.1]
    exact ifp (nI_le (Nat.le_refl _) (by omega)) rfl
