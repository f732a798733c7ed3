/-- what a fact would fetch from all who don't know it -/
def pfo (τ : Tw) (f : Nat) : Nat → Nat
  | 0 => 0
  | n + 1 => pfo τ f n + (if pkn τ f n = true then 0 else prc τ f n)
theorem pfo_t {τ : Tw} {f n : Nat} (h : pkn τ f n = true) : pfo τ f (n + 1) = pfo τ f n := by
  show pfo τ f n + _ = _
  rw [if_pos h]
  rfl
theorem pfo_f {τ : Tw} {f n : Nat} (h : pkn τ f n = false) : pfo τ f (n + 1) = pfo τ f n + prc τ f n := by
  show pfo τ f n + _ = _
  rw [if_neg (by rw [h]; decide)]
theorem pfo_le (τ : Tw) (f : Nat) : ∀ n, pfo τ f n ≤ 999 * n
  | 0 => Nat.le_refl 0
  | n + 1 => by
    have h1 := pfo_le τ f n
    have h2 := prc_le τ f n
    cases q : pkn τ f n
    · rw [pfo_f q]; omega
    · rw [pfo_t q]; omega
theorem c_pfo {B nt T : Nat} {s : hS} {τ : Tw} (h : CT B nt T s τ) {f : Nat} (hf : f < tF τ) : ∃ s', f_X5_pricesForOthers s T (nI f) = some (nI (pfo τ f (tP τ)), s') ∧ Sx (PX B) s s' := by
  have hok := h.2.2.1
  have b1 := hok.1.1
  have b2 := hok.1.2.1
  refine jL_ex (F := f_X5_pricesForOthers_b4) (z := fun _ _ _ _ _ => none) (fun (k : kk3) i (y : hS) => k T (nI f) (nI (pfo τ f i)) (nI i) y) (tP τ) (fun i y => Sx (PX B) s y) (fun r => ∃ s', r = some (nI (pfo τ f (tP τ)), s') ∧ Sx (PX B) s s') (fun i hi y hy k => Or.inl ?_) (fun y hy k => ?_) jF 0 s (Nat.zero_le _) (jF_lt (by omega)) (Sx.rf _ s)
  · have hy' := h.px hy
    show ∃ x', Sx (PX B) s x' ∧ f_X5_pricesForOthers_b4 k T (nI f) (nI (pfo τ f i)) (nI i) y = k T (nI f) (nI (pfo τ f (i + 1))) (nI (i + 1)) x'
    unfold f_X5_pricesForOthers_b4 f_X5_pricesForOthers_b30
    cases q : pkn τ f i
    · obtain ⟨y', k1, x1⟩ := c_prc hy' hf hi
      refine ⟨y', hy.tr x1, bnd (gI_ok hy'.1.1) ?_⟩
      rw [hy'.2.1.1.1.2.1]
      refine ifn (nI_ge hi (by omega)) (bnd ((cV_ok hy'.1.1).trans (c_kn hy'.1 hy'.2.1.1 hok hi (by omega))) (ifp (by rw [q]; rfl) (bnd ((cV_ok hy'.1.1).trans k1) ?_)))
      unfold nmv
      rw [pfo_f q, nI_1, nI_add]
    · refine ⟨y, hy, bnd (gI_ok hy'.1.1) ?_⟩
      rw [hy'.2.1.1.1.2.1]
      refine ifn (nI_ge hi (by omega)) (bnd ((cV_ok hy'.1.1).trans (c_kn hy'.1 hy'.2.1.1 hok hi (by omega))) (ifn (by rw [q]; exact one_ne) ?_))
      rw [pfo_t q, nI_1]
  · have hy' := h.px hy
    refine ⟨y, ?_, hy⟩
    show f_X5_pricesForOthers_b4 k T _ _ (nI (tP τ)) y = _
    unfold f_X5_pricesForOthers_b4
    refine bnd (gI_ok hy'.1.1) ?_
    rw [hy'.2.1.1.1.2.1]
    exact ifp (nI_le (Nat.le_refl _) (by omega)) rfl
theorem m_pfo {B : Nat} {s : hS} {τ : Tw} (h : MT B s τ) {f : Nat} (hf : f < tF τ) : ∃ s', f_X7_pricesOf s (B + 66) (nI f) = some (nI (pfo τ f (tP τ)), s') ∧ Sx (WX B) s s' := by
  have hok := h.2.2
  have b1 := hok.1.1
  have b2 := hok.1.2.1
  refine jL_ex (F := f_X7_pricesOf_b4) (z := fun _ _ _ _ _ => none) (fun (k : kk3) i (y : hS) => k (B + 66) (nI f) (nI (pfo τ f i)) (nI i) y) (tP τ) (fun i y => Sx (WX B) s y) (fun r => ∃ s', r = some (nI (pfo τ f (tP τ)), s') ∧ Sx (WX B) s s') (fun i hi y hy k => Or.inl ?_) (fun y hy k => ?_) jF 0 s (Nat.zero_le _) (jF_lt (by omega)) (Sx.rf _ s)
  · have hy' := h.wx hy
    show ∃ x', Sx (WX B) s x' ∧ f_X7_pricesOf_b4 k (B + 66) (nI f) (nI (pfo τ f i)) (nI i) y = k (B + 66) (nI f) (nI (pfo τ f (i + 1))) (nI (i + 1)) x'
    unfold f_X7_pricesOf_b4 f_X7_pricesOf_b34
    cases q : pkn τ f i
    · obtain ⟨y', k1, x1⟩ := m_prc hy' hf hi
      refine ⟨y', hy.tr x1, bnd hy'.1.gn (bnd (hy'.1.an 2 rfl (by decide)) ?_)⟩
      rw [hy'.2.1.1.2.1]
      refine ifn (nI_ge hi (by omega)) (bnd ((cV_ok hy'.1.km).trans (m_kn hy'.1 hy'.2.1 hok hi (by omega))) (ifp (by rw [q]; rfl) (bnd ((cV_ok hy'.1.km).trans k1) ?_)))
      unfold nmv
      rw [pfo_f q, nI_1, nI_add]
    · refine ⟨y, hy, bnd hy'.1.gn (bnd (hy'.1.an 2 rfl (by decide)) ?_)⟩
      rw [hy'.2.1.1.2.1]
      refine ifn (nI_ge hi (by omega)) (bnd ((cV_ok hy'.1.km).trans (m_kn hy'.1 hy'.2.1 hok hi (by omega))) (ifn (by rw [q]; exact one_ne) ?_))
      unfold nmv
      rw [pfo_t q, nI_1, show (0 : Int32) = nI 0 from rfl, nI_add]
      rfl
  · have hy' := h.wx hy
    refine ⟨y, ?_, hy⟩
    show f_X7_pricesOf_b4 k (B + 66) _ _ (nI (tP τ)) y = _
    unfold f_X7_pricesOf_b4
    refine bnd hy'.1.gn (bnd (hy'.1.an 2 rfl (by decide)) ?_)
    rw [hy'.2.1.1.2.1]
    exact ifp (nI_le (Nat.le_refl _) (by omega)) rfl
/-- what one had better keep -/
def kS (τ : Tw) (p f : Nat) : Bool := pfr τ f && pkn τ f p
def kb (τ : Tw) (p n : Nat) : Option Nat := bb (kS τ p) (fun f => pfo τ f (tP τ)) true 10000 n
theorem kb_n {τ : Tw} {p n : Nat} (h1 : kS τ p n = true) (hok : TwOk τ) (h2 : kb τ p n = none) : kb τ p (n + 1) = some n := by
  have := pfo_le τ n (tP τ)
  have b2 := hok.1.2.1
  unfold kb at h2 ⊢
  exact bb_t h1 (by show pfo τ n (tP τ) ≤ 10000; omega) (by rw [h2]; rfl)
theorem kb_y {τ : Tw} {p n m : Nat} (h1 : kS τ p n = true) (hok : TwOk τ) (h2 : kb τ p n = some m) (h3 : pfo τ m (tP τ) < pfo τ n (tP τ)) : kb τ p (n + 1) = some n := by
  have := pfo_le τ n (tP τ)
  have b2 := hok.1.2.1
  unfold kb at h2 ⊢
  refine bb_t h1 (by show pfo τ n (tP τ) ≤ 10000; omega) ?_
  rw [h2]
  show decide (pfo τ m (tP τ) < pfo τ n (tP τ)) = true
  exact decide_eq_true h3
theorem kb_k {τ : Tw} {p n m : Nat} (h2 : kb τ p n = some m) (h3 : pfo τ n (tP τ) ≤ pfo τ m (tP τ)) : kb τ p (n + 1) = some m := by
  unfold kb at h2 ⊢
  rw [bb_f3 ?_]
  · exact h2
  · rw [h2]
    show decide (pfo τ m (tP τ) < pfo τ n (tP τ)) = false
    exact decide_eq_false (by omega)
theorem kb_f {τ : Tw} {p n : Nat} (h1 : kS τ p n = false) : kb τ p (n + 1) = kb τ p n := by
  unfold kb
  exact bb_f1 h1
theorem kb_lt {τ : Tw} {p n m : Nat} (h : kb τ p n = some m) : m < n := (bb_lt n h).1
def kv0 (τ : Tw) : Option Nat → Int32
  | none => 0
  | some m => nI (pfo τ m (tP τ))
theorem c_kb {B nt T : Nat} {s : hS} {τ : Tw} (h : CT B nt T s τ) {p : Nat} (hp : p < tP τ) : ∃ s', f_X5_bestToKeep s T (nI p) = some (ltI (kb τ p (tF τ)), s') ∧ Sx (PX B) s s' := by
  have hok := h.2.2.1
  have b1 := hok.1.1
  have b2 := hok.1.2.1
  have hset : frs τ &&& tR τ 3 p < 65536 := Nat.lt_of_le_of_lt Nat.and_le_left (frs_lt hok)
  have htb : ∀ f, f < tF τ → (frs τ &&& tR τ 3 p).testBit f = kS τ p f := fun f hf => by
    unfold kS frs pkn
    rw [Nat.testBit_and, sb_tb, decide_eq_true hf, Bool.true_and]
  have lp : ∃ s', jL f_X5_bestToKeep_b20 (fun _ _ _ _ _ _ => none) jF T (-1) 0 (nI (frs τ &&& tR τ 3 p)) 0 s = some (ltI (kb τ p (tF τ)), s') ∧ Sx (PX B) s s' := by
    refine jL_ex (F := f_X5_bestToKeep_b20) (z := fun _ _ _ _ _ _ => none) (fun (k : kk4) i (y : hS) => k T (ltI (kb τ p i)) (kv0 τ (kb τ p i)) (nI (frs τ &&& tR τ 3 p)) (nI i) y) (tF τ) (fun i y => Sx (PX B) s y) (fun r => ∃ s', r = some (ltI (kb τ p (tF τ)), s') ∧ Sx (PX B) s s') (fun i hi y hy k => Or.inl ?_) (fun y hy k => ?_) jF 0 s (Nat.zero_le _) (jF_lt (by omega)) (Sx.rf _ s)
    · have hy' := h.px hy
      show ∃ x', Sx (PX B) s x' ∧ f_X5_bestToKeep_b20 k T (ltI (kb τ p i)) (kv0 τ (kb τ p i)) (nI (frs τ &&& tR τ 3 p)) (nI i) y = k T (ltI (kb τ p (i + 1))) (kv0 τ (kb τ p (i + 1))) (nI (frs τ &&& tR τ 3 p)) (nI (i + 1)) x'
      unfold f_X5_bestToKeep_b20 f_X5_bestToKeep_b61 f_X5_bestToKeep_b67
      cases q : kS τ p i
      · refine ⟨y, hy, bnd (gI_ok hy'.1.1) ?_⟩
        rw [hy'.2.1.1.1.1]
        refine ifn (nI_ge hi (by omega)) ?_
        rw [bi_bit (by omega) (by omega), htb i hi, q]
        refine ifp rfl ?_
        rw [kb_f q, nI_1]
      · obtain ⟨y', k1, x1⟩ := c_pfo hy' hi
        have pl := pfo_le τ i (tP τ)
        refine ⟨y', hy.tr x1, bnd (gI_ok hy'.1.1) ?_⟩
        rw [hy'.2.1.1.1.1]
        refine ifn (nI_ge hi (by omega)) ?_
        rw [bi_bit (by omega) (by omega), htb i hi, q]
        refine ifn one_ne (bnd ((cV_ok hy'.1.1).trans k1) ?_)
        cases e : kb τ p i with
        | none =>
          refine ifp rfl ?_
          rw [kb_n q hok e, nI_1]
          rfl
        | some m =>
          have hm := kb_lt e
          have pm := pfo_le τ m (tP τ)
          refine ifn (ltI_m (by omega)).1 ?_
          by_cases c : pfo τ i (tP τ) ≤ pfo τ m (tP τ)
          · refine ifp (nI_le c (by omega)) ?_
            rw [kb_k e c, nI_1]
          · refine ifn (nI_ge (by omega) (by omega)) ?_
            rw [kb_y q hok e (by omega), nI_1]
            rfl
    · have hy' := h.px hy
      refine ⟨y, ?_, hy⟩
      show f_X5_bestToKeep_b20 k T _ _ _ (nI (tF τ)) y = _
      unfold f_X5_bestToKeep_b20
      refine bnd (gI_ok hy'.1.1) ?_
      rw [hy'.2.1.1.1.1]
      exact ifp (nI_le (Nat.le_refl _) (by omega)) rfl
  obtain ⟨s', e1, e2⟩ := lp
  refine ⟨s', ?_, e2⟩
  unfold f_X5_bestToKeep
  refine bnd ((cV_ok h.1.1).trans (c_frs h.1 h.2.1.1 hok)) (bnd h.1.g10 (bnd (h.1.a3 (by omega)) ?_))
  rw [(h.2.1.1.2.2.1 p (by omega)).1]
  unfold nmv
  rw [bi_and]
  exact e1
theorem m_kb {B : Nat} {s : hS} {τ : Tw} (h : MT B s τ) {p : Nat} (hp : p < tP τ) : ∃ s', f_X7_keepsBack s (B + 66) (nI p) = some (noneOr (ltI (kb τ p (tF τ))), s') ∧ Sx (WX B) s s' := by
  have hok := h.2.2
  have b1 := hok.1.1
  have b2 := hok.1.2.1
  have lp : ∃ s', jL f_X7_keepsBack_b18 (fun _ _ _ _ _ _ => none) jF (B + 66) (nI p) (-1) 0 0 s = some (noneOr (ltI (kb τ p (tF τ))), s') ∧ Sx (WX B) s s' := by
    refine jL_ex (F := f_X7_keepsBack_b18) (z := fun _ _ _ _ _ _ => none) (fun (k : kk4) i (y : hS) => k (B + 66) (nI p) (ltI (kb τ p i)) (kv0 τ (kb τ p i)) (nI i) y) (tF τ) (fun i y => Sx (WX B) s y) (fun r => ∃ s', r = some (noneOr (ltI (kb τ p (tF τ))), s') ∧ Sx (WX B) s s') (fun i hi y hy k => Or.inl ?_) (fun y hy k => ?_) jF 0 s (Nat.zero_le _) (jF_lt (by omega)) (Sx.rf _ s)
    · have hy' := h.wx hy
      show ∃ x', Sx (WX B) s x' ∧ f_X7_keepsBack_b18 k (B + 66) (nI p) (ltI (kb τ p i)) (kv0 τ (kb τ p i)) (nI i) y = k (B + 66) (nI p) (ltI (kb τ p (i + 1))) (kv0 τ (kb τ p (i + 1))) (nI (i + 1)) x'
      unfold f_X7_keepsBack_b18 f_X7_keepsBack_b66 f_X7_keepsBack_b72 f_X7_keepsBack_b85 f_X7_keepsBack_b86
      cases q1 : pfr τ i
      · refine ⟨y, hy, bnd hy'.1.gn (bnd (hy'.1.an 1 rfl (by decide)) ?_)⟩
        rw [hy'.2.1.1.1]
        refine ifn (nI_ge hi (by omega)) (bnd ((cV_ok hy'.1.km).trans (m_fr1 hy'.1 hy'.2.1 hok hi)) (ifp (by rw [q1]; rfl) ?_))
        rw [kb_f (by unfold kS; rw [q1]; rfl), nI_1]
      cases q2 : pkn τ i p
      · refine ⟨y, hy, bnd hy'.1.gn (bnd (hy'.1.an 1 rfl (by decide)) ?_)⟩
        rw [hy'.2.1.1.1]
        refine ifn (nI_ge hi (by omega)) (bnd ((cV_ok hy'.1.km).trans (m_fr1 hy'.1 hy'.2.1 hok hi)) (ifn (by rw [q1]; exact one_ne) (bnd ((cV_ok hy'.1.km).trans (m_kn hy'.1 hy'.2.1 hok hp (by omega))) (ifp (by rw [q2]; rfl) ?_))))
        rw [kb_f (by unfold kS; rw [q1, q2]; rfl), nI_1]
      have q : kS τ p i = true := by unfold kS; rw [q1, q2]; rfl
      obtain ⟨y', k1, x1⟩ := m_pfo hy' hi
      have pl := pfo_le τ i (tP τ)
      refine ⟨y', hy.tr x1, bnd hy'.1.gn (bnd (hy'.1.an 1 rfl (by decide)) ?_)⟩
      rw [hy'.2.1.1.1]
      refine ifn (nI_ge hi (by omega)) (bnd ((cV_ok hy'.1.km).trans (m_fr1 hy'.1 hy'.2.1 hok hi)) (ifn (by rw [q1]; exact one_ne) (bnd ((cV_ok hy'.1.km).trans (m_kn hy'.1 hy'.2.1 hok hp (by omega))) (ifn (by rw [q2]; exact one_ne) (bnd ((cV_ok hy'.1.km).trans k1) ?_)))))
      cases e : kb τ p i with
      | none =>
        refine ifp (by decide) (ifp rfl ?_)
        rw [kb_n q hok e, nI_1]
        rfl
      | some m =>
        have hm := kb_lt e
        have pm := pfo_le τ m (tP τ)
        refine ifn (ltI_m (by omega)).2.1 ?_
        by_cases c : pfo τ i (tP τ) ≤ pfo τ m (tP τ)
        · refine ifp (nI_le c (by omega)) (ifn (fun z => ?_) ?_)
          · have := (nI_eq (by omega) (by omega)).mp (show nI m = nI i from z)
            omega
          · rw [kb_k e c, nI_1]
        · refine ifn (nI_ge (by omega) (by omega)) (ifp rfl ?_)
          rw [kb_y q hok e (by omega), nI_1]
          rfl
    · have hy' := h.wx hy
      refine ⟨y, ?_, hy⟩
      show f_X7_keepsBack_b18 k (B + 66) _ _ _ (nI (tF τ)) y = _
      unfold f_X7_keepsBack_b18
      refine bnd hy'.1.gn (bnd (hy'.1.an 1 rfl (by decide)) ?_)
      rw [hy'.2.1.1.1]
      exact ifp (nI_le (Nat.le_refl _) (by omega)) (bnd (m_told y (noneI (fun m hm => by have := kb_lt hm; omega))) rfl)
  obtain ⟨s', e1, e2⟩ := lp
  refine ⟨s', ?_, e2⟩
  unfold f_X7_keepsBack
  exact bnd ((cV_ok h.1.km).trans (isP_in h.1 h.2.1 hok hp)) (ifn one_ne e1)
theorem stp_keepsBack (B : Nat) (a0 : Int32) : StpC B (fun s => f_X6_keepsBack s B a0) (fun s => f_X7_keepsBack s (B + 66) a0) := by
  refine stp_eval fun s nt τ h => ?_
  show ∃ v, (∃ s1, f_X6_keepsBack s B a0 = some (v, s1) ∧ Sx (PX B) s s1) ∧ ∀ t, MT B t τ → ∃ t2, f_X7_keepsBack t (B + 66) a0 = some (v, t2) ∧ Sx (WX B) t t2
  have L := h.1
  have hN := h.2.2.2.1.1
  have hok := h.2.2.1
  have b8 := hok.1.2.1
  have ix : (a0 < 0 ∨ nI (tP τ) ≤ a0) ∨ ∃ j : Nat, j < tP τ ∧ a0 = nI j := by
    rcases pk_ix a0 (n := tP τ) (by omega) with q | q | q
    · exact Or.inl (Or.inl q)
    · exact Or.inl (Or.inr q)
    · exact Or.inr q
  rcases ix with hb | ⟨p, hp, rfl⟩
  · refine ⟨-1000000001, ⟨s, ?_, Sx.rf _ s⟩, fun t ht => ⟨t, ?_, Sx.rf _ t⟩⟩
    · unfold f_X6_keepsBack
      exact bnd ((cV_ok L.kx).trans (noP_out L hN hb)) (ifn one_ne rfl)
    · unfold f_X7_keepsBack
      exact bnd ((cV_ok ht.1.km).trans (isP_out ht.1 ht.2.1 hok hb)) (ifp rfl rfl)
  obtain ⟨s1, k1, x1⟩ := c_kb h.ct hp
  refine ⟨noneOr (ltI (kb τ p (tF τ))), ⟨s1, ?_, x1⟩, fun t ht => m_kb ht hp⟩
  unfold f_X6_keepsBack
  exact bnd ((cV_ok L.kx).trans (noP_in L hN hok hp)) (ifp rfl (bnd L.gt (bnd ((cV_ok L.kt).trans k1) (bnd (c_orNone s1 _) rfl))))
/-! learning, as a step of towns -/
def lrn (τ : Tw) (p m : Nat) : Tw := upT τ 3 p (cl8 τ.1 (tR τ 3 p ||| m))
theorem or_lt {a b F : Nat} (ha : a < 2 ^ F) (hb : b < 2 ^ F) : a ||| b < 2 ^ F := Nat.or_lt_two_pow ha hb
theorem lrn_ok {τ : Tw} (h : TwOk τ) {p m : Nat} (hp : p < tP τ) (hm : m < 2 ^ tF τ) : TwOk (lrn τ p m) := h.r3 p _ (h.rl.lt (or_lt (h.p3 hp).2.2.1 hm)) (cl8_fix _ _)
theorem lrn_o (τ : Tw) (p m a k : Nat) (h : ¬ (a = 3 ∧ k = p)) : (lrn τ p m).1 a k = τ.1 a k := up_ne h
/-- the class's town with a number put -/
theorem CT.w {B nt T : Nat} {s : hS} {τ : Tw} (h : CT B nt T s τ) (r k w : Nat) (hr : wok r k) (hok : TwOk (upT τ r k w)) : CT B nt T (uI s (T + ci2 r) k (nI w)) (upT τ r k w) := ⟨h.1.u _ _ _, h.2.1.w h.2.2.2 r k w hr, hok, h.2.2.2⟩
theorem MT.w {B : Nat} {s : hS} {τ : Tw} (h : MT B s τ) (r k w : Nat) (hr : wok r k) (hok : TwOk (upT τ r k w)) : MT B (uI s (B + 67) (mi r k) (nI w)) (upT τ r k w) := ⟨h.1.u _ _ _, h.2.1.uw h.2.2.1.2.2.1 r k w hr, hok⟩
theorem c_lrn {B nt T : Nat} {s : hS} {τ : Tw} (h : CT B nt T s τ) {p m : Nat} (hp : p < tP τ) (hm : m < 2 ^ tF τ) : ∃ s', f_X5_learn s T (nI p) (nI m) = some ((), s') ∧ CT B nt T s' (lrn τ p m) ∧ Sx (TP B T) s s' := by
  have b2 := h.2.2.1.1.2.1
  exact ⟨_, c_learn h.1 h.2.1.1 h.2.2.1.rl (by omega) (h.2.2.1.p3 hp).2.2.1 hm, h.w 3 p _ (by unfold wok; omega) (lrn_ok h.2.2.1 hp hm), Sx.u s _ _ _ (TP.r 3 (by omega))⟩
theorem m_lrn {B : Nat} {s : hS} {τ : Tw} (h : MT B s τ) {p m : Nat} (hp : p < tP τ) (hm : m < 2 ^ tF τ) : ∃ s', f_X7_learns s (B + 66) (nI p) (nI m) = some ((), s') ∧ MT B s' (lrn τ p m) ∧ Sx (fun a => a = B + 67) s s' := by
  have b2 := h.2.2.1.2.1
  exact ⟨_, m_learn h.1 h.2.1 h.2.2.rl (by omega) (h.2.2.p3 hp).2.2.1 hm, h.w 3 p _ (by unfold wok; omega) (lrn_ok h.2.2 hp hm), Sx.u s _ _ _ rfl⟩
theorem TwOk.r05 {τ : Tw} (h : TwOk τ) (w : Nat) (hw : w ≤ 999) : TwOk (upT τ 0 5 w) := by
  obtain ⟨⟨q1, q2, q3, q4, q5, q6⟩, w1, w2, w3, w4, w5⟩ := h
  refine ⟨⟨q1, q2, q3, q4, q5, hw⟩, w1, fun p hp => ⟨(w2 p hp).1, (w2 p hp).2.1, ?_⟩, w3, w4, w5⟩
  rw [rlP_tf (by omega)]
  exact (w2 p hp).2.2
theorem Sx.pt {B T : Nat} {s t : hS} (h : Sx (PX B) s t) : Sx (TP B T) s t := h.mono (fun a ha => Or.inr ha)
/-- a step that moves the town: contracts over towns -/
theorem stp_move {B : Nat} {g6 g7 : hS → Option (Int32 × hS)} (h : ∀ s nt τ, InvT B s nt τ → ∃ v τ', tX τ' = tX τ ∧ τ'.2.2 = τ.2.2 ∧ (∃ s1, g6 s = some (v, s1) ∧ Sx (CP B) s s1 ∧ CT B nt (B + 1) s1 τ') ∧ ∀ t, MT B t τ → ∃ t2, g7 t = some (v, t2) ∧ Sx (MP B) t t2 ∧ MT B t2 τ') : StpC B g6 g7 := by
  refine stp_town fun s nt τ hi => ?_
  obtain ⟨v, τ', e1, e2, ⟨s1, k1, x1, c1⟩, hm⟩ := h s nt τ hi
  refine ⟨v, τ', e1, e2, c1.2.2.1, ⟨s1, k1, x1, c1.2.1.1⟩, fun t Lt Mt => ?_⟩
  obtain ⟨t2, k2, x2, m2⟩ := hm t ⟨Lt, Mt, hi.2.2.1⟩
  exact ⟨t2, k2, x2, m2.2.1⟩
theorem WX.mp {B a : Nat} (h : WX B a) : MP B a := by
  unfold WX at h
  unfold MP
  omega
theorem stp_find (B : Nat) (a0 a1 : Int32) : StpC B (fun s => f_X6_find s B a0 a1) (fun s => f_X7_find s (B + 66) a0 a1) := by
  refine stp_move fun s nt τ h => ?_
  show ∃ v τ', tX τ' = tX τ ∧ τ'.2.2 = τ.2.2 ∧ (∃ s1, f_X6_find s B a0 a1 = some (v, s1) ∧ Sx (CP B) s s1 ∧ CT B nt (B + 1) s1 τ') ∧ ∀ t, MT B t τ → ∃ t2, f_X7_find t (B + 66) a0 a1 = some (v, t2) ∧ Sx (MP B) t t2 ∧ MT B t2 τ'
  have L := h.1
  have hN := h.2.2.2.1.1
  have hok := h.2.2.1
  have b8 := hok.1.2.1
  have b16 := hok.1.1
  have Tl := L.tly 1 (Or.inl rfl)
  have same : ∀ v, (f_X6_find s B a0 a1 = some (v, s)) → (∀ t, MT B t τ → f_X7_find t (B + 66) a0 a1 = some (v, t)) → ∃ v τ', tX τ' = tX τ ∧ τ'.2.2 = τ.2.2 ∧ (∃ s1, f_X6_find s B a0 a1 = some (v, s1) ∧ Sx (CP B) s s1 ∧ CT B nt (B + 1) s1 τ') ∧ ∀ t, MT B t τ → ∃ t2, f_X7_find t (B + 66) a0 a1 = some (v, t2) ∧ Sx (MP B) t t2 ∧ MT B t2 τ' := fun v h6 h7 => ⟨v, τ, rfl, rfl, ⟨s, h6, Sx.rf _ s, h.ct⟩, fun t ht => ⟨t, h7 t ht, Sx.rf _ t, ht⟩⟩
  have ix : (a1 < 0 ∨ nI (tF τ) ≤ a1) ∨ ∃ j : Nat, j < tF τ ∧ a1 = nI j := by
    rcases pk_ix a1 (n := tF τ) (by omega) with q | q | q
    · exact Or.inl (Or.inl q)
    · exact Or.inl (Or.inr q)
    · exact Or.inr q
  have iy : (a0 < 0 ∨ nI (tP τ) ≤ a0) ∨ ∃ j : Nat, j < tP τ ∧ a0 = nI j := by
    rcases pk_ix a0 (n := tP τ) (by omega) with q | q | q
    · exact Or.inl (Or.inl q)
    · exact Or.inl (Or.inr q)
    · exact Or.inr q
  rcases iy with hb | ⟨p, hp, rfl⟩
  · refine same (-1000000001) ?_ (fun t ht => ?_)
    · unfold f_X6_find
      exact bnd ((cV_ok L.kx).trans (noP_out L hN hb)) (ifn one_ne rfl)
    · unfold f_X7_find
      exact bnd ((cV_ok ht.1.km).trans (isP_out ht.1 ht.2.1 hok hb)) (ifp rfl rfl)
  rcases ix with hb | ⟨f, hf, rfl⟩
  · refine same (-1000000001) ?_ (fun t ht => ?_)
    · unfold f_X6_find
      exact bnd ((cV_ok L.kx).trans (noP_in L hN hok hp)) (ifp rfl (bnd ((cV_ok L.kx).trans (noF_out L hN hb)) (ifn one_ne rfl)))
    · unfold f_X7_find
      exact bnd ((cV_ok ht.1.km).trans (isP_in ht.1 ht.2.1 hok hp)) (ifn one_ne (bnd ((cV_ok ht.1.km).trans (isF_out ht.1 ht.2.1 hok hb)) (ifp rfl rfl)))
  cases hk : pkn τ f p
  · have lb := lkf_b τ f
    have h99 := hok.1.2.2.2.2.2
    obtain ⟨w, hw⟩ : ∃ w, w = if tH τ + lkf τ f < 999 then tH τ + lkf τ f else 999 := ⟨_, rfl⟩
    have w9 : w ≤ 999 := by
      rw [hw]
      split <;> omega
    have ok5 := hok.r05 w w9
    have hm : 2 ^ f < 2 ^ tF (upT τ 0 5 w) := Nat.pow_lt_pow_right (by decide) hf
    have hv : (lrn (upT τ 0 5 w) p (2 ^ f)).1 0 5 = w := by
      rw [lrn_o _ _ _ _ _ (by omega), up_eq]
    refine ⟨nI w, lrn (upT τ 0 5 w) p (2 ^ f), rfl, rfl, ?_, fun t ht => ?_⟩
    · obtain ⟨s1, k1, x1⟩ := c_lkf h.ct hf
      have c1 := h.ct.px x1
      have L1 := L.sx x1
      have c2 := c1.w 0 5 w (by unfold wok; omega) ok5
      have L2 := L1.u (B + 1) 5 (nI w)
      obtain ⟨s3, k3, c3, x3⟩ := c_lrn c2 (p := p) hp hm
      have L3 := L2.sx x3
      have X1 : Sx (CP B) s s1 := x1.mono (fun a ha => Or.inr ha)
      have X2 : Sx (CP B) s1 (uI s1 (B + 1) 5 (nI w)) := Sx.u _ _ 5 (nI w) (TP.cp (T := B + 1) (Or.inl rfl) (TP.r 0 (by omega)))
      have X3 : Sx (CP B) (uI s1 (B + 1) 5 (nI w)) s3 := x3.mono (fun a ha => ha.cp (Or.inl rfl))
      refine ⟨s3, ?_, (X1.tr X2).tr X3, c3⟩
      unfold f_X6_find
      refine bnd ((cV_ok L.kx).trans (noP_in L hN hok hp)) (ifp rfl (bnd ((cV_ok L.kx).trans (noF_in L hN hok hf)) (ifp rfl (bnd L.gt (bnd ((cV_ok L.kt).trans (c_kn Tl hN hok hp (by omega))) (ifp (by rw [hk]; rfl) (bnd L.gt (bnd L.gt (bnd (gI_ok L.kt) (bnd L.gt (bnd ((cV_ok L.kt).trans k1) ?_)))))))))))
      rw [hN.1.2.2.2.2.2.1, nI_add]
      have ew : (if nI (tH τ + lkf τ f) < (999 : Int32) then nI (tH τ + lkf τ f) else (999 : Int32)) = nI w := by
        rw [hw]
        by_cases c : tH τ + lkf τ f < 999
        · rw [if_pos c]
          exact if_pos (nI_lt (b := 999) c (by decide))
        · rw [if_neg c]
          exact if_neg (nI_nlt (b := 999) (a := tH τ + lkf τ f) (by omega) (by omega))
      rw [ew, bi_one (by omega)]
      refine bnd (pI_ok L1.kt) (bnd L2.gt (bnd ((cV_ok L2.kt).trans k3) (bnd L3.gt (bnd (gI_ok L3.kt) ?_))))
      rw [c3.2.1.1.1.2.2.2.2.2.1]
      show some (nI ((lrn (upT τ 0 5 w) p (2 ^ f)).1 0 5), s3) = _
      rw [hv]
    · obtain ⟨t1, k1, x1⟩ := m_lkf ht hf
      have m1 := ht.wx x1
      have m2 := m1.w 0 5 w (by unfold wok; omega) ok5
      obtain ⟨t3, k3, m3, x3⟩ := m_lrn m2 (p := p) hp hm
      refine ⟨t3, ?_, ((x1.mono (fun a ha => ha.mp)).tr (Sx.u _ _ 5 (nI w) (Or.inl rfl))).tr (x3.mono (fun a ha => Or.inl ha)), m3⟩
      unfold f_X7_find
      refine bnd ((cV_ok ht.1.km).trans (isP_in ht.1 ht.2.1 hok hp)) (ifn one_ne (bnd ((cV_ok ht.1.km).trans (isF_in ht.1 ht.2.1 hok hf)) (ifn one_ne (bnd ((cV_ok ht.1.km).trans (m_kn ht.1 ht.2.1 hok hp (by omega))) (ifp (by rw [hk]; rfl) (bnd ht.1.gn (bnd ht.1.gn (bnd (ht.1.an 5 rfl (by decide)) (bnd ((cV_ok ht.1.km).trans k1) ?_)))))))))
      rw [ht.2.1.1.2.2.2.2.2.1, nI_add]
      have ew : cl 0 999 (nI (tH τ + lkf τ f)) = w := by
        rw [hw]
        by_cases c : tH τ + lkf τ f < 999
        · rw [if_pos c, cl_id 0 999 _ (by omega) (by omega) (by decide)]
        · rw [if_neg c]
          rcases cl_cases 0 999 (by decide) (by decide) (nI (tH τ + lkf τ f)) with ⟨z, e⟩ | ⟨z, z2, e⟩ | ⟨z, z1, z2, z3, e⟩
          · exact absurd z (nI_nlt (by omega) (by omega))
          · exact e
          · have := (nI_eq (by omega) (by omega)).mp z3
            rw [e]
            omega
      refine bnd (m_within t1 0 999 (by decide) (by decide) _) ?_
      rw [ew, bi_one (by omega)]
      refine bnd (m1.1.sn 5 rfl (by decide)) (bnd ((cV_ok m2.1.km).trans k3) (bnd m3.1.gn (bnd (m3.1.an 5 rfl (by decide)) ?_)))
      rw [m3.2.1.1.2.2.2.2.2.1]
      show some (nI ((lrn (upT τ 0 5 w) p (2 ^ f)).1 0 5), t3) = _
      rw [hv]
  · refine same (-1000000002) ?_ (fun t ht => ?_)
    · unfold f_X6_find
      exact bnd ((cV_ok L.kx).trans (noP_in L hN hok hp)) (ifp rfl (bnd ((cV_ok L.kx).trans (noF_in L hN hok hf)) (ifp rfl (bnd L.gt (bnd ((cV_ok L.kt).trans (c_kn Tl hN hok hp (by omega))) (ifn (by rw [hk]; exact one_ne) rfl))))))
    · unfold f_X7_find
      exact bnd ((cV_ok ht.1.km).trans (isP_in ht.1 ht.2.1 hok hp)) (ifn one_ne (bnd ((cV_ok ht.1.km).trans (isF_in ht.1 ht.2.1 hok hf)) (ifn one_ne (bnd ((cV_ok ht.1.km).trans (m_kn ht.1 ht.2.1 hok hp (by omega))) (ifn (by rw [hk]; exact one_ne) rfl)))))
