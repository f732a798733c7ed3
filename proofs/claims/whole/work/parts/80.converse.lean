/-! talks that go -/
def ob : Option Nat → Nat
  | none => 0
  | some f => 2 ^ f
def chn (τ : Tw) (q : Nat) : Nat := if q + 1 < tP τ then q + 1 else 0
def cv3 (τ : Tw) (kind p q m1 m2 : Nat) : Tw := if kind = 3 then lrn (lrn (lrn τ q m1) p m2) (chn τ q) m1 else lrn (lrn τ q m1) p m2
def cv5 (τ : Tw) (kind p q : Nat) : Tw := if kind = 5 then lrn (lrn τ p (tR τ 3 q)) q (tR (lrn τ p (tR τ 3 q)) 3 p) else τ
def cvT (τ : Tw) (kind p q : Nat) : Tw := sdT (cv5 (cv3 τ kind p q (ob (gvn τ kind p q)) (ob (got τ kind p q))) kind p q) (τ.2.1.1 + 1)
def cvG (τ : Tw) (kind p q : Nat) : Tw := if gos τ kind p q = true then cvT τ kind p q else τ
/-- only what is known, the hour and what was said may differ -/
def Kp (τ τ' : Tw) : Prop := (∀ a k, a ≠ 3 → ¬ (a = 0 ∧ k = 5) → τ'.1 a k = τ.1 a k) ∧ τ'.2.2 = τ.2.2
theorem Kp.rf (τ : Tw) : Kp τ τ := ⟨fun _ _ _ _ => rfl, rfl⟩
theorem Kp.tr {τ σ υ : Tw} (h : Kp τ σ) (h2 : Kp σ υ) : Kp τ υ := ⟨fun a k h1 h3 => (h2.1 a k h1 h3).trans (h.1 a k h1 h3), h2.2.trans h.2⟩
theorem Kp.l (τ : Tw) (p m : Nat) : Kp τ (lrn τ p m) := ⟨fun a k h1 _ => lrn_o τ p m a k (by omega), rfl⟩
theorem Kp.sd (τ : Tw) (x : Int32) : Kp τ (sdT τ x) := ⟨fun _ _ _ _ => rfl, rfl⟩
theorem Kp.h (τ : Tw) (w : Nat) : Kp τ (upT τ 0 5 w) := ⟨fun a k _ h2 => up_ne (by omega), rfl⟩
theorem Kp.x {τ τ' : Tw} (h : Kp τ τ') : tX τ' = tX τ := h.1 0 4 (by omega) (by omega)
theorem Kp.f {τ τ' : Tw} (h : Kp τ τ') : tF τ' = tF τ := h.1 0 0 (by omega) (by omega)
theorem Kp.p {τ τ' : Tw} (h : Kp τ τ') : tP τ' = tP τ := h.1 0 1 (by omega) (by omega)
theorem Kp.k {τ τ' : Tw} (h : Kp τ τ') : tK τ' = tK τ := h.1 0 3 (by omega) (by omega)
theorem cv3_k (τ : Tw) (kind p q m1 m2 : Nat) : Kp τ (cv3 τ kind p q m1 m2) := by
  unfold cv3
  split
  · exact ((Kp.l _ _ _).tr (Kp.l _ _ _)).tr (Kp.l _ _ _)
  · exact (Kp.l _ _ _).tr (Kp.l _ _ _)
theorem cv5_k (τ : Tw) (kind p q : Nat) : Kp τ (cv5 τ kind p q) := by
  unfold cv5
  split
  · exact (Kp.l _ _ _).tr (Kp.l _ _ _)
  · exact Kp.rf τ
theorem cvG_k (τ : Tw) (kind p q : Nat) : Kp τ (cvG τ kind p q) := by
  unfold cvG cvT
  split
  · exact ((cv3_k _ _ _ _ _ _).tr (cv5_k _ _ _ _)).tr (Kp.sd _ _)
  · exact Kp.rf τ
theorem cv3_s (τ : Tw) (kind p q m1 m2 : Nat) : (cv3 τ kind p q m1 m2).2.1 = τ.2.1 := by
  unfold cv3
  split <;> rfl
theorem cv5_s (τ : Tw) (kind p q : Nat) : (cv5 τ kind p q).2.1 = τ.2.1 := by
  unfold cv5
  split <;> rfl
theorem cvG_h (τ : Tw) (kind p q : Nat) : tH (cvG τ kind p q) = tH τ := by
  have a1 : ∀ m1 m2, tH (cv3 τ kind p q m1 m2) = tH τ := fun m1 m2 => by
    unfold cv3
    split <;> rfl
  have a2 : ∀ σ, tH (cv5 σ kind p q) = tH σ := fun σ => by
    unfold cv5
    split <;> rfl
  unfold cvG cvT
  split
  · exact (a2 _).trans (a1 _ _)
  · rfl
theorem CT.sd {B nt T : Nat} {s : hS} {τ : Tw} (h : CT B nt T s τ) (x : Int32) : CT B nt T (uI s T 6 x) (sdT τ x) := ⟨h.1.u _ _ _, h.2.1.tx h.2.2.2 (Sx.u s T 6 x (TP.r 0 (by omega))) rfl rfl (h.2.1.1.sd x), h.2.2.1, h.2.2.2⟩
theorem MT.sd {B : Nat} {s : hS} {τ : Tw} (h : MT B s τ) (x : Int32) : MT B (uI s (B + 67) 6 x) (sdT τ x) := ⟨h.1.u _ _ _, h.2.1.sd x, h.2.2⟩
theorem c_126 {B nt T : Nat} {s : hS} {τ : Tw} (h : CT B nt T s τ) : ∃ s', f_X5_converse_b126 T s = some (1, s') ∧ CT B nt T s' (sdT τ (τ.2.1.1 + 1)) ∧ Sx (TP B T) s s' := by
  refine ⟨uI s T 6 (τ.2.1.1 + 1), ?_, h.sd _, Sx.u s T 6 _ (TP.r 0 (by omega))⟩
  unfold f_X5_converse_b126
  refine bnd (gI_ok h.1.1) ?_
  rw [h.2.1.1.1.2.2.2.2.2.2.1]
  exact bnd (pI_ok h.1.1) rfl
theorem o5 {kind : Nat} (hk : kind < 6) : okk kind 5 = decide (kind = 5) := by
  have : kind = 0 ∨ kind = 1 ∨ kind = 2 ∨ kind = 3 ∨ kind = 4 ∨ kind = 5 := by omega
  rcases this with rfl | rfl | rfl | rfl | rfl | rfl <;> rfl
theorem o3 {kind : Nat} (hk : kind < 6) : okk kind 3 = decide (kind = 3) := by
  have : kind = 0 ∨ kind = 1 ∨ kind = 2 ∨ kind = 3 ∨ kind = 4 ∨ kind = 5 := by omega
  rcases this with rfl | rfl | rfl | rfl | rfl | rfl <;> rfl
theorem c_96 {B nt T : Nat} {s : hS} {τ : Tw} (h : CT B nt T s τ) {kind p q : Nat} (hk : kind < 6) (hp : p < tP τ) (hq : q < tP τ) : ∃ s', f_X5_converse_b96 T (nI kind) (nI p) (nI q) s = some (1, s') ∧ CT B nt T s' (sdT (cv5 τ kind p q) (τ.2.1.1 + 1)) ∧ Sx (TP B T) s s' := by
  have b2 := h.2.2.1.1.2.1
  unfold f_X5_converse_b96
  by_cases c : kind = 5
  · obtain ⟨s1, k1, c1, x1⟩ := c_lrn h (p := p) (m := tR τ 3 q) hp (h.2.2.1.p3 hq).2.2.1
    obtain ⟨s2, k2, c2, x2⟩ := c_lrn c1 (p := q) (m := tR (lrn τ p (tR τ 3 q)) 3 p) hq (c1.2.2.1.p3 (p := p) hp).2.2.1
    obtain ⟨s3, k3, c3, x3⟩ := c_126 c2
    refine ⟨s3, ?_, ?_, (x1.tr x2).tr x3⟩
    · refine bnd (kind6 s kind 5 hk (by decide)) (ifn (by rw [okI, o5 hk, decide_eq_true c]; exact one_ne) (bnd h.1.g10 (bnd (h.1.a3 (by omega)) ?_)))
      rw [(h.2.1.1.2.2.1 q (by omega)).1]
      refine bnd ((cV_ok h.1.1).trans k1) (bnd c1.1.g10 (bnd (c1.1.a3 (by omega)) ?_))
      rw [(c1.2.1.1.2.2.1 p (by omega)).1]
      exact bnd ((cV_ok c1.1.1).trans k2) k3
    · unfold cv5
      rw [if_pos c]
      exact c3
  · obtain ⟨s3, k3, c3, x3⟩ := c_126 h
    refine ⟨s3, ?_, ?_, x3⟩
    · exact bnd (kind6 s kind 5 hk (by decide)) (ifp (by rw [okI, o5 hk, decide_eq_false c]; rfl) k3)
    · unfold cv5
      rw [if_neg c]
      exact c3
theorem chn_lt {τ : Tw} {q : Nat} (hq : q < tP τ) : chn τ q < tP τ := by
  unfold chn
  split <;> omega
theorem c_47 {B nt T : Nat} {s : hS} {τ : Tw} (h : CT B nt T s τ) {kind p q g m1 : Nat} (hk : kind < 6) (hp : p < tP τ) (hq : q < tP τ) (hg : g < tF τ) (hm : m1 < 2 ^ tF τ) : ∃ s', f_X5_converse_b47 T (nI kind) (nI p) (nI q) (nI g) (nI m1) s = some (1, s') ∧ CT B nt T s' (sdT (cv5 (cv3 τ kind p q m1 (2 ^ g)) kind p q) (τ.2.1.1 + 1)) ∧ Sx (TP B T) s s' := by
  have b1 := h.2.2.1.1.1
  have b2 := h.2.2.1.1.2.1
  have hg2 : 2 ^ g < 2 ^ tF τ := Nat.pow_lt_pow_right (by decide) hg
  obtain ⟨s1, k1, c1, x1⟩ := c_lrn h (p := q) (m := m1) hq hm
  obtain ⟨s2, k2, c2, x2⟩ := c_lrn c1 (p := p) (m := 2 ^ g) hp hg2
  unfold f_X5_converse_b47 f_X5_converse_b91
  by_cases c : kind = 3
  · obtain ⟨s3, k3, c3, x3⟩ := c_lrn c2 (p := chn τ q) (m := m1) (chn_lt hq) hm
    obtain ⟨s4, k4, c4, x4⟩ := c_96 c3 hk (p := p) (q := q) hp hq
    refine ⟨s4, ?_, ?_, ((x1.tr x2).tr x3).tr x4⟩
    · refine bnd ((cV_ok h.1.1).trans k1) ?_
      rw [bi_one (by omega)]
      refine bnd ((cV_ok c1.1.1).trans k2) (bnd (kind6 s2 kind 3 hk (by decide)) (ifn (by rw [okI, o3 hk, decide_eq_true c]; exact one_ne) (bnd (gI_ok c2.1.1) ?_)))
      rw [c2.2.1.1.1.2.1, nI_1]
      show (if nI (tP τ) ≤ nI (q + 1) then _ else _) = _
      unfold chn at k3
      by_cases e : q + 1 < tP τ
      · rw [if_pos e] at k3
        exact ifn (nI_ge e (by omega)) (bnd ((cV_ok c2.1.1).trans k3) k4)
      · rw [if_neg e] at k3
        exact ifp (nI_le (by omega) (by omega)) (bnd ((cV_ok c2.1.1).trans k3) k4)
    · unfold cv3
      rw [if_pos c]
      exact c4
  · obtain ⟨s4, k4, c4, x4⟩ := c_96 c2 hk (p := p) (q := q) hp hq
    refine ⟨s4, ?_, ?_, (x1.tr x2).tr x4⟩
    · refine bnd ((cV_ok h.1.1).trans k1) ?_
      rw [bi_one (by omega)]
      exact bnd ((cV_ok c1.1.1).trans k2) (bnd (kind6 s2 kind 3 hk (by decide)) (ifp (by rw [okI, o3 hk, decide_eq_false c]; rfl) k4))
    · unfold cv3
      rw [if_neg c]
      exact c4
theorem ob_lt {τ : Tw} {o : Option Nat} (h : ∀ m, o = some m → m < tF τ) : ob o < 2 ^ tF τ := by
  cases e : o with
  | none => exact Nat.two_pow_pos _
  | some f => exact Nat.pow_lt_pow_right (by decide) (h f e)
theorem gos_c {τ : Tw} {kind p q : Nat} (h : gos τ kind p q = true) : ∃ m, got τ kind p q = some m := by
  unfold gos at h
  cases e : got τ kind p q with
  | none => rw [e] at h; cases h
  | some m => exact ⟨m, rfl⟩
theorem c_conv {B nt T : Nat} {s : hS} {τ : Tw} (h : CT B nt T s τ) {kind p q : Nat} (hk : kind < 6) (hp : p < tP τ) (hq : q < tP τ) : ∃ s', f_X5_converse s T (nI kind) (nI p) (nI q) = some (bI (gos τ kind p q), s') ∧ CT B nt T s' (cvG τ kind p q) ∧ Sx (TP B T) s s' := by
  have b1 := h.2.2.1.1.1
  obtain ⟨s1, k1, x1⟩ := c_gvn h hk hp hq
  have h1 := h.px x1
  obtain ⟨s2, k2, x2⟩ := c_got h1 hk hp hq
  have h2 := h1.px x2
  have k3 := c_gos (s := s2) (p := p) (q := q) h.2.2.1 hk
  unfold f_X5_converse cvG
  cases e : gos τ kind p q
  · rw [e] at k3
    refine ⟨s2, bnd ((cV_ok h.1.1).trans k1) (bnd ((cV_ok h1.1.1).trans k2) (bnd k3 (ifp rfl rfl))), ?_, x1.pt.tr x2.pt⟩
    rw [if_neg (by decide)]
    exact h2
  · rw [e] at k3
    obtain ⟨m, em⟩ := gos_c e
    have hm := got_lt em
    have hol : ob (gvn τ kind p q) < 2 ^ tF τ := ob_lt (fun m h => gvn_lt h)
    obtain ⟨s3, k4, c3, x3⟩ := c_47 h2 hk hp hq hm hol
    refine ⟨s3, ?_, ?_, (x1.pt.tr x2.pt).tr x3⟩
    · refine bnd ((cV_ok h.1.1).trans k1) (bnd ((cV_ok h1.1.1).trans k2) (bnd k3 (ifn one_ne ?_)))
      rw [em]
      cases e2 : gvn τ kind p q with
      | none =>
        rw [e2] at k4
        exact ifp rfl k4
      | some g =>
        have hg := gvn_lt e2
        rw [e2] at k4
        refine ifn (ltI_m (by omega)).1 ?_
        show f_X5_converse_b47 T (nI kind) (nI p) (nI q) (nI m) ((1 : Int32) <<< (nI g &&& 31)) s2 = _
        rw [bi_one (by omega)]
        exact k4
    · rw [if_pos rfl]
      unfold cvT
      rw [em]
      exact c3
/-! the reference's -/
def MZ (B a : Nat) : Prop := a = B + 67 ∨ a = B + 78 ∨ a = B + 79
theorem MZ.mp {B a : Nat} (h : MZ B a) : MP B a := by
  unfold MZ at h
  unfold MP
  omega
theorem Sx.wq {B : Nat} {s t : hS} (h : Sx (WX B) s t) : Sx (MZ B) s t := h.mono (fun a ha => by unfold WX at ha; unfold MZ; omega)
theorem Sx.q67 {B : Nat} {s t : hS} (h : Sx (fun a => a = B + 67) s t) : Sx (MZ B) s t := h.mono (fun a ha => Or.inl ha)
theorem m_111 {B : Nat} {s : hS} {τ : Tw} (h : MT B s τ) : ∃ s', f_X7_goes_b111 (B + 66) s = some (1, s') ∧ MT B s' (sdT τ (τ.2.1.1 + 1)) ∧ Sx (MZ B) s s' := by
  refine ⟨uI s (B + 67) 6 (τ.2.1.1 + 1), ?_, h.sd _, Sx.u s _ 6 _ (Or.inl rfl)⟩
  unfold f_X7_goes_b111
  refine bnd h.1.gn (bnd (h.1.an 6 rfl (by decide)) ?_)
  rw [h.2.1.1.2.2.2.2.2.2.1]
  exact bnd (h.1.sn 6 rfl (by decide)) rfl
theorem or_ab (a b : Nat) : a ||| (a ||| b) = a ||| b := by
  rw [← Nat.or_assoc, Nat.or_self]
theorem or_ba (a b : Nat) : b ||| (a ||| b) = a ||| b := by
  rw [Nat.or_comm b, Nat.or_assoc, Nat.or_self]
theorem or_sub {a b : Nat} (h : sub a b) : a ||| b = b := sub_an (sub_or h (sub_rf b)) (sub_or2 a b)
theorem lrn_wide (τ : Tw) {p q : Nat} (hne : p ≠ q) : lrn (lrn τ p (tR τ 3 p ||| tR τ 3 q)) q (tR τ 3 p ||| tR τ 3 q) = lrn (lrn τ p (tR τ 3 q)) q (tR (lrn τ p (tR τ 3 q)) 3 p) := by
  have e1 : lrn τ p (tR τ 3 p ||| tR τ 3 q) = lrn τ p (tR τ 3 q) := by
    unfold lrn
    rw [or_ab]
  rw [e1]
  have e2 : tR (lrn τ p (tR τ 3 q)) 3 p = cl8 τ.1 (tR τ 3 p ||| tR τ 3 q) := up_eq _ _ _ _
  have e3 : tR (lrn τ p (tR τ 3 q)) 3 q = tR τ 3 q := lrn_o _ _ _ _ _ (by omega)
  have e4 : ∀ x, cl8 (lrn τ p (tR τ 3 q)).1 x = cl8 τ.1 x := fun x => cl8_up (by omega) x
  rw [e2]
  have l1 : lrn (lrn τ p (tR τ 3 q)) q (tR τ 3 p ||| tR τ 3 q) = upT (lrn τ p (tR τ 3 q)) 3 q (cl8 τ.1 (tR τ 3 p ||| tR τ 3 q)) := by
    unfold lrn at e3 e4 ⊢
    rw [e3, e4, or_ba]
  have l2 : lrn (lrn τ p (tR τ 3 q)) q (cl8 τ.1 (tR τ 3 p ||| tR τ 3 q)) = upT (lrn τ p (tR τ 3 q)) 3 q (cl8 τ.1 (tR τ 3 p ||| tR τ 3 q)) := by
    unfold lrn at e3 e4 ⊢
    rw [e3, e4, or_sub (sub_tr (sub_or2 _ _) (cl8_sub τ.1 (tR τ 3 p ||| tR τ 3 q))), cl8_id (cl8_fix _ _)]
  rw [l1, l2]
theorem m_79 {B : Nat} {s : hS} {τ : Tw} (h : MT B s τ) {kind p q : Nat} (hk : kind < 6) (hp : p < tP τ) (hq : q < tP τ) (hne : p ≠ q) : ∃ s', f_X7_goes_b79 (B + 66) (nI kind) (nI p) (nI q) s = some (1, s') ∧ MT B s' (sdT (cv5 τ kind p q) (τ.2.1.1 + 1)) ∧ Sx (MZ B) s s' := by
  have b2 := h.2.2.1.2.1
  unfold f_X7_goes_b79
  by_cases c : kind = 5
  · have hb := or_lt (h.2.2.p3 hp).2.2.1 (h.2.2.p3 hq).2.2.1
    obtain ⟨s1, k1, c1, x1⟩ := m_lrn h (p := p) (m := tR τ 3 p ||| tR τ 3 q) hp hb
    obtain ⟨s2, k2, c2, x2⟩ := m_lrn c1 (p := q) (m := tR τ 3 p ||| tR τ 3 q) hq hb
    rw [lrn_wide τ hne] at c2
    obtain ⟨s3, k3, c3, x3⟩ := m_111 c2
    refine ⟨s3, ?_, ?_, (x1.q67.tr x2.q67).tr x3⟩
    · refine ifp (by rw [c]; rfl) (bnd ((cV_ok h.1.km).trans (m_kt h.1 h.2.1 (by omega))) (bnd ((cV_ok h.1.km).trans (m_kt h.1 h.2.1 (by omega))) ?_))
      unfold nmv
      show ((cV s (B + 66) 7 (f_X7_learns s (B + 66) (nI p) (nI (tR τ 3 p) ||| nI (tR τ 3 q)))).bind fun p4 => (cV p4.2 (B + 66) 7 (f_X7_learns p4.2 (B + 66) (nI q) (nI (tR τ 3 p) ||| nI (tR τ 3 q)))).bind fun p5 => f_X7_goes_b111 (B + 66) p5.2) = _
      rw [bi_or]
      exact bnd ((cV_ok h.1.km).trans k1) (bnd ((cV_ok c1.1.km).trans k2) k3)
    · unfold cv5
      rw [if_pos c]
      exact c3
  · obtain ⟨s3, k3, c3, x3⟩ := m_111 h
    refine ⟨s3, ifn (fun e => c ((nI_eq (b := 5) (by omega) (by decide)).mp e)) k3, ?_, x3⟩
    unfold cv5
    rw [if_neg c]
    exact c3
theorem m_bit (s : hS) {o : Option Nat} (h : ∀ m, o = some m → m < 32) : f_X7_asBit s (ltI o) = some (nI (ob o), s) := by
  unfold f_X7_asBit
  cases e : o with
  | none => exact ifn (by decide) rfl
  | some f =>
    have hf := h f e
    refine ifp (ltI_m (by omega)).2.2 ?_
    show some ((1 : Int32) <<< (nI f &&& 31), s) = _
    rw [bi_one hf]
    rfl
theorem m_35 {B : Nat} {s : hS} {τ : Tw} (h : MT B s τ) {kind p q : Nat} {o1 o2 : Option Nat} (hk : kind < 6) (hp : p < tP τ) (hq : q < tP τ) (hne : p ≠ q) (h1 : ∀ m, o1 = some m → m < tF τ) (h2 : ∀ m, o2 = some m → m < tF τ) : ∃ s', f_X7_goes_b35 (B + 66) (nI kind) (nI p) (nI q) (ltI o1) (ltI o2) s = some (1, s') ∧ MT B s' (sdT (cv5 (cv3 τ kind p q (ob o1) (ob o2)) kind p q) (τ.2.1.1 + 1)) ∧ Sx (MZ B) s s' := by
  have b1 := h.2.2.1.1
  have b2 := h.2.2.1.2.1
  have l1 : ob o1 < 2 ^ tF τ := ob_lt h1
  have l2 : ob o2 < 2 ^ tF τ := ob_lt h2
  have h1' : ∀ m, o1 = some m → m < 32 := fun m e => by have := h1 m e; omega
  have h2' : ∀ m, o2 = some m → m < 32 := fun m e => by have := h2 m e; omega
  obtain ⟨s1, k1, c1, x1⟩ := m_lrn h (p := q) (m := ob o1) hq l1
  obtain ⟨s2, k2, c2, x2⟩ := m_lrn c1 (p := p) (m := ob o2) hp l2
  unfold f_X7_goes_b35
  by_cases c : kind = 3
  · obtain ⟨s3, k3, c3, x3⟩ := m_lrn c2 (p := chn τ q) (m := ob o1) (chn_lt hq) l1
    obtain ⟨s4, k4, c4, x4⟩ := m_79 c3 hk (p := p) (q := q) hp hq hne
    refine ⟨s4, ?_, ?_, ((x1.q67.tr x2.q67).tr x3.q67).tr x4⟩
    · refine bnd (m_bit s h1') (bnd ((cV_ok h.1.km).trans k1) (bnd (m_bit s1 h2') (bnd ((cV_ok c1.1.km).trans k2) (ifp (by rw [c]; rfl) (bnd c2.1.gn (bnd (c2.1.an 2 rfl (by decide)) ?_))))))
      rw [c2.2.1.1.2.1]
      refine ifn (nI_ne0 (n := tP τ) (by omega) (by omega)) (bnd (m_bit s2 h1') ?_)
      have e : nI q + 1 - (nI q + 1) / nI (tP τ) * nI (tP τ) = nI (chn τ q) := by
        rw [nI_1, pk_rem (by omega) (by omega) (by omega)]
        unfold chn
        by_cases c9 : q + 1 < tP τ
        · rw [if_pos c9, Nat.mod_eq_of_lt c9]
        · rw [if_neg c9, show q + 1 = tP τ by omega, Nat.mod_self]
      show ((cV s2 (B + 66) 7 (f_X7_learns s2 (B + 66) (nI q + 1 - (nI q + 1) / nI (tP τ) * nI (tP τ)) (nI (ob o1)))).bind fun p8 => f_X7_goes_b79 (B + 66) (nI kind) (nI p) (nI q) p8.2) = _
      rw [e]
      exact bnd ((cV_ok c2.1.km).trans k3) k4
    · unfold cv3
      rw [if_pos c]
      exact c4
  · obtain ⟨s4, k4, c4, x4⟩ := m_79 c2 hk (p := p) (q := q) hp hq hne
    refine ⟨s4, bnd (m_bit s h1') (bnd ((cV_ok h.1.km).trans k1) (bnd (m_bit s1 h2') (bnd ((cV_ok c1.1.km).trans k2) (ifn (fun e => c ((nI_eq (b := 3) (by omega) (by decide)).mp e)) k4)))), ?_, (x1.q67.tr x2.q67).tr x4⟩
    unfold cv3
    rw [if_neg c]
    exact c4
theorem m_goes {B : Nat} {s : hS} {τ : Tw} (h : MT B s τ) {kind p q : Nat} (hk : kind < 6) (hp : p < tP τ) (hq : q < tP τ) (hne : p ≠ q) : ∃ s', f_X7_goes s (B + 66) (nI kind) (nI p) (nI q) = some (bI (gos τ kind p q), s') ∧ MT B s' (cvG τ kind p q) ∧ Sx (MZ B) s s' := by
  have b1 := h.2.2.1.1
  obtain ⟨s1, k1, x1⟩ := m_gvn h hk hp hq
  have h1 := h.wx x1
  obtain ⟨s2, k2, x2⟩ := m_got h1 hk hp hq
  have h2 := h1.wx x2
  obtain ⟨s3, k3, c3, x3⟩ := m_35 h2 (o1 := gvn τ kind p q) (o2 := got τ kind p q) hk hp hq hne (fun m e => gvn_lt e) (fun m e => got_lt e)
  unfold f_X7_goes cvG cvT
  have no : gos τ kind p q = false → ∃ s', some ((0 : Int32), s2) = some (bI (gos τ kind p q), s') ∧ MT B s' (if gos τ kind p q = true then sdT (cv5 (cv3 τ kind p q (ob (gvn τ kind p q)) (ob (got τ kind p q))) kind p q) (τ.2.1.1 + 1) else τ) ∧ Sx (MZ B) s s' := fun e => by
    rw [e]
    exact ⟨s2, rfl, h2, x1.wq.tr x2.wq⟩
  have yes : gos τ kind p q = true → ∃ s', f_X7_goes_b35 (B + 66) (nI kind) (nI p) (nI q) (ltI (gvn τ kind p q)) (ltI (got τ kind p q)) s2 = some (bI (gos τ kind p q), s') ∧ MT B s' (if gos τ kind p q = true then sdT (cv5 (cv3 τ kind p q (ob (gvn τ kind p q)) (ob (got τ kind p q))) kind p q) (τ.2.1.1 + 1) else τ) ∧ Sx (MZ B) s s' := fun e => by
    rw [e]
    exact ⟨s3, k3, c3, (x1.wq.tr x2.wq).tr x3⟩
  have go : ∀ {X : Option (Int32 × hS)}, (∀ r, X = r → (cV s (B + 66) 7 (f_X7_givenBy s (B + 66) (nI kind) (nI p) (nI q))).bind (fun p1 => (cV p1.2 (B + 66) 7 (f_X7_gotBy p1.2 (B + 66) (nI kind) (nI p) (nI q))).bind fun p2 => if p2.1 < 0 then some ((0 : Int32), p2.2) else if 0 ≤ p1.1 then f_X7_goes_b35 (B + 66) (nI kind) (nI p) (nI q) p1.1 p2.1 p2.2 else if nI kind = (4 : Int32) then f_X7_goes_b35 (B + 66) (nI kind) (nI p) (nI q) p1.1 p2.1 p2.2 else some ((0 : Int32), p2.2)) = r) → (∃ s', X = some (bI (gos τ kind p q), s') ∧ MT B s' (if gos τ kind p q = true then sdT (cv5 (cv3 τ kind p q (ob (gvn τ kind p q)) (ob (got τ kind p q))) kind p q) (τ.2.1.1 + 1) else τ) ∧ Sx (MZ B) s s') → ∃ s', (cV s (B + 66) 7 (f_X7_givenBy s (B + 66) (nI kind) (nI p) (nI q))).bind (fun p1 => (cV p1.2 (B + 66) 7 (f_X7_gotBy p1.2 (B + 66) (nI kind) (nI p) (nI q))).bind fun p2 => if p2.1 < 0 then some ((0 : Int32), p2.2) else if 0 ≤ p1.1 then f_X7_goes_b35 (B + 66) (nI kind) (nI p) (nI q) p1.1 p2.1 p2.2 else if nI kind = (4 : Int32) then f_X7_goes_b35 (B + 66) (nI kind) (nI p) (nI q) p1.1 p2.1 p2.2 else some ((0 : Int32), p2.2)) = some (bI (gos τ kind p q), s') ∧ MT B s' (if gos τ kind p q = true then sdT (cv5 (cv3 τ kind p q (ob (gvn τ kind p q)) (ob (got τ kind p q))) kind p q) (τ.2.1.1 + 1) else τ) ∧ Sx (MZ B) s s' := by
    intro X hX hE
    obtain ⟨s', e1, e2, e3⟩ := hE
    exact ⟨s', hX _ e1, e2, e3⟩
  cases eg : got τ kind p q with
  | none =>
    have gf : gos τ kind p q = false := by unfold gos; rw [eg]; rfl
    rw [← eg]
    refine go (fun r hr => bnd ((cV_ok h.1.km).trans k1) (bnd ((cV_ok h1.1.km).trans k2) (ifp ?_ hr))) (no gf)
    show ltI (got τ kind p q) < 0
    rw [eg]
    decide
  | some m =>
    have hm := got_lt eg
    have n1 : ¬ ltI (got τ kind p q) < 0 := by rw [eg]; exact (ltI_m (by omega)).2.1
    rw [← eg]
    cases ev : gvn τ kind p q with
    | none =>
      have n2 : ¬ 0 ≤ ltI (gvn τ kind p q) := by rw [ev]; decide
      rw [← ev]
      by_cases c : kind = 4
      · have gt : gos τ kind p q = true := by unfold gos; rw [eg, decide_eq_true c, Bool.or_true]; rfl
        exact go (fun r hr => bnd ((cV_ok h.1.km).trans k1) (bnd ((cV_ok h1.1.km).trans k2) (ifn n1 (ifn n2 (ifp (by rw [c]; rfl) hr))))) (yes gt)
      · have gf : gos τ kind p q = false := by unfold gos; rw [eg, ev, decide_eq_false c]; rfl
        exact go (fun r hr => bnd ((cV_ok h.1.km).trans k1) (bnd ((cV_ok h1.1.km).trans k2) (ifn n1 (ifn n2 (ifn (fun e => c ((nI_eq (b := 4) (by omega) (by decide)).mp e)) hr))))) (no gf)
    | some g =>
      have hg := gvn_lt ev
      have n2 : 0 ≤ ltI (gvn τ kind p q) := by rw [ev]; exact (ltI_m (by omega)).2.2
      have gt : gos τ kind p q = true := by unfold gos; rw [eg, ev]; rfl
      rw [← ev]
      exact go (fun r hr => bnd ((cV_ok h.1.km).trans k1) (bnd ((cV_ok h1.1.km).trans k2) (ifn n1 (ifp n2 hr)))) (yes gt)
