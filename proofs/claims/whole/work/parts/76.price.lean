/-! what working out a text may touch -/
def PX (B a : Nat) : Prop := ∃ j, a = B + 91 + 3 * j
def WX (B a : Nat) : Prop := a = B + 78 ∨ a = B + 79
theorem TLy.sx {P : Nat → Prop} {s t : hS} {T : Nat} (h : TLy s T) (hx : Sx P s t) : TLy t T := ⟨(hx.2.1 _).trans h.1, fun i hi => (hx.2.1 _).trans (h.2.1 i hi), fun i hi => (hx.2.1 _).trans (h.2.2.1 i hi), (hx.2.1 _).trans h.2.2.2.1, fun i hi => (hx.2.2.1 _ _).trans (h.2.2.2.2 i hi)⟩
/-- a town of the class, the town of the reference -/
def CT (B nt T : Nat) (s : hS) (τ : Tw) : Prop := TLy s T ∧ TwC B s nt T τ ∧ TwOk τ ∧ (T = B + 1 ∨ T = B + 23)
def MT (B : Nat) (s : hS) (τ : Tw) : Prop := Lay B s ∧ TwM (hI s (B + 67)) τ ∧ TwOk τ
theorem CT.px {B nt T : Nat} {s t : hS} {τ : Tw} (h : CT B nt T s τ) (hx : Sx (PX B) s t) : CT B nt T t τ := by
  refine ⟨h.1.sx hx, ⟨TwN.keep (B := B) h.2.1.1 (fun r hr k => hx.2.2.2 _ ?_ k), h.2.1.texts (hx.mono (fun a ha => Or.inr ha)) rfl rfl⟩, h.2.2.1, h.2.2.2⟩
  rintro ⟨j, e⟩
  have := h.2.2.2
  omega
theorem Sx.w67 {B : Nat} {s t : hS} (hx : Sx (WX B) s t) : hI t (B + 67) = hI s (B + 67) := funext fun k => hx.2.2.2 _ (by unfold WX; omega) k
theorem MT.wx {B : Nat} {s t : hS} {τ : Tw} (h : MT B s τ) (hx : Sx (WX B) s t) : MT B t τ := ⟨h.1.sx hx, by rw [hx.w67]; exact h.2.1, h.2.2⟩
/-- a step that leaves the town as it is -/
theorem stp_eval {B : Nat} {g6 g7 : hS → Option (Int32 × hS)} (h : ∀ s nt τ, InvT B s nt τ → ∃ v, (∃ s1, g6 s = some (v, s1) ∧ Sx (PX B) s s1) ∧ ∀ t, MT B t τ → ∃ t2, g7 t = some (v, t2) ∧ Sx (WX B) t t2) : StpC B g6 g7 := by
  refine stp_town fun s nt τ hi => ?_
  obtain ⟨v, ⟨s1, k1, x1⟩, hm⟩ := h s nt τ hi
  refine ⟨v, τ, rfl, rfl, hi.2.2.1, ⟨s1, k1, x1.mono (fun a ha => Or.inr ha), ?_⟩, fun t Lt Mt => ?_⟩
  · refine TwN.keep (B := B) hi.2.2.2.1.1 (fun r hr k => x1.2.2.2 _ ?_ k)
    rintro ⟨j, e⟩
    omega
  · obtain ⟨t2, k2, x2⟩ := hm t ⟨Lt, Mt, hi.2.2.1⟩
    refine ⟨t2, k2, x2.mono (fun a ha => ?_), by rw [x2.w67]; exact Mt⟩
    unfold MP
    unfold WX at ha
    omega
theorem InvT.ct {B nt : Nat} {s : hS} {τ : Tw} (h : InvT B s nt τ) : CT B nt (B + 1) s τ := ⟨h.1.tly 1 (Or.inl rfl), h.2.2.2.1, h.2.2.1, Or.inl rfl⟩
/-- the value of a text -/
def lv (τ : Tw) (t : Nat) (x y z : Int32) : Int32 := vl (τ.2.2 t).2.2.2 x y z (τ.2.2 t).2.2.1 0
theorem c_lv {B nt T : Nat} {s : hS} {τ : Tw} (h : CT B nt T s τ) {t : Nat} (ht : t < tX τ) (x y z : Int32) : ∃ b s', aR s (T + 10) 14 (nI t) = some b ∧ hK s b = (4, 4) ∧ f_X4_valueFor s b x y z = some (lv τ t x y z, s') ∧ Sx (PX B) s s' := by
  obtain ⟨j, hj, hr, hc⟩ := h.2.1.2 t ht
  have t14 := h.2.2.1.1.2.2.2.2.1
  obtain ⟨s', e1, e2⟩ := c_val hc (h.2.2.1.2.2.2.2.2 t ht) x y z
  have eb : B + 90 + 3 * j = B + 89 + 3 * j + 1 := by omega
  rw [eb] at hr
  refine ⟨B + 89 + 3 * j + 1, s', h.1.al (by omega) hr, hc.1.2.1, e1, e2.mono (fun a ha => ⟨j, ?_⟩)⟩
  rw [ha]
  omega
theorem cl_id (lo hi k : Nat) (h1 : lo ≤ k) (h2 : k ≤ hi) (hh : hi + 1 < 2 ^ 31) : cl lo hi (nI k) = k := by
  rcases cl_cases lo hi (by omega) hh (nI k) with ⟨h, e⟩ | ⟨h, -, e⟩ | ⟨q, h3, h4, h5, e⟩
  · exact absurd h (nI_nlt h1 (by omega))
  · exact absurd h (nI_nlt h2 (by omega))
  · rw [e]
    exact ((nI_eq (by omega) (by omega)).mp h5).symm
def ned (τ : Tw) (f p : Nat) : Nat := ((tR τ 4 p).testBit f).toNat
theorem ned_le (τ : Tw) (f p : Nat) : ned τ f p ≤ 1 := by
  unfold ned
  cases (tR τ 4 p).testBit f <;> decide
def prV (τ : Tw) (f p : Nat) : Option Nat → Int32
  | none => nI (tR τ 1 f + 100 * ned τ f p)
  | some t => lv τ t (nI (tR τ 1 f)) (nI (ned τ f p)) (nI (hmk τ f))
def prc (τ : Tw) (f p : Nat) : Nat := cl 0 999 (prV τ f p (lst τ 0 (tX τ)))
theorem prc_le (τ : Tw) (f p : Nat) : prc τ f p ≤ 999 := (cl_b 0 999 (by decide) (by decide) _).2
theorem lst_c {τ : Tw} (hok : TwOk τ) (key : Nat) : (lst τ key (tX τ) = none ∧ ltI (lst τ key (tX τ)) = -1) ∨ ∃ t, t < tX τ ∧ lst τ key (tX τ) = some t ∧ ltI (lst τ key (tX τ)) = nI t ∧ ¬ ltI (lst τ key (tX τ)) = -1 ∧ 0 ≤ ltI (lst τ key (tX τ)) := by
  have t14 := hok.1.2.2.2.2.1
  exact ltI_neg (by omega) (fun t ht => (lst_lt _ ht).1)
theorem c_prc {B nt T : Nat} {s : hS} {τ : Tw} (h : CT B nt T s τ) {f p : Nat} (hf : f < tF τ) (hp : p < tP τ) : ∃ s', f_X5_priceOf s T (nI f) (nI p) = some (nI (prc τ f p), s') ∧ Sx (PX B) s s' := by
  obtain ⟨Tl, hC, hok, hT⟩ := h
  have hN := hC.1
  have b1 := hok.1.1
  have b2 := hok.1.2.1
  have w4 := (hok.p3 hp).2.1
  rcases lst_c hok 0 with ⟨e1, e2⟩ | ⟨t, ht, e1, e2, e3, e4⟩
  · refine ⟨s, ?_, Sx.rf _ s⟩
    unfold f_X5_priceOf f_X5_priceOf_b60
    refine bnd Tl.g11 (bnd (Tl.a4 (by omega)) ?_)
    rw [(hN.2.2.1 p (by omega)).2]
    unfold nmv
    rw [bi_bit (by omega) (by omega)]
    refine bnd ((cV_ok Tl.1).trans (c_lst Tl hC hok (key := 0) (by decide))) (ifp e2 (bnd Tl.g8 (bnd (Tl.a1 (by omega)) ?_)))
    rw [(hN.2.1 f (by omega)).1, show (100 : Int32) * nI ((tR τ 4 p).testBit f).toNat = nI (100 * ned τ f p) from pk_mul 100 _, nI_add]
    refine bnd (c_held s 0 999 (by decide) (by decide) _) ?_
    unfold prc
    rw [e1]
    rfl
  · obtain ⟨b, s', k1, k2, k3, k4⟩ := c_lv ⟨Tl, hC, hok, hT⟩ ht (nI (tR τ 1 f)) (nI (ned τ f p)) (nI (hmk τ f))
    refine ⟨s', ?_, k4⟩
    unfold f_X5_priceOf f_X5_priceOf_b60
    refine bnd Tl.g11 (bnd (Tl.a4 (by omega)) ?_)
    rw [(hN.2.2.1 p (by omega)).2]
    unfold nmv
    rw [bi_bit (by omega) (by omega)]
    refine bnd ((cV_ok Tl.1).trans (c_lst Tl hC hok (key := 0) (by decide))) (ifn e3 ?_)
    rw [e2]
    refine bnd Tl.g17 (bnd k1 (bnd Tl.g8 (bnd (Tl.a1 (by omega)) ?_)))
    rw [(hN.2.1 f (by omega)).1]
    refine bnd ((cV_ok Tl.1).trans (c_hmk Tl hN hok (by omega))) (bnd ((cV_ok k2).trans k3) (bnd (c_held s' 0 999 (by decide) (by decide) _) ?_))
    unfold prc
    rw [e1]
    rfl
theorem u79_67 {B : Nat} (s : hS) (k : Nat) (v : Int32) : hI (uI s (B + 79) k v) (B + 67) = hI s (B + 67) := funext fun j => uI_ne (by omega)
theorem MT.u79 {B : Nat} {s : hS} {τ : Tw} (h : MT B s τ) (k : Nat) (v : Int32) : MT B (uI s (B + 79) k v) τ := ⟨h.1.u _ _ _, by rw [u79_67]; exact h.2.1, h.2.2⟩
theorem Sx.u79 {B : Nat} (s : hS) (k : Nat) (v : Int32) : Sx (WX B) s (uI s (B + 79) k v) := Sx.u s _ k v (Or.inr rfl)
theorem m_prc {B : Nat} {s : hS} {τ : Tw} (h : MT B s τ) {f p : Nat} (hf : f < tF τ) (hp : p < tP τ) : ∃ s', f_X7_priceOf s (B + 66) (nI f) (nI p) = some (nI (prc τ f p), s') ∧ Sx (WX B) s s' := by
  have hok := h.2.2
  have b1 := hok.1.1
  have b2 := hok.1.2.1
  have w4 := (hok.p3 hp).2.1
  have kl := kws_lt hok f
  have wl := (hok.2.1 f hf).1
  have nl := ned_le τ f p
  have h1 := h.u79 0 (nI (tR τ 1 f))
  have h2 := h1.u79 1 (nI (ned τ f p))
  have h3 := h2.u79 2 (nI (hmk τ f))
  have X3 : Sx (WX B) s (uI (uI (uI s (B + 79) 0 (nI (tR τ 1 f))) (B + 79) 1 (nI (ned τ f p))) (B + 79) 2 (nI (hmk τ f))) := ((Sx.u79 s _ _).tr (Sx.u79 _ _ _)).tr (Sx.u79 _ _ _)
  have pre : ∀ r, (if 0 ≤ ltI (lst τ 0 (tX τ)) then (cV (uI (uI (uI s (B + 79) 0 (nI (tR τ 1 f))) (B + 79) 1 (nI (ned τ f p))) (B + 79) 2 (nI (hmk τ f))) (B + 66) 7 (f_X7_worksOut (uI (uI (uI s (B + 79) 0 (nI (tR τ 1 f))) (B + 79) 1 (nI (ned τ f p))) (B + 79) 2 (nI (hmk τ f))) (B + 66) (ltI (lst τ 0 (tX τ))))).bind (fun p13 => (f_X7_within p13.2 p13.1 (0 : Int32) (999 : Int32)).bind fun p14 => some (p14.1, p14.2)) else (cV (uI (uI (uI s (B + 79) 0 (nI (tR τ 1 f))) (B + 79) 1 (nI (ned τ f p))) (B + 79) 2 (nI (hmk τ f))) (B + 66) 7 (f_X7_worthOf (uI (uI (uI s (B + 79) 0 (nI (tR τ 1 f))) (B + 79) 1 (nI (ned τ f p))) (B + 79) 2 (nI (hmk τ f))) (B + 66) (nI f))).bind (fun p15 => some ((p15.1 + ((100 : Int32) * nI (ned τ f p))), p15.2))) = r → f_X7_priceOf s (B + 66) (nI f) (nI p) = r := by
    intro r hr
    unfold f_X7_priceOf
    refine bnd ((cV_ok h.1.km).trans (m_nb h.1 h.2.1 (by omega))) ?_
    unfold nmv
    rw [bi_bit (by omega) (by omega)]
    refine bnd ((cV_ok h.1.km).trans (m_cnt h.1 h.2.1 hok (key := 0) (by decide))) (bnd h.1.m23 (bnd ((cV_ok h.1.km).trans (m_wo h.1 h.2.1 (by omega))) (bnd (sI_ok 0 h.1.k79 rfl (by omega) (by omega)) (bnd h1.1.m23 (bnd (sI_ok 1 h1.1.k79 rfl (by omega) (by omega)) (bnd h2.1.m23 (bnd ((cV_ok h2.1.km).trans (m_kws h2.1 h2.2.1 hok (by omega))) (bnd (m_bits _ (by omega)) ?_))))))))
    rw [kws_pop hok f]
    exact bnd (sI_ok 2 h2.1.k79 rfl (by omega) (by omega)) hr
  rcases lst_c hok 0 with ⟨e1, e2⟩ | ⟨t, ht, e1, e2, e3, e4⟩
  · refine ⟨_, pre _ ?_, X3⟩
    rw [e2]
    refine ifn (by decide) (bnd ((cV_ok h3.1.km).trans (m_wo h3.1 h3.2.1 (by omega))) ?_)
    rw [show (100 : Int32) * nI (ned τ f p) = nI (100 * ned τ f p) from pk_mul 100 _, nI_add]
    unfold prc
    rw [e1, show prV τ f p none = nI (tR τ 1 f + 100 * ned τ f p) from rfl, cl_id 0 999 _ (by omega) (by omega) (by decide)]
  · have hk : (τ.2.2 t).1 = 0 := (lst_lt _ e1).2
    obtain ⟨s', k1, k2⟩ := m_val (i1 := nI (tR τ 1 f)) (i2 := nI (ned τ f p)) (i3 := nI (hmk τ f)) h3.1 h3.2.1 hok ht (by
      rw [hk]
      refine ⟨?_, fun _ => ?_, fun _ => ?_, fun q => ?_⟩
      · rw [uI_ne (by omega), uI_ne (by omega), uI_eq]
      · rw [uI_ne (by omega), uI_eq]
      · rw [uI_eq]
      · omega)
    refine ⟨s', pre _ ?_, X3.tr (k2.mono (fun a ha => Or.inl ha))⟩
    refine ifp e4 ?_
    rw [e2]
    refine bnd ((cV_ok h3.1.km).trans k1) (bnd (m_within s' 0 999 (by decide) (by decide) _) ?_)
    unfold prc
    rw [e1]
    rfl
theorem stp_price (B : Nat) (a0 a1 : Int32) : StpC B (fun s => f_X6_price s B a0 a1) (fun s => f_X7_price s (B + 66) a0 a1) := by
  refine stp_eval fun s nt τ h => ?_
  show ∃ v, (∃ s1, f_X6_price s B a0 a1 = some (v, s1) ∧ Sx (PX B) s s1) ∧ ∀ t, MT B t τ → ∃ t2, f_X7_price t (B + 66) a0 a1 = some (v, t2) ∧ Sx (WX B) t t2
  have L := h.1
  have hN := h.2.2.2.1.1
  have hok := h.2.2.1
  have b8 := hok.1.2.1
  have b16 := hok.1.1
  have bad : (f_X6_price s B a0 a1 = some (-1000000001, s)) → (∀ t, MT B t τ → f_X7_price t (B + 66) a0 a1 = some (-1000000001, t)) → ∃ v, (∃ s1, f_X6_price s B a0 a1 = some (v, s1) ∧ Sx (PX B) s s1) ∧ ∀ t, MT B t τ → ∃ t2, f_X7_price t (B + 66) a0 a1 = some (v, t2) ∧ Sx (WX B) t t2 := fun h6 h7 => ⟨_, ⟨s, h6, Sx.rf _ s⟩, fun t ht => ⟨t, h7 t ht, Sx.rf _ t⟩⟩
  have ix : (a0 < 0 ∨ nI (tF τ) ≤ a0) ∨ ∃ j : Nat, j < tF τ ∧ a0 = nI j := by
    rcases pk_ix a0 (n := tF τ) (by omega) with q | q | q
    · exact Or.inl (Or.inl q)
    · exact Or.inl (Or.inr q)
    · exact Or.inr q
  have iy : (a1 < 0 ∨ nI (tP τ) ≤ a1) ∨ ∃ j : Nat, j < tP τ ∧ a1 = nI j := by
    rcases pk_ix a1 (n := tP τ) (by omega) with q | q | q
    · exact Or.inl (Or.inl q)
    · exact Or.inl (Or.inr q)
    · exact Or.inr q
  rcases ix with hb | ⟨f, hf, rfl⟩
  · refine bad ?_ (fun t ht => ?_)
    · unfold f_X6_price
      exact bnd ((cV_ok L.kx).trans (noF_out L hN hb)) (ifn one_ne rfl)
    · unfold f_X7_price
      exact bnd ((cV_ok ht.1.km).trans (isF_out ht.1 ht.2.1 hok hb)) (ifp rfl rfl)
  rcases iy with hb | ⟨p, hp, rfl⟩
  · refine bad ?_ (fun t ht => ?_)
    · unfold f_X6_price
      exact bnd ((cV_ok L.kx).trans (noF_in L hN hok hf)) (ifp rfl (bnd ((cV_ok L.kx).trans (noP_out L hN hb)) (ifn one_ne rfl)))
    · unfold f_X7_price
      exact bnd ((cV_ok ht.1.km).trans (isF_in ht.1 ht.2.1 hok hf)) (ifn one_ne (bnd ((cV_ok ht.1.km).trans (isP_out ht.1 ht.2.1 hok hb)) (ifp rfl rfl)))
  obtain ⟨s1, k1, x1⟩ := c_prc h.ct hf hp
  refine ⟨nI (prc τ f p), ⟨s1, ?_, x1⟩, fun t ht => ?_⟩
  · unfold f_X6_price
    exact bnd ((cV_ok L.kx).trans (noF_in L hN hok hf)) (ifp rfl (bnd ((cV_ok L.kx).trans (noP_in L hN hok hp)) (ifp rfl (bnd L.gt (bnd ((cV_ok L.kt).trans k1) rfl)))))
  · obtain ⟨t2, k2, x2⟩ := m_prc ht hf hp
    refine ⟨t2, ?_, x2⟩
    unfold f_X7_price
    exact bnd ((cV_ok ht.1.km).trans (isF_in ht.1 ht.2.1 hok hf)) (ifn one_ne (bnd ((cV_ok ht.1.km).trans (isP_in ht.1 ht.2.1 hok hp)) (ifn one_ne (bnd ((cV_ok ht.1.km).trans k2) rfl))))
/-! how long one must look; the fine -/
def lkV (τ : Tw) (f : Nat) : Option Nat → Int32
  | none => nI (10 - hmk τ f)
  | some t => lv τ t (nI (tR τ 1 f)) 0 (nI (hmk τ f))
def lkf (τ : Tw) (f : Nat) : Nat := cl 1 99 (lkV τ f (lst τ 1 (tX τ)))
theorem lkf_b (τ : Tw) (f : Nat) : 1 ≤ lkf τ f ∧ lkf τ f ≤ 99 := cl_b 1 99 (by decide) (by decide) _
theorem c_lkf {B nt T : Nat} {s : hS} {τ : Tw} (h : CT B nt T s τ) {f : Nat} (hf : f < tF τ) : ∃ s', f_X5_lookFor s T (nI f) = some (nI (lkf τ f), s') ∧ Sx (PX B) s s' := by
  obtain ⟨Tl, hC, hok, hT⟩ := h
  have hN := hC.1
  have b1 := hok.1.1
  have hl := hmk_le hok f
  rcases lst_c hok 1 with ⟨e1, e2⟩ | ⟨t, ht, e1, e2, e3, e4⟩
  · refine ⟨s, ?_, Sx.rf _ s⟩
    unfold f_X5_lookFor f_X5_lookFor_b41
    refine bnd ((cV_ok Tl.1).trans (c_hmk Tl hN hok (by omega))) (bnd ((cV_ok Tl.1).trans (c_lst Tl hC hok (key := 1) (by decide))) (ifp e2 ?_))
    rw [show (10 : Int32) - nI (hmk τ f) = nI (10 - hmk τ f) from pk_sub (a := 10) (by omega)]
    refine bnd (c_held s 1 99 (by decide) (by decide) _) ?_
    unfold lkf
    rw [e1]
    rfl
  · obtain ⟨b, s', k1, k2, k3, k4⟩ := c_lv ⟨Tl, hC, hok, hT⟩ ht (nI (tR τ 1 f)) 0 (nI (hmk τ f))
    refine ⟨s', ?_, k4⟩
    unfold f_X5_lookFor f_X5_lookFor_b41
    refine bnd ((cV_ok Tl.1).trans (c_hmk Tl hN hok (by omega))) (bnd ((cV_ok Tl.1).trans (c_lst Tl hC hok (key := 1) (by decide))) (ifn e3 ?_))
    rw [e2]
    refine bnd Tl.g17 (bnd k1 (bnd Tl.g8 (bnd (Tl.a1 (by omega)) ?_)))
    rw [(hN.2.1 f (by omega)).1]
    refine bnd ((cV_ok k2).trans k3) (bnd (c_held s' 1 99 (by decide) (by decide) _) ?_)
    unfold lkf
    rw [e1]
    rfl
theorem m_lkf {B : Nat} {s : hS} {τ : Tw} (h : MT B s τ) {f : Nat} (hf : f < tF τ) : ∃ s', f_X7_lookOf s (B + 66) (nI f) = some (nI (lkf τ f), s') ∧ Sx (WX B) s s' := by
  have hok := h.2.2
  have b1 := hok.1.1
  have kl := kws_lt hok f
  have hl := hmk_le hok f
  have h1 := h.u79 0 (nI (tR τ 1 f))
  have h2 := h1.u79 1 (nI (hmk τ f))
  have X2 : Sx (WX B) s (uI (uI s (B + 79) 0 (nI (tR τ 1 f))) (B + 79) 1 (nI (hmk τ f))) := (Sx.u79 s _ _).tr (Sx.u79 _ _ _)
  have pre : ∀ r, (if 0 ≤ ltI (lst τ 1 (tX τ)) then (cV (uI (uI s (B + 79) 0 (nI (tR τ 1 f))) (B + 79) 1 (nI (hmk τ f))) (B + 66) 7 (f_X7_worksOut (uI (uI s (B + 79) 0 (nI (tR τ 1 f))) (B + 79) 1 (nI (hmk τ f))) (B + 66) (ltI (lst τ 1 (tX τ))))).bind (fun p9 => (f_X7_within p9.2 p9.1 (1 : Int32) (99 : Int32)).bind fun p10 => some (p10.1, p10.2)) else some (((10 : Int32) - nI (hmk τ f)), uI (uI s (B + 79) 0 (nI (tR τ 1 f))) (B + 79) 1 (nI (hmk τ f)))) = r → f_X7_lookOf s (B + 66) (nI f) = r := by
    intro r hr
    unfold f_X7_lookOf
    refine bnd ((cV_ok h.1.km).trans (m_kws h.1 h.2.1 hok (by omega))) (bnd (m_bits _ (by omega)) ?_)
    rw [kws_pop hok f]
    exact bnd ((cV_ok h.1.km).trans (m_cnt h.1 h.2.1 hok (key := 1) (by decide))) (bnd h.1.m23 (bnd ((cV_ok h.1.km).trans (m_wo h.1 h.2.1 (by omega))) (bnd (sI_ok 0 h.1.k79 rfl (by omega) (by omega)) (bnd h1.1.m23 (bnd (sI_ok 1 h1.1.k79 rfl (by omega) (by omega)) hr)))))
  rcases lst_c hok 1 with ⟨e1, e2⟩ | ⟨t, ht, e1, e2, e3, e4⟩
  · refine ⟨_, pre _ ?_, X2⟩
    rw [e2]
    refine ifn (by decide) ?_
    rw [show (10 : Int32) - nI (hmk τ f) = nI (10 - hmk τ f) from pk_sub (a := 10) (by omega)]
    unfold lkf
    rw [e1, show lkV τ f none = nI (10 - hmk τ f) from rfl, cl_id 1 99 _ (by omega) (by omega) (by decide)]
  · have hk : (τ.2.2 t).1 = 1 := (lst_lt _ e1).2
    obtain ⟨s', k1, k2⟩ := m_val (i1 := nI (tR τ 1 f)) (i2 := 0) (i3 := nI (hmk τ f)) h2.1 h2.2.1 hok ht (by
      rw [hk]
      refine ⟨?_, fun q => ?_, fun q => ?_, fun _ => ?_⟩
      · rw [uI_ne (by omega), uI_eq]
      · omega
      · omega
      · rw [uI_eq])
    refine ⟨s', pre _ ?_, X2.tr (k2.mono (fun a ha => Or.inl ha))⟩
    refine ifp e4 ?_
    rw [e2]
    refine bnd ((cV_ok h2.1.km).trans k1) (bnd (m_within s' 1 99 (by decide) (by decide) _) ?_)
    unfold lkf
    rw [e1]
    rfl
def fnV (τ : Tw) : Option Nat → Int32
  | none => 0
  | some t => lv τ t τ.2.1.1 (nI (tH τ)) 0
theorem stp_fine (B : Nat) : StpC B (fun s => f_X6_fine s B) (fun s => f_X7_fine s (B + 66)) := by
  refine stp_eval fun s nt τ h => ?_
  have L := h.1
  have hC := h.2.2.2.1
  have hN := hC.1
  have hok := h.2.2.1
  have Tl := L.tly 1 (Or.inl rfl)
  refine ⟨fnV τ (lst τ 2 (tX τ)), ?_, fun t ht => ?_⟩
  · show ∃ s1, f_X6_fine s B = some (_, s1) ∧ _
    rcases lst_c hok 2 with ⟨e1, e2⟩ | ⟨x, hx, e1, e2, e3, e4⟩
    · refine ⟨s, ?_, Sx.rf _ s⟩
      unfold f_X6_fine f_X5_fineNow
      refine bnd L.gt (bnd (x := (0, s)) ((cV_ok L.kt).trans (bnd ((cV_ok L.kt).trans (c_lst Tl hC hok (key := 2) (by decide))) (ifp e2 rfl))) ?_)
      rw [e1]
      rfl
    · obtain ⟨b, s', k1, k2, k3, k4⟩ := c_lv h.ct hx τ.2.1.1 (nI (tH τ)) 0
      refine ⟨s', ?_, k4⟩
      unfold f_X6_fine f_X5_fineNow
      refine bnd L.gt (bnd (x := (fnV τ (lst τ 2 (tX τ)), s')) ((cV_ok L.kt).trans (bnd ((cV_ok L.kt).trans (c_lst Tl hC hok (key := 2) (by decide))) (ifn e3 ?_))) rfl)
      rw [e2]
      refine bnd Tl.g17 (bnd k1 (bnd (gI_ok L.kt) (bnd (gI_ok L.kt) ?_)))
      rw [hN.1.2.2.2.2.2.1, hN.1.2.2.2.2.2.2.1]
      refine bnd ((cV_ok k2).trans k3) ?_
      rw [e1]
      rfl
  · show ∃ t2, f_X7_fine t (B + 66) = some (_, t2) ∧ _
    have h1 := ht.u79 0 τ.2.1.1
    have h2 := h1.u79 1 (nI (tH τ))
    have X2 : Sx (WX B) t (uI (uI t (B + 79) 0 τ.2.1.1) (B + 79) 1 (nI (tH τ))) := (Sx.u79 t _ _).tr (Sx.u79 _ _ _)
    have pre : ∀ r, (if 0 ≤ ltI (lst τ 2 (tX τ)) then (cV (uI (uI t (B + 79) 0 τ.2.1.1) (B + 79) 1 (nI (tH τ))) (B + 66) 7 (f_X7_worksOut (uI (uI t (B + 79) 0 τ.2.1.1) (B + 79) 1 (nI (tH τ))) (B + 66) (ltI (lst τ 2 (tX τ))))).bind (fun p10 => some (p10.1, p10.2)) else some ((0 : Int32), uI (uI t (B + 79) 0 τ.2.1.1) (B + 79) 1 (nI (tH τ)))) = r → f_X7_fine t (B + 66) = r := by
      intro r hr
      unfold f_X7_fine
      refine bnd ((cV_ok ht.1.km).trans (m_cnt ht.1 ht.2.1 hok (key := 2) (by decide))) (bnd ht.1.m23 (bnd ht.1.gn (bnd (ht.1.an 6 rfl (by decide)) ?_)))
      rw [ht.2.1.1.2.2.2.2.2.2.1]
      refine bnd (sI_ok 0 ht.1.k79 rfl (by omega) (by omega)) (bnd h1.1.m23 (bnd h1.1.gn (bnd (h1.1.an 5 rfl (by decide)) ?_)))
      rw [h1.2.1.1.2.2.2.2.2.1]
      exact bnd (sI_ok 1 h1.1.k79 rfl (by omega) (by omega)) hr
    rcases lst_c hok 2 with ⟨e1, e2⟩ | ⟨x, hx, e1, e2, e3, e4⟩
    · refine ⟨_, pre _ ?_, X2⟩
      rw [e2]
      refine ifn (by decide) ?_
      rw [e1]
      rfl
    · have hk : (τ.2.2 x).1 = 2 := (lst_lt _ e1).2
      obtain ⟨s', k1, k2⟩ := m_val (i1 := τ.2.1.1) (i2 := nI (tH τ)) (i3 := 0) h2.1 h2.2.1 hok hx (by
        rw [hk]
        refine ⟨?_, fun _ => ?_, fun q => ?_, fun q => ?_⟩
        · rw [uI_ne (by omega), uI_eq]
        · rw [uI_eq]
        · omega
        · omega)
      refine ⟨s', pre _ ?_, X2.tr (k2.mono (fun a ha => Or.inl ha))⟩
      refine ifp e4 ?_
      rw [e2]
      refine bnd ((cV_ok h2.1.km).trans k1) ?_
      rw [e1]
      rfl
theorem stp_look (B : Nat) (a0 a1 : Int32) : StpC B (fun s => f_X6_look s B a0 a1) (fun s => f_X7_look s (B + 66) a0 a1) := by
  refine stp_eval fun s nt τ h => ?_
  show ∃ v, (∃ s1, f_X6_look s B a0 a1 = some (v, s1) ∧ Sx (PX B) s s1) ∧ ∀ t, MT B t τ → ∃ t2, f_X7_look t (B + 66) a0 a1 = some (v, t2) ∧ Sx (WX B) t t2
  have L := h.1
  have hN := h.2.2.2.1.1
  have hok := h.2.2.1
  have b8 := hok.1.2.1
  have b16 := hok.1.1
  have Tl := L.tly 1 (Or.inl rfl)
  have same : ∀ v, (f_X6_look s B a0 a1 = some (v, s)) → (∀ t, MT B t τ → f_X7_look t (B + 66) a0 a1 = some (v, t)) → ∃ v, (∃ s1, f_X6_look s B a0 a1 = some (v, s1) ∧ Sx (PX B) s s1) ∧ ∀ t, MT B t τ → ∃ t2, f_X7_look t (B + 66) a0 a1 = some (v, t2) ∧ Sx (WX B) t t2 := fun v h6 h7 => ⟨v, ⟨s, h6, Sx.rf _ s⟩, fun t ht => ⟨t, h7 t ht, Sx.rf _ t⟩⟩
  have ix : (a1 < 0 ∨ nI (tF τ) ≤ a1) ∨ ∃ j : Nat, j < tF τ ∧ a1 = nI j := by
    rcases pk_ix a1 (n := tF τ) (by omega) with q | q | q
    · exact Or.inl (Or.inl q)
    · exact Or.inl (Or.inr q)
    · exact Or.inr q
  have iy : (a0 < 0 ∨ nI (tP τ) ≤ a0) ∨ ∃ j : Nat, j < tP τ ∧ a0 = nI j := by
    rcases pk_ix a0 (n := tP τ) (by omega) with q | q | q
    · exact Or.inl (Or.inl q)
    · exact Or.inl (Or.inr q)
    · exact Or.inr q
  rcases iy with hb | ⟨p, hp, rfl⟩
  · refine same (-1000000001) ?_ (fun t ht => ?_)
    · unfold f_X6_look
      exact bnd ((cV_ok L.kx).trans (noP_out L hN hb)) (ifn one_ne rfl)
    · unfold f_X7_look
      exact bnd ((cV_ok ht.1.km).trans (isP_out ht.1 ht.2.1 hok hb)) (ifp rfl rfl)
  rcases ix with hb | ⟨f, hf, rfl⟩
  · refine same (-1000000001) ?_ (fun t ht => ?_)
    · unfold f_X6_look
      exact bnd ((cV_ok L.kx).trans (noP_in L hN hok hp)) (ifp rfl (bnd ((cV_ok L.kx).trans (noF_out L hN hb)) (ifn one_ne rfl)))
    · unfold f_X7_look
      exact bnd ((cV_ok ht.1.km).trans (isP_in ht.1 ht.2.1 hok hp)) (ifn one_ne (bnd ((cV_ok ht.1.km).trans (isF_out ht.1 ht.2.1 hok hb)) (ifp rfl rfl)))
  cases hk : pkn τ f p
  · obtain ⟨s1, k1, x1⟩ := c_lkf h.ct hf
    refine ⟨nI (lkf τ f), ⟨s1, ?_, x1⟩, fun t ht => ?_⟩
    · unfold f_X6_look
      exact bnd ((cV_ok L.kx).trans (noP_in L hN hok hp)) (ifp rfl (bnd ((cV_ok L.kx).trans (noF_in L hN hok hf)) (ifp rfl (bnd L.gt (bnd ((cV_ok L.kt).trans (c_kn Tl hN hok hp (by omega))) (ifp (by rw [hk]; rfl) (bnd L.gt (bnd ((cV_ok L.kt).trans k1) rfl))))))))
    · obtain ⟨t2, k2, x2⟩ := m_lkf ht hf
      refine ⟨t2, ?_, x2⟩
      unfold f_X7_look
      exact bnd ((cV_ok ht.1.km).trans (isP_in ht.1 ht.2.1 hok hp)) (ifn one_ne (bnd ((cV_ok ht.1.km).trans (isF_in ht.1 ht.2.1 hok hf)) (ifn one_ne (bnd ((cV_ok ht.1.km).trans (m_kn ht.1 ht.2.1 hok hp (by omega))) (ifp (by rw [hk]; rfl) (bnd ((cV_ok ht.1.km).trans k2) rfl))))))
  · refine same (-1000000002) ?_ (fun t ht => ?_)
    · unfold f_X6_look
      exact bnd ((cV_ok L.kx).trans (noP_in L hN hok hp)) (ifp rfl (bnd ((cV_ok L.kx).trans (noF_in L hN hok hf)) (ifp rfl (bnd L.gt (bnd ((cV_ok L.kt).trans (c_kn Tl hN hok hp (by omega))) (ifn (by rw [hk]; exact one_ne) rfl))))))
    · unfold f_X7_look
      exact bnd ((cV_ok ht.1.km).trans (isP_in ht.1 ht.2.1 hok hp)) (ifn one_ne (bnd ((cV_ok ht.1.km).trans (isF_in ht.1 ht.2.1 hok hf)) (ifn one_ne (bnd ((cV_ok ht.1.km).trans (m_kn ht.1 ht.2.1 hok hp (by omega))) (ifn (by rw [hk]; exact one_ne) rfl)))))
