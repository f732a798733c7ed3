/-! a text is made -/
def NxT (s t : hS) : Prop := t.1 = s.1 + 3 ∧ t.2.1 ≤ s.2.1 + 200 ∧ ∀ b, b < s.1 → hK t b = hK s b ∧ (∀ k, hR t b k = hR s b k) ∧ ∀ k, hI t b k = hI s b k
theorem nOk (s : hS) (c N b : Nat) : hK (nO s c N) b = if b = s.1 then (c, N) else hK s b := rfl
theorem nOi (s : hS) (c N b j : Nat) : hI (nO s c N) b j = if b = s.1 then 0 else hI s b j := rfl
theorem nOr (s : hS) (c N b j : Nat) : hR (nO s c N) b j = if b = s.1 then none else hR s b j := rfl
theorem uR_Rr (s : hS) (a k : Nat) (v : Option Nat) (b j : Nat) : hR (uR s a k v) b j = if b = a ∧ j = k then v else hR s b j := rfl
theorem c_make {B : Nat} {s : hS} {key c a : Nat} {f : Nat → Int32} (L : Lay B s) (hB : B + 89 ≤ s.1) (h2 : hI s (B + 34) 2 = nI c) (hf : ∀ i, i < c → hI s (B + 37) i = f i) (h5 : hI s (B + 34) 5 = nI key) (h6 : hI s (B + 34) 6 = nI a) (hc : c ≤ 96) : ∃ t, f_X0_makeText s (B + 34) = some (s.1 + 1, t) ∧ NxT s t ∧ TxC t s.1 (key, nI a, c, f) := by
  have hA : nA s 10 (nI c) = some (nO s 10 c) := by
    unfold nA
    rw [nI_clamp (by omega), if_pos ⟨nI_pos (by omega), by omega⟩]
  have old : ∀ y, Sx (fun b => b = s.1) (nO s 10 c) y → ∀ b, b < s.1 → hK y b = hK s b ∧ (∀ k, hR y b k = hR s b k) ∧ ∀ k, hI y b k = hI s b k := by
    intro y hy b hb
    refine ⟨(hy.2.1 b).trans ?_, fun k => (hy.2.2.1 b k).trans ?_, fun k => (hy.2.2.2 b (by omega) k).trans ?_⟩
    · rw [nOk, if_neg (by omega)]
    · rw [nOr, if_neg (by omega)]
    · rw [nOi, if_neg (by omega)]
  have k34 : ∀ y, Sx (fun b => b = s.1) (nO s 10 c) y → hK y (B + 34) = (0, 10) := fun y hy => ((old y hy _ (by omega)).1).trans L.k34
  have k37 : ∀ y, Sx (fun b => b = s.1) (nO s 10 c) y → hK y (B + 37) = (10, 96) := fun y hy => ((old y hy _ (by omega)).1).trans L.k37
  have q1 : ∀ y, Sx (fun b => b = s.1) (nO s 10 c) y → gR y (B + 34) 0 1 = some (B + 37) := fun y hy => gR_ok (k34 y hy) (((old y hy _ (by omega)).2.1 1).trans (L.r 34 1 37 (by decide)))
  have kA : ∀ y, Sx (fun b => b = s.1) (nO s 10 c) y → hK y s.1 = (10, c) := fun y hy => (hy.2.1 _).trans (by rw [nOk, if_pos rfl])
  have lp : ∃ t, jL f_X0_makeText_b9 (fun _ _ _ _ => none) jF (B + 34) s.1 0 (nO s 10 c) = some (s.1 + 1, t) ∧ NxT s t ∧ TxC t s.1 (key, nI a, c, f) := by
    refine jL_ex (F := f_X0_makeText_b9) (z := fun _ _ _ _ => none) (fun (k : Nat → Nat → Int32 → hS → Option (Nat × hS)) i (y : hS) => k (B + 34) s.1 (nI i) y) c (fun i y => Sx (fun b => b = s.1) (nO s 10 c) y ∧ ∀ j, j < i → hI y s.1 j = f j) (fun r => ∃ t, r = some (s.1 + 1, t) ∧ NxT s t ∧ TxC t s.1 (key, nI a, c, f)) (fun i hi y hy k => Or.inl ?_) (fun y hy k => ?_) jF 0 _ (Nat.zero_le _) (jF_lt (by omega)) ⟨Sx.rf _ _, fun j hj => absurd hj (Nat.not_lt_zero j)⟩
    · obtain ⟨x, g⟩ := hy
      refine ⟨uI y s.1 i (f i), ⟨x.tr (Sx.u _ _ _ _ rfl), fun j hj => ?_⟩, ?_⟩
      · by_cases e : j = i
        · rw [e, uI_eq]
        · rw [uI_ne (by omega)]
          exact g j (by omega)
      · show f_X0_makeText_b9 k (B + 34) s.1 (nI i) y = _
        unfold f_X0_makeText_b9
        refine bnd (gI_ok (k34 y x)) ?_
        rw [(old y x _ (by omega)).2.2, h2]
        refine ifn (nI_ge hi (by omega)) (bnd (q1 y x) (bnd (aI_ok i (k37 y x) rfl (by omega) (by decide)) ?_))
        rw [(old y x _ (by omega)).2.2, hf i hi]
        refine bnd (sI_ok i (kA y x) rfl hi (by omega)) ?_
        rw [nI_1]
    · obtain ⟨x, g⟩ := hy
      have y1 : y.1 = s.1 + 1 := x.1.1
      have y2 : y.2.1 = s.2.1 + c := x.1.2
      obtain ⟨w, hw⟩ : ∃ w, w = nO y 4 4 := ⟨_, rfl⟩
      have wK : ∀ b, hK w b = if b = s.1 + 1 then (4, 4) else hK y b := fun b => by rw [hw, nOk, y1]
      have wI : ∀ b j, hI w b j = if b = s.1 + 1 then 0 else hI y b j := fun b j => by rw [hw, nOi, y1]
      have wR : ∀ b j, hR w b j = if b = s.1 + 1 then none else hR y b j := fun b j => by rw [hw, nOr, y1]
      have w1 : w.1 = s.1 + 2 := by rw [hw]; show y.1 + 1 = _; omega
      have w2 : w.2.1 = s.2.1 + c + 4 := by rw [hw]; show y.2.1 + 4 = _; omega
      have kT : hK w (s.1 + 1) = (4, 4) := by rw [wK, if_pos rfl]
      obtain ⟨v, hv⟩ : ∃ v, v = uR (uI (uI w (s.1 + 1) 0 (nI key)) (s.1 + 1) 1 (nI a)) (s.1 + 1) 2 (some s.1) := ⟨_, rfl⟩
      have vK : ∀ b, hK v b = hK w b := fun b => by rw [hv]; rfl
      have v1 : v.1 = s.1 + 2 := by rw [hv]; exact w1
      have v2 : v.2.1 = s.2.1 + c + 4 := by rw [hv]; exact w2
      have hA2 : nA v 10 (nI c) = some (nO v 10 c) := by
        unfold nA
        rw [nI_clamp (by omega), if_pos ⟨nI_pos (by omega), by omega⟩]
      have zK : ∀ b, hK (uR (nO v 10 c) (s.1 + 1) 3 (some v.1)) b = if b = s.1 + 2 then (10, c) else hK w b := fun b => by
        show hK (nO v 10 c) b = _
        rw [nOk, v1, vK]
      have zR : ∀ b j, hR (uR (nO v 10 c) (s.1 + 1) 3 (some v.1)) b j = if b = s.1 + 1 ∧ j = 3 then some (s.1 + 2) else if b = s.1 + 2 then none else if b = s.1 + 1 ∧ j = 2 then some s.1 else hR w b j := fun b j => by
        rw [uR_Rr, nOr, v1, hv]
        rfl
      have zI : ∀ b j, hI (uR (nO v 10 c) (s.1 + 1) 3 (some v.1)) b j = if b = s.1 + 2 then 0 else hI (uI (uI w (s.1 + 1) 0 (nI key)) (s.1 + 1) 1 (nI a)) b j := fun b j => by
        show hI (nO v 10 c) b j = _
        rw [nOi, v1, hv]
        rfl
      refine ⟨uR (nO v 10 c) (s.1 + 1) 3 (some v.1), ?_, ⟨?_, ?_, fun b hb => ⟨?_, fun j => ?_, fun j => ?_⟩⟩, ⟨⟨?_, ?_, ?_⟩, ⟨?_, ?_⟩, ⟨?_, ?_⟩, fun j hj => ?_⟩⟩
      · show f_X0_makeText_b9 k (B + 34) s.1 (nI c) y = _
        unfold f_X0_makeText_b9 f_X4_init
        refine bnd (gI_ok (k34 y x)) ?_
        rw [(old y x _ (by omega)).2.2, h2]
        refine ifp (nI_le (Nat.le_refl _) (by omega)) (bnd (show nB y 4 4 = some w by rw [hw]; rfl) ?_)
        have kw34 : hK w (B + 34) = (0, 10) := by rw [wK, if_neg (by omega)]; exact k34 y x
        refine bnd (gI_ok kw34) (bnd (gI_ok kw34) ?_)
        rw [wI, if_neg (by omega), (old y x _ (by omega)).2.2, h5, wI, if_neg (by omega), (old y x _ (by omega)).2.2, h6, y1]
        refine bnd (x := ((), uR (nO v 10 c) (s.1 + 1) 3 (some v.1))) (bnd (pI_ok kT) (bnd (pI_ok (s := uI w (s.1 + 1) 0 (nI key)) kT) (bnd (show pR (uI (uI w (s.1 + 1) 0 (nI key)) (s.1 + 1) 1 (nI a)) (s.1 + 1) 4 2 s.1 = some v by rw [hv]; unfold pR; exact if_pos (show (hK w (s.1 + 1)).1 = 4 by rw [kT])) (bnd (aL_ok (show hK v s.1 = (10, c) by rw [vK, wK, if_neg (by omega)]; exact kA y x)) (bnd hA2 (bnd (show pR (nO v 10 c) (s.1 + 1) 4 3 v.1 = some (uR (nO v 10 c) (s.1 + 1) 3 (some v.1)) by unfold pR; exact if_pos (show (hK (nO v 10 c) (s.1 + 1)).1 = 4 by rw [nOk, v1, if_neg (by omega), vK, kT])) rfl)))))) rfl
      · show v.1 + 1 = s.1 + 3
        omega
      · show v.2.1 + c ≤ s.2.1 + 200
        omega
      · rw [zK, if_neg (by omega), wK, if_neg (by omega)]
        exact (old y x b hb).1
      · rw [zR, if_neg (by omega), if_neg (by omega), if_neg (by omega), wR, if_neg (by omega)]
        exact (old y x b hb).2.1 j
      · rw [zI, if_neg (by omega), uI_ne (by omega), uI_ne (by omega), wI, if_neg (by omega)]
        exact (old y x b hb).2.2 j
      · rw [zK, if_neg (by omega), wK, if_neg (by omega)]
        exact kA y x
      · rw [zK, if_neg (by omega)]
        exact kT
      · rw [zK, if_pos rfl]
      · rw [zR, if_neg (by omega), if_neg (by omega), if_pos ⟨rfl, rfl⟩]
      · rw [zR, if_pos ⟨rfl, rfl⟩]
      · rw [zI, if_neg (by omega), uI_ne (by omega), uI_eq]
      · rw [zI, if_neg (by omega), uI_eq]
      · rw [zI, if_neg (by omega), uI_ne (by omega), uI_ne (by omega), wI, if_neg (by omega)]
        exact g j hj
  obtain ⟨t, k1, r1⟩ := lp
  refine ⟨t, ?_, r1⟩
  unfold f_X0_makeText
  refine bnd (gI_ok L.k34) ?_
  rw [h2]
  exact bnd hA k1
/-! a text more in a town -/
def txT (τ : Tw) (x : Nat × Int32 × Nat × (Nat → Int32)) : Tw := ((upT τ 0 4 (tX τ + 1)).1, τ.2.1, fun i => if i = tX τ then x else τ.2.2 i)
theorem txT_o {τ : Tw} {x : Nat × Int32 × Nat × (Nat → Int32)} {r k : Nat} (h : ¬ (r = 0 ∧ k = 4)) : (txT τ x).1 r k = τ.1 r k := up_ne h
theorem txT_x (τ : Tw) (x : Nat × Int32 × Nat × (Nat → Int32)) : tX (txT τ x) = tX τ + 1 := up_eq τ 0 4 (tX τ + 1)
theorem txT_ok {τ : Tw} {x : Nat × Int32 × Nat × (Nat → Int32)} (h : TwOk τ) (hx : TxOk x) (ht : tX τ < 14) : TwOk (txT τ x) := by
  obtain ⟨⟨q1, q2, q3, q4, q5, q6⟩, w1, w2, w3, w4, w5⟩ := h
  refine ⟨⟨q1, q2, q3, q4, by rw [txT_x]; omega, q6⟩, w1, fun p hp => ⟨(w2 p hp).1, (w2 p hp).2.1, ?_⟩, w3, w4, fun i hi => ?_⟩
  · show rlP (upT τ 0 4 (tX τ + 1)).1 _ = _
    rw [rlP_tf (by omega)]
    exact (w2 p hp).2.2
  · rw [txT_x] at hi
    show TxOk (if i = tX τ then x else τ.2.2 i)
    by_cases e : i = tX τ
    · rw [if_pos e]; exact hx
    · rw [if_neg e]; exact w5 i (by omega)
theorem TwN.txt {s t : hS} {T : Nat} {τ : Tw} {x : Nat × Int32 × Nat × (Nat → Int32)} (h : TwN s T τ) (e4 : hI t T 4 = nI (tX τ + 1)) (e0 : ∀ k, k ≠ 4 → hI t T k = hI s T k) (e : ∀ r k, 1 ≤ r → r < 10 → hI t (T + r) k = hI s (T + r) k) : TwN t T (txT τ x) := by
  obtain ⟨⟨b0, b1, b2, b3, b4, b5, b6, b7⟩, c1, c2, c3, c4⟩ := h
  exact ⟨⟨(e0 0 (by omega)).trans b0, (e0 1 (by omega)).trans b1, (e0 2 (by omega)).trans b2, (e0 3 (by omega)).trans b3, by rw [txT_x]; exact e4, (e0 5 (by omega)).trans b5, (e0 6 (by omega)).trans b6, (e0 7 (by omega)).trans b7⟩, fun i hi => ⟨(e 1 i (by omega) (by omega)).trans (c1 i hi).1, (e 2 i (by omega) (by omega)).trans (c1 i hi).2⟩, fun i hi => ⟨(e 3 i (by omega) (by omega)).trans (c2 i hi).1, (e 4 i (by omega) (by omega)).trans (c2 i hi).2⟩, fun i hi => ⟨(e 5 i (by omega) (by omega)).trans (c3 i hi).1, (e 6 i (by omega) (by omega)).trans (c3 i hi).2⟩, fun i hi => ⟨(e 7 i (by omega) (by omega)).trans (c4 i hi).1, (e 8 i (by omega) (by omega)).trans (c4 i hi).2.1, (e 9 i (by omega) (by omega)).trans (c4 i hi).2.2⟩⟩
theorem TwM.txt {A A' : Nat → Int32} {τ : Tw} {key c : Nat} {a : Int32} {f : Nat → Int32} (h : TwM A τ) (hok : TwOk τ) (ht : tX τ < 14) (hc : c ≤ 96) (e7 : A' 7 = nI (tX τ + 1)) (ea : A' (104 + 2 * tX τ) = nI (1000 * key + c)) (eb : A' (105 + 2 * tX τ) = a) (ef : ∀ k, k < c → A' (132 + 96 * tX τ + k) = cmap key (f k)) (eo : ∀ j, j ≠ 7 → j ≠ 104 + 2 * tX τ → j ≠ 105 + 2 * tX τ → ¬ (132 + 96 * tX τ ≤ j ∧ j < 132 + 96 * tX τ + 96) → A' j = A j) : TwM A' (txT τ (key, a, c, f)) := by
  have b1 := hok.1.2.2.1
  obtain ⟨⟨b0, b1', b2, b3, b4, b5, b6, b7⟩, c1, c2, c3, c4, c5⟩ := h
  refine ⟨⟨(eo _ (by omega) (by omega) (by omega) (by omega)).trans b0, (eo _ (by omega) (by omega) (by omega) (by omega)).trans b1', (eo _ (by omega) (by omega) (by omega) (by omega)).trans b2, (eo _ (by omega) (by omega) (by omega) (by omega)).trans b3, by rw [txT_x]; exact e7, (eo _ (by omega) (by omega) (by omega) (by omega)).trans b5, (eo _ (by omega) (by omega) (by omega) (by omega)).trans b6, (eo _ (by omega) (by omega) (by omega) (by omega)).trans b7⟩, fun i hi => ⟨(eo _ (by omega) (by omega) (by omega) (by omega)).trans (c1 i hi).1, (eo _ (by omega) (by omega) (by omega) (by omega)).trans (c1 i hi).2⟩, fun i hi => ⟨(eo _ (by omega) (by omega) (by omega) (by omega)).trans (c2 i hi).1, (eo _ (by omega) (by omega) (by omega) (by omega)).trans (c2 i hi).2⟩, fun i hi => ?_, fun i hi => ⟨(eo _ (by omega) (by omega) (by omega) (by omega)).trans (c4 i hi).1, (eo _ (by omega) (by omega) (by omega) (by omega)).trans (c4 i hi).2.1, (eo _ (by omega) (by omega) (by omega) (by omega)).trans (c4 i hi).2.2⟩, fun i hi => ?_⟩
  · have hi' : i < tL τ := hi
    exact ⟨(eo _ (by omega) (by omega) (by omega) (by omega)).trans (c3 i hi).1, (eo _ (by omega) (by omega) (by omega) (by omega)).trans (c3 i hi).2.1, (eo _ (by omega) (by omega) (by omega) (by omega)).trans (c3 i hi).2.2⟩
  · rw [txT_x] at hi
    show A' (104 + 2 * i) = nI (1000 * (if i = tX τ then (key, a, c, f) else τ.2.2 i).1 + (if i = tX τ then (key, a, c, f) else τ.2.2 i).2.2.1) ∧ A' (105 + 2 * i) = (if i = tX τ then (key, a, c, f) else τ.2.2 i).2.1 ∧ ∀ k, k < (if i = tX τ then (key, a, c, f) else τ.2.2 i).2.2.1 → A' (132 + 96 * i + k) = cmap (if i = tX τ then (key, a, c, f) else τ.2.2 i).1 ((if i = tX τ then (key, a, c, f) else τ.2.2 i).2.2.2 k)
    by_cases e : i = tX τ
    · rw [if_pos e, e]
      exact ⟨ea, eb, ef⟩
    · rw [if_neg e]
      have hx := (hok.2.2.2.2.2 i (by omega)).2.1
      have := c5 i (by omega)
      exact ⟨(eo _ (by omega) (by omega) (by omega) (by omega)).trans this.1, (eo _ (by omega) (by omega) (by omega) (by omega)).trans this.2.1, fun k hk => (eo _ (by omega) (by omega) (by omega) (by omega)).trans (this.2.2 k hk)⟩
/-- the reference writes it down -/
theorem m_b117 {B T c : Nat} {y : hS} {key : Nat} {f : Nat → Int32} (L : Lay B y) (hT : T < 14) (hc : c ≤ 96) (h17 : hI y (B + 66) 17 = nI c) (hf : ∀ i, i < c → hI y (B + 75) i = cmap key (f i)) (h7 : hI y (B + 67) 7 = nI T) : ∃ u, jL f_X7_text_b117 (fun _ _ _ _ => none) jF (B + 66) (nI T) 0 y = some (nI T, u) ∧ Sx (fun b => b = B + 67) y u ∧ hI u (B + 67) 7 = nI (T + 1) ∧ (∀ k, k < c → hI u (B + 67) (132 + 96 * T + k) = cmap key (f k)) ∧ ∀ j, j ≠ 7 → ¬ (132 + 96 * T ≤ j ∧ j < 132 + 96 * T + 96) → hI u (B + 67) j = hI y (B + 67) j := by
  refine jL_ex (F := f_X7_text_b117) (z := fun _ _ _ _ => none) (fun (k : kr2) i (z : hS) => k (B + 66) (nI T) (nI i) z) c (fun i z => Sx (fun b => b = B + 67) y z ∧ (∀ k, k < i → hI z (B + 67) (132 + 96 * T + k) = cmap key (f k)) ∧ ∀ j, ¬ (132 + 96 * T ≤ j ∧ j < 132 + 96 * T + 96) → hI z (B + 67) j = hI y (B + 67) j) (fun r => ∃ u, r = some (nI T, u) ∧ Sx (fun b => b = B + 67) y u ∧ hI u (B + 67) 7 = nI (T + 1) ∧ (∀ k, k < c → hI u (B + 67) (132 + 96 * T + k) = cmap key (f k)) ∧ ∀ j, j ≠ 7 → ¬ (132 + 96 * T ≤ j ∧ j < 132 + 96 * T + 96) → hI u (B + 67) j = hI y (B + 67) j) (fun i hi z hz k => Or.inl ?_) (fun z hz k => ?_) jF 0 y (Nat.zero_le _) (jF_lt (by omega)) ⟨Sx.rf _ y, fun k hk => absurd hk (Nat.not_lt_zero k), fun _ _ => rfl⟩
  · obtain ⟨x, g1, g2⟩ := hz
    have Lz := L.sx x
    refine ⟨uI z (B + 67) (132 + 96 * T + i) (cmap key (f i)), ⟨x.tr (Sx.u _ _ _ _ rfl), fun k hk => ?_, fun j hj => ?_⟩, ?_⟩
    · by_cases e : k = i
      · rw [e, uI_eq]
      · rw [uI_ne (by omega)]
        exact g1 k (by omega)
    · rw [uI_ne (by omega)]
      exact g2 j hj
    · show f_X7_text_b117 k (B + 66) (nI T) (nI i) z = _
      unfold f_X7_text_b117
      refine bnd (gI_ok Lz.km) ?_
      rw [x.2.2.2 _ (by omega), h17]
      refine ifn (nI_ge hi (by omega)) (bnd Lz.gn (bnd Lz.m16 (bnd (aI_ok i Lz.k75 rfl (by omega) (by decide)) ?_)))
      rw [x.2.2.2 _ (by omega), hf i hi]
      refine bnd (Lz.sn (132 + 96 * T + i) (ixe 132 96 T i rfl) (by omega)) ?_
      rw [nI_1]
  · obtain ⟨x, g1, g2⟩ := hz
    have Lz := L.sx x
    refine ⟨uI z (B + 67) 7 (nI (T + 1)), ?_, x.tr (Sx.u _ _ _ _ rfl), uI_eq _ _ _ _, fun k hk => (uI_ne (by omega)).trans (g1 k hk), fun j h1 h2 => (uI_ne (by omega)).trans (g2 j h2)⟩
    show f_X7_text_b117 k (B + 66) (nI T) (nI c) z = _
    unfold f_X7_text_b117
    refine bnd (gI_ok Lz.km) ?_
    rw [x.2.2.2 _ (by omega), h17]
    refine ifp (nI_le (Nat.le_refl _) (by omega)) (bnd Lz.gn (bnd (Lz.an 7 rfl (by decide)) ?_))
    rw [g2 7 (by omega), h7, nI_1]
    exact bnd (Lz.sn 7 rfl (by decide)) rfl
