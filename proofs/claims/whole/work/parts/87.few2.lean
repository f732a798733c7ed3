/-! the reference's search -/
theorem Lay.k70 {B : Nat} {s : hS} (L : Lay B s) : hK s (B + 70) = (10, 32) := L.k 70 10 32 rfl
theorem Lay.k71 {B : Nat} {s : hS} (L : Lay B s) : hK s (B + 71) = (10, 4) := L.k 71 10 4 rfl
theorem Lay.m4 {B : Nat} {s : hS} (L : Lay B s) : gR s (B + 66) 7 4 = some (B + 70) := L.gm 4 70 0 (by decide)
theorem Lay.m5 {B : Nat} {s : hS} (L : Lay B s) : gR s (B + 66) 7 5 = some (B + 71) := L.gm 5 71 0 (by decide)
abbrev kku2 : Type := Nat → Int32 → Int32 → hS → Option (Unit × hS)
theorem ix8 (a k : Nat) : nI 8 * nI a + nI k = nI (8 * a + k) := by rw [pk_mul, nI_add]
theorem m_ka {B d : Nat} {s : hS} (L : Lay B s) (hd : d ≤ 3) : ∃ s', f_X7_keepsAhead s (B + 66) (nI d) = some ((), s') ∧ Sx (fun x => x = B + 70) s s' ∧ (∀ i, i < 8 → hI s' (B + 70) (8 * d + i) = hI s (B + 67) (40 + 2 * i)) ∧ ∀ k, ¬ (8 * d ≤ k ∧ k < 8 * d + 8) → hI s' (B + 70) k = hI s (B + 70) k := by
  refine jL_ex (F := f_X7_keepsAhead_b2) (z := fun _ _ _ _ => none) (fun (k : kku2) i (y : hS) => k (B + 66) (nI d) (nI i) y) 8 (fun i y => Sx (fun x => x = B + 70) s y ∧ (∀ j, j < i → hI y (B + 70) (8 * d + j) = hI s (B + 67) (40 + 2 * j)) ∧ ∀ k, ¬ (8 * d ≤ k ∧ k < 8 * d + 8) → hI y (B + 70) k = hI s (B + 70) k) (fun r => ∃ s', r = some ((), s') ∧ Sx (fun x => x = B + 70) s s' ∧ (∀ i, i < 8 → hI s' (B + 70) (8 * d + i) = hI s (B + 67) (40 + 2 * i)) ∧ ∀ k, ¬ (8 * d ≤ k ∧ k < 8 * d + 8) → hI s' (B + 70) k = hI s (B + 70) k) (fun i hi y hy k => Or.inl ?_) (fun y hy k => ?_) jF 0 s (Nat.zero_le _) (jF_lt (by omega)) ⟨Sx.rf _ s, fun j hj => absurd hj (Nat.not_lt_zero j), fun _ _ => rfl⟩
  · obtain ⟨x, g1, g2⟩ := hy
    have Ly := L.sx x
    refine ⟨uI y (B + 70) (8 * d + i) (hI s (B + 67) (40 + 2 * i)), ⟨x.tr (Sx.u _ _ _ _ rfl), fun j hj => ?_, fun k hk => ?_⟩, ?_⟩
    · by_cases c : j = i
      · rw [c, uI_eq]
      · rw [uI_ne (by omega)]
        exact g1 j (by omega)
    · rw [uI_ne (by omega)]
      exact g2 k hk
    · show f_X7_keepsAhead_b2 k (B + 66) (nI d) (nI i) y = _
      unfold f_X7_keepsAhead_b2
      refine ifn (nI_ge (b := 8) hi (by decide)) (bnd Ly.m4 (bnd Ly.gn (bnd (Ly.an (40 + 2 * i) (ixm 40 2 i) (by omega)) ?_)))
      rw [x.2.2.2 _ (by omega)]
      refine bnd (sI_ok (8 * d + i) Ly.k70 (ix8 d i) (by omega) (by decide)) ?_
      rw [nI_1]
  · refine ⟨y, ?_, hy.1, hy.2.1, hy.2.2⟩
    show f_X7_keepsAhead_b2 k (B + 66) (nI d) (nI 8) y = _
    unfold f_X7_keepsAhead_b2
    exact ifp (by decide) rfl
theorem m_pb0 {B d : Nat} {s : hS} (L : Lay B s) (hd : d ≤ 3) : ∃ s', f_X7_putsBack s (B + 66) (nI d) = some ((), s') ∧ Sx (fun x => x = B + 67) s s' ∧ (∀ i, i < 8 → hI s' (B + 67) (40 + 2 * i) = hI s (B + 70) (8 * d + i)) ∧ ∀ k, (∀ i, i < 8 → k ≠ 40 + 2 * i) → hI s' (B + 67) k = hI s (B + 67) k := by
  refine jL_ex (F := f_X7_putsBack_b2) (z := fun _ _ _ _ => none) (fun (k : kku2) i (y : hS) => k (B + 66) (nI d) (nI i) y) 8 (fun i y => Sx (fun x => x = B + 67) s y ∧ (∀ j, j < i → hI y (B + 67) (40 + 2 * j) = hI s (B + 70) (8 * d + j)) ∧ ∀ k, (∀ i, i < 8 → k ≠ 40 + 2 * i) → hI y (B + 67) k = hI s (B + 67) k) (fun r => ∃ s', r = some ((), s') ∧ Sx (fun x => x = B + 67) s s' ∧ (∀ i, i < 8 → hI s' (B + 67) (40 + 2 * i) = hI s (B + 70) (8 * d + i)) ∧ ∀ k, (∀ i, i < 8 → k ≠ 40 + 2 * i) → hI s' (B + 67) k = hI s (B + 67) k) (fun i hi y hy k => Or.inl ?_) (fun y hy k => ?_) jF 0 s (Nat.zero_le _) (jF_lt (by omega)) ⟨Sx.rf _ s, fun j hj => absurd hj (Nat.not_lt_zero j), fun _ _ => rfl⟩
  · obtain ⟨x, g1, g2⟩ := hy
    have Ly := L.sx x
    refine ⟨uI y (B + 67) (40 + 2 * i) (hI s (B + 70) (8 * d + i)), ⟨x.tr (Sx.u _ _ _ _ rfl), fun j hj => ?_, fun k hk => ?_⟩, ?_⟩
    · by_cases c : j = i
      · rw [c, uI_eq]
      · rw [uI_ne (by omega)]
        exact g1 j (by omega)
    · have := hk i hi
      rw [uI_ne (by omega)]
      exact g2 k hk
    · show f_X7_putsBack_b2 k (B + 66) (nI d) (nI i) y = _
      unfold f_X7_putsBack_b2
      refine ifn (nI_ge (b := 8) hi (by decide)) (bnd Ly.gn (bnd Ly.m4 (bnd (aI_ok (8 * d + i) Ly.k70 (ix8 d i) (by omega) (by decide)) ?_)))
      rw [x.2.2.2 _ (by omega)]
      refine bnd (Ly.sn (40 + 2 * i) (ixm 40 2 i) (by omega)) ?_
      rw [nI_1]
  · refine ⟨y, ?_, hy.1, hy.2.1, hy.2.2⟩
    show f_X7_putsBack_b2 k (B + 66) (nI d) (nI 8) y = _
    unfold f_X7_putsBack_b2
    exact ifp (by decide) rfl
theorem TwM.pb {A A' : Nat → Int32} {τ σ : Tw} (h : TwM A σ) (hK : Kq τ σ) (h3 : ∀ i, i < 8 → A' (40 + 2 * i) = nI (tR τ 3 i)) (ho : ∀ k, (∀ i, i < 8 → k ≠ 40 + 2 * i) → A' k = A k) : TwM A' (sdT τ σ.2.1.1) := by
  obtain ⟨k1, k2, k3⟩ := hK
  have e0 : ∀ k, σ.1 0 k = τ.1 0 k := fun k => k1 0 k (by omega)
  have eX : tX σ = tX τ := e0 4
  have eL : tL σ = tL τ := e0 2
  obtain ⟨⟨b0, b1, b2, b3, b4, b5, b6, b7⟩, c1, c2, c3, c4, c5⟩ := h
  refine ⟨⟨(ho _ (by omega)).trans (b0.trans (congrArg nI (e0 0))), (ho _ (by omega)).trans (b1.trans (congrArg nI (e0 1))), (ho _ (by omega)).trans (b2.trans (congrArg nI (e0 2))), (ho _ (by omega)).trans (b3.trans (congrArg nI (e0 3))), (ho _ (by omega)).trans (b4.trans (congrArg nI (e0 4))), (ho _ (by omega)).trans (b5.trans (congrArg nI (e0 5))), (ho _ (by omega)).trans b6, (ho _ (by omega)).trans (b7.trans k2)⟩, fun i hi => ⟨(ho _ (by omega)).trans ((c1 i hi).1.trans (congrArg nI (k1 1 i (by omega)))), (ho _ (by omega)).trans ((c1 i hi).2.trans (congrArg nI (k1 2 i (by omega))))⟩, fun i hi => ⟨h3 i hi, (ho _ (by omega)).trans ((c2 i hi).2.trans (congrArg nI (k1 4 i (by omega))))⟩, fun i hi => ?_, fun i hi => ⟨(ho _ (by omega)).trans ((c4 i hi).1.trans (congrArg nI (k1 8 i (by omega)))), (ho _ (by omega)).trans ((c4 i hi).2.1.trans (congrArg nI (k1 9 i (by omega)))), (ho _ (by omega)).trans ((c4 i hi).2.2.trans (congrArg nI (k1 10 i (by omega))))⟩, fun i hi => ?_⟩
  · have := c3 i (by rw [eL]; exact hi)
    exact ⟨(ho _ (by omega)).trans (this.1.trans (congrArg nI (k1 5 i (by omega)))), (ho _ (by omega)).trans (this.2.1.trans (congrArg nI (k1 6 i (by omega)))), (ho _ (by omega)).trans (this.2.2.trans (congrArg nI (k1 7 i (by omega))))⟩
  · have := c5 i (by rw [eX]; exact hi)
    rw [k3] at this
    exact ⟨(ho _ (by omega)).trans this.1, (ho _ (by omega)).trans this.2.1, fun k hk => (ho _ (by omega)).trans (this.2.2 k hk)⟩
theorem m_pb {B d : Nat} {s : hS} {τ σ : Tw} (h : MT B s σ) (hok : TwOk τ) (hd : d ≤ 3) (hK : Kq τ σ) (ha : ∀ i, i < 8 → hI s (B + 70) (8 * d + i) = nI (tR τ 3 i)) : ∃ s', f_X7_putsBack s (B + 66) (nI d) = some ((), s') ∧ MT B s' (sdT τ σ.2.1.1) ∧ Sx (fun x => x = B + 67) s s' := by
  obtain ⟨s', k1, x1, g1, g2⟩ := m_pb0 h.1 hd
  exact ⟨s', k1, ⟨h.1.sx x1, h.2.1.pb hK (fun i hi => (g1 i hi).trans (ha i hi)) g2, hok⟩, x1⟩
/-- what a search of the reference brings -/
def MR (B d m : Nat) (τ : Tw) (s : hS) (o : Option (List Nat) × Int32) (r : Option (Int32 × hS)) : Prop := ∃ s', r = some (bI o.1.isSome, s') ∧ Sx (MP B) s s' ∧ (∀ i, i < d → hI s' (B + 71) i = hI s (B + 71) i) ∧ (∀ k, (k < 8 * d ∨ 24 ≤ k) → hI s' (B + 70) k = hI s (B + 70) k) ∧ (o.1 = none → MT B s' (sdT τ o.2)) ∧ ∀ l, o.1 = some l → (∃ σ, Kq τ σ ∧ MT B s' σ) ∧ ∀ i, i < m → hI s' (B + 71) (d + i) = nI (l.getD i 0)
theorem Sx.m67 {B : Nat} {s t : hS} (h : Sx (fun x => x = B + 67) s t) : Sx (MP B) s t := h.mono (fun a ha => Or.inl ha)
theorem Sx.mz {B : Nat} {s t : hS} (h : Sx (MZ B) s t) : Sx (MP B) s t := h.mono (fun a ha => ha.mp)
theorem MT.u71 {B : Nat} {s : hS} {τ : Tw} (h : MT B s τ) (k : Nat) (v : Int32) : MT B (uI s (B + 71) k v) τ := by
  have e : hI (uI s (B + 71) k v) (B + 67) = hI s (B + 67) := funext fun j => uI_ne (by omega)
  exact ⟨h.1.u _ _ _, by rw [e]; exact h.2.1, h.2.2⟩
abbrev kc6 : Type := Nat → Int32 → Int32 → Int32 → Int32 → Int32 → hS → Option (Int32 × hS)
theorem m_ctl {B p f m d F : Nat} {τ : Tw} (hok : TwOk τ) (hp : p < tP τ) (hf : f < tF τ) (hd : d + m + 1 ≤ 3) (ih : ∀ σ s, MT B s σ → p < tP σ → f < tF σ → MR B (d + 1) m σ s (ctk p f m σ) (f_X7_comesToKnow F s (B + 66) (nI p) (nI f) (nI (d + 1)) (nI (d + m + 1)))) : ∀ r fuel x s, r ≤ tP τ → r < fuel → MT B s (sdT τ x) → (∀ i, i < 8 → hI s (B + 70) (8 * d + i) = nI (tR τ 3 i)) → MR B d (m + 1) τ s (ctl (ctk p f m) p τ r x) (jL (f_X7_comesToKnow_b21 (f_X7_comesToKnow F)) (fun _ _ _ _ _ _ _ => none) fuel (B + 66) (nI p) (nI f) (nI d) (nI (d + m + 1)) (nI (tP τ - r)) s)
  | 0, fuel + 1, x, s, hr, hfu, h, ha => by
    have b8 := hok.1.2.1
    refine ⟨s, ?_, Sx.rf _ s, fun _ _ => rfl, fun _ _ => rfl, fun _ => h, fun l hl => (by cases hl)⟩
    show f_X7_comesToKnow_b21 (f_X7_comesToKnow F) (jL (f_X7_comesToKnow_b21 (f_X7_comesToKnow F)) (fun _ _ _ _ _ _ _ => none) fuel) (B + 66) (nI p) (nI f) (nI d) (nI (d + m + 1)) (nI (tP τ - 0)) s = _
    unfold f_X7_comesToKnow_b21
    refine bnd h.1.gn (bnd (h.1.an 2 rfl (by decide)) ?_)
    rw [h.2.1.1.2.1]
    exact ifp (nI_le (a := tP τ) (by omega) (by omega)) rfl
  | r + 1, fuel + 1, x, s, hr, hfu, h, ha => by
    have b8 := hok.1.2.1
    obtain ⟨q, hq⟩ : ∃ q, q = tP τ - (r + 1) := ⟨_, rfl⟩
    have q1 : q < tP τ := by omega
    have qn : nI q + 1 = nI (tP τ - r) := by rw [nI_1, show q + 1 = tP τ - r by omega]
    have h0 := h.u71 d (nI q)
    have X0 : Sx (MP B) s (uI s (B + 71) d (nI q)) := Sx.u _ _ _ _ (Or.inr (Or.inr (Or.inl rfl)))
    have ha0 : ∀ i, i < 8 → hI (uI s (B + 71) d (nI q)) (B + 70) (8 * d + i) = nI (tR τ 3 i) := fun i hi => (uI_ne (by omega)).trans (ha i hi)
    have pre : ∀ X, (if nI q = nI p then f_X7_comesToKnow_b73 (f_X7_comesToKnow F) (jL (f_X7_comesToKnow_b21 (f_X7_comesToKnow F)) (fun _ _ _ _ _ _ _ => none) fuel) (B + 66) (nI p) (nI f) (nI d) (nI (d + m + 1)) (nI q) (uI s (B + 71) d (nI q)) else (cV (uI s (B + 71) d (nI q)) (B + 66) 7 (f_X7_goes (uI s (B + 71) d (nI q)) (B + 66) (0 : Int32) (nI p) (nI q))).bind fun p5 => if p5.1 = 0 then f_X7_comesToKnow_b73 (f_X7_comesToKnow F) (jL (f_X7_comesToKnow_b21 (f_X7_comesToKnow F)) (fun _ _ _ _ _ _ _ => none) fuel) (B + 66) (nI p) (nI f) (nI d) (nI (d + m + 1)) (nI q) p5.2 else (cV p5.2 (B + 66) 7 (f_X7_comesToKnow F p5.2 (B + 66) (nI p) (nI f) (nI (d + 1)) (nI (d + m + 1)))).bind fun p6 => if p6.1 = 0 then f_X7_comesToKnow_b73 (f_X7_comesToKnow F) (jL (f_X7_comesToKnow_b21 (f_X7_comesToKnow F)) (fun _ _ _ _ _ _ _ => none) fuel) (B + 66) (nI p) (nI f) (nI d) (nI (d + m + 1)) (nI q) p6.2 else some ((1 : Int32), p6.2)) = X → jL (f_X7_comesToKnow_b21 (f_X7_comesToKnow F)) (fun _ _ _ _ _ _ _ => none) (fuel + 1) (B + 66) (nI p) (nI f) (nI d) (nI (d + m + 1)) (nI (tP τ - (r + 1))) s = X := by
      intro X hX
      rw [← hq]
      show f_X7_comesToKnow_b21 (f_X7_comesToKnow F) (jL (f_X7_comesToKnow_b21 (f_X7_comesToKnow F)) (fun _ _ _ _ _ _ _ => none) fuel) (B + 66) (nI p) (nI f) (nI d) (nI (d + m + 1)) (nI q) s = X
      unfold f_X7_comesToKnow_b21
      refine bnd h.1.gn (bnd (h.1.an 2 rfl (by decide)) ?_)
      rw [h.2.1.1.2.1]
      refine ifn (nI_ge (b := tP τ) q1 (by omega)) (bnd h.1.m5 (bnd (sI_ok d h.1.k71 rfl (by omega) (by decide)) ?_))
      rw [nI_1 d]
      exact hX
    have back : ∀ t σ, MT B t σ → Kq τ σ → (∀ i, i < 8 → hI t (B + 70) (8 * d + i) = nI (tR τ 3 i)) → MR B d (m + 1) τ t (ctl (ctk p f m) p τ r σ.2.1.1) (f_X7_comesToKnow_b73 (f_X7_comesToKnow F) (jL (f_X7_comesToKnow_b21 (f_X7_comesToKnow F)) (fun _ _ _ _ _ _ _ => none) fuel) (B + 66) (nI p) (nI f) (nI d) (nI (d + m + 1)) (nI q) t) := by
      intro t σ ht hK hat
      obtain ⟨t1, e1, m1, y1⟩ := m_pb ht hok (by omega) hK hat
      have n71 : ∀ k, hI t1 (B + 71) k = hI t (B + 71) k := fun k => y1.2.2.2 _ (by omega) k
      have n70 : ∀ k, hI t1 (B + 70) k = hI t (B + 70) k := fun k => y1.2.2.2 _ (by omega) k
      obtain ⟨t2, g1, g2, g3, g4, g5⟩ := m_ctl hok hp hf hd ih r fuel σ.2.1.1 t1 (by omega) (by omega) m1 (fun i hi => (n70 _).trans (hat i hi))
      refine ⟨t2, ?_, y1.m67.tr g2, fun i hi => (g3 i hi).trans (n71 i), fun k hk => (g4 k hk).trans (n70 k), g5⟩
      unfold f_X7_comesToKnow_b73
      refine bnd ((cV_ok ht.1.km).trans e1) ?_
      rw [qn]
      exact g1
    have lift : ∀ {t : hS} {o : Option (List Nat) × Int32} {X : Option (Int32 × hS)}, Sx (MP B) s t → (∀ i, i < d → hI t (B + 71) i = hI s (B + 71) i) → (∀ k, (k < 8 * d ∨ 24 ≤ k) → hI t (B + 70) k = hI s (B + 70) k) → MR B d (m + 1) τ t o X → (∀ Y, X = Y → jL (f_X7_comesToKnow_b21 (f_X7_comesToKnow F)) (fun _ _ _ _ _ _ _ => none) (fuel + 1) (B + 66) (nI p) (nI f) (nI d) (nI (d + m + 1)) (nI (tP τ - (r + 1))) s = Y) → MR B d (m + 1) τ s o (jL (f_X7_comesToKnow_b21 (f_X7_comesToKnow F)) (fun _ _ _ _ _ _ _ => none) (fuel + 1) (B + 66) (nI p) (nI f) (nI d) (nI (d + m + 1)) (nI (tP τ - (r + 1))) s) := by
      intro t o X xx a1 a2 hm hX
      obtain ⟨t2, g1, g2, g3, g4, g5⟩ := hm
      exact ⟨t2, hX _ g1, xx.tr g2, fun i hi => (g3 i hi).trans (a1 i hi), fun k hk => (g4 k hk).trans (a2 k hk), g5⟩
    have u71 : ∀ i, i < d → hI (uI s (B + 71) d (nI q)) (B + 71) i = hI s (B + 71) i := fun i hi => uI_ne (by omega)
    have u70 : ∀ k, hI (uI s (B + 71) d (nI q)) (B + 70) k = hI s (B + 70) k := fun k => uI_ne (by omega)
    by_cases cq : q = p
    · rw [ctl_skip (Or.inl (by omega))]
      exact lift X0 u71 (fun k _ => u70 k) (back _ (sdT τ x) h0 (Kq.sd τ x) ha0) (fun Y hY => pre _ (ifp (by rw [cq]) hY))
    have nq : ¬ nI q = nI p := fun z => cq ((nI_eq (by omega) (by omega)).mp z)
    obtain ⟨s1, k1, c1, x1⟩ := m_goes h0 (kind := 0) (p := p) (q := q) (by decide) hp q1 (fun z => cq z.symm)
    have v71 : ∀ k, hI s1 (B + 71) k = hI (uI s (B + 71) d (nI q)) (B + 71) k := fun k => x1.2.2.2 _ (by unfold MZ; omega) k
    have v70 : ∀ k, hI s1 (B + 70) k = hI s (B + 70) k := fun k => (x1.2.2.2 _ (by unfold MZ; omega) k).trans (u70 k)
    have X1 : Sx (MP B) s s1 := X0.tr x1.mz
    cases eg : gos (sdT τ x) 0 p q
    · rw [eg] at k1
      rw [cv0n eg] at c1
      rw [ctl_skip (Or.inr (by rw [← hq]; exact eg))]
      exact lift X1 (fun i hi => (v71 i).trans (u71 i hi)) (fun k _ => v70 k) (back _ (sdT τ x) c1 (Kq.sd τ x) (fun i hi => (v70 _).trans (ha i hi))) (fun Y hY => pre _ (ifn nq (bnd ((cV_ok h0.1.km).trans k1) (ifp rfl hY))))
    rw [eg] at k1
    have hno : ¬ (tP τ - (r + 1) = p ∨ gos (sdT τ x) 0 p (tP τ - (r + 1)) = false) := by
      rw [← hq]
      rintro (z | z)
      · exact cq z
      · rw [eg] at z; cases z
    have kp := cvG_k (sdT τ x) 0 p q
    have kq : Kq τ (cvG (sdT τ x) 0 p q) := (Kq.sd τ x).tr (Kq.cv eg)
    have rr := ih (cvG (sdT τ x) 0 p q) s1 c1 (by rw [kp.p]; exact hp) (by rw [kp.f]; exact hf)
    cases er : ctk p f m (cvG (sdT τ x) 0 p q) with
    | mk o x' =>
      rw [er] at rr
      obtain ⟨s3, k3, x3, u3, w3, n3, y3⟩ := rr
      have X3 : Sx (MP B) s s3 := X1.tr x3
      cases o with
      | some l =>
        obtain ⟨⟨σ, kσ, mσ⟩, l2⟩ := y3 l rfl
        rw [ctl_some hno (by rw [← hq]; exact er)]
        refine ⟨s3, pre _ (ifn nq (bnd ((cV_ok h0.1.km).trans k1) (ifn one_ne (bnd ((cV_ok c1.1.km).trans k3) (ifn one_ne rfl))))), X3, fun i hi => ?_, fun k hk => ?_, fun z => (by cases z), fun l' hl => ⟨⟨σ, kq.tr kσ, mσ⟩, ?_⟩⟩
        · rw [u3 i (by omega), v71, u71 i hi]
        · rw [w3 k (by omega), v70]
        · have := Option.some.inj hl
          subst this
          intro i hi
          cases i with
          | zero =>
            show hI s3 (B + 71) d = nI (tP τ - (r + 1))
            rw [u3 d (by omega), v71, uI_eq, hq]
          | succ i =>
            rw [show d + (i + 1) = d + 1 + i by omega, l2 i (by omega)]
            rfl
      | none =>
        have c3 := n3 rfl
        rw [ctl_none hno (by rw [← hq]; exact er)]
        refine lift X3 (fun i hi => ?_) (fun k hk => ?_) (back s3 (sdT (cvG (sdT τ x) 0 p q) x') c3 (kq.tr (Kq.sd _ _)) (fun i hi => ?_)) (fun Y hY => pre _ (ifn nq (bnd ((cV_ok h0.1.km).trans k1) (ifn one_ne (bnd ((cV_ok c1.1.km).trans k3) (ifp rfl hY))))))
        · rw [u3 i (by omega), v71, u71 i hi]
        · rw [w3 k (by omega), v70]
        · rw [w3 _ (by omega), v70]
          exact ha i hi
theorem m_ctk {B p f : Nat} : ∀ m d F τ s, d + m ≤ 3 → m < F → MT B s τ → p < tP τ → f < tF τ → MR B d m τ s (ctk p f m τ) (f_X7_comesToKnow F s (B + 66) (nI p) (nI f) (nI d) (nI (d + m)))
  | 0, d, F + 1, τ, s, hd, hF, h, hp, hf => by
    have b16 := h.2.2.1.1
    have kn := m_kn h.1 h.2.1 h.2.2 hp (f := f) (by omega)
    show MR B d 0 τ s (if pkn τ f p = true then some [] else none, τ.2.1.1) (f_X7_comesToKnow_body (f_X7_comesToKnow F) s (B + 66) (nI p) (nI f) (nI d) (nI (d + 0)))
    have e : f_X7_comesToKnow_body (f_X7_comesToKnow F) s (B + 66) (nI p) (nI f) (nI d) (nI (d + 0)) = some (bI (pkn τ f p), s) := by
      unfold f_X7_comesToKnow_body
      refine ifp rfl (bnd ((cV_ok h.1.km).trans kn) (ifp ?_ rfl))
      cases pkn τ f p
      · exact Or.inl rfl
      · exact Or.inr rfl
    rw [e]
    cases q : pkn τ f p
    · exact ⟨s, rfl, Sx.rf _ s, fun _ _ => rfl, fun _ _ => rfl, fun _ => h, fun l hl => (by cases hl)⟩
    · exact ⟨s, rfl, Sx.rf _ s, fun _ _ => rfl, fun _ _ => rfl, fun z => (by cases z), fun l hl => ⟨⟨τ, Kq.rf τ, h⟩, fun i hi => absurd hi (Nat.not_lt_zero i)⟩⟩
  | m + 1, d, F + 1, τ, s, hd, hF, h, hp, hf => by
    have b8 := h.2.2.1.2.1
    obtain ⟨s1, k1, x1, g1, g2⟩ := m_ka h.1 (d := d) (by omega)
    have e67 : hI s1 (B + 67) = hI s (B + 67) := funext fun k => x1.2.2.2 _ (by omega) k
    have h1 : MT B s1 (sdT τ τ.2.1.1) := ⟨h.1.sx x1, by rw [e67]; exact h.2.1, h.2.2⟩
    have X1 : Sx (MP B) s s1 := x1.mono (fun a ha => Or.inr (Or.inl ha))
    obtain ⟨s', e1, e2, e3, e4, e5⟩ := m_ctl (F := F) (d := d) (m := m) h.2.2 hp hf (by omega) (fun σ s hs h1 h2 => by
      have := m_ctk m (d + 1) F σ s (by omega) (by omega) hs h1 h2
      rw [show d + 1 + m = d + m + 1 by omega] at this
      exact this) (tP τ) jF τ.2.1.1 s1 (Nat.le_refl _) (by unfold jF; omega) h1 (fun i hi => by rw [g1 i hi]; exact (h.2.1.2.2.1 i hi).1)
    refine ⟨s', ?_, X1.tr e2, fun i hi => (e3 i hi).trans (x1.2.2.2 _ (by omega) i), fun k hk => (e4 k hk).trans (g2 k (by omega)), e5⟩
    show f_X7_comesToKnow_body (f_X7_comesToKnow F) s (B + 66) (nI p) (nI f) (nI d) (nI (d + (m + 1))) = _
    unfold f_X7_comesToKnow_body
    refine ifn (fun z => by have := (nI_eq (by omega) (by omega)).mp z; omega) (bnd ((cV_ok h.1.km).trans k1) ?_)
    rw [Nat.sub_self] at e1
    exact e1
