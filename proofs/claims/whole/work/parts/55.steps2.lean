/-- a town with one number put -/
def upT (τ : Tw) (r k v : Nat) : Tw := (fun a i => if a = r ∧ i = k then v else τ.1 a i, τ.2.1, τ.2.2)
theorem uI_ne {s : hS} {a k b j : Nat} {v : Int32} (h : ¬ (b = a ∧ j = k)) : hI (uI s a k v) b j = hI s b j := by rw [hI_u, if_neg h]
theorem uI_eq (s : hS) (a k : Nat) (v : Int32) : hI (uI s a k v) a k = v := by rw [hI_u, if_pos ⟨rfl, rfl⟩]
theorem stp_seed (B : Nat) (a0 : Int32) : StpC B (fun s => f_X6_seed s B a0) (fun s => f_X7_seed s (B + 66) a0) := by
  refine stp_set fun s nt τ h => ?_
  have L := h.1
  have hN := h.2.2.2.1.1
  have hM := h.2.2.2.2.1
  refine ⟨τ.2.1.2, uI s (B + 1) 7 a0, uI (uI s (B + 1) 7 a0) (B + 67) 0 a0, ?_, ?_, L.u _ _ _, ?_, rfl, rfl⟩
  · show f_X6_seed s B a0 = _
    unfold f_X6_seed
    exact bnd L.gt (bnd (gI_ok L.kt) (bnd L.gt (bnd (pI_ok L.kt) (by rw [hN.1.2.2.2.2.2.2.2]))))
  · show f_X7_seed (uI s (B + 1) 7 a0) (B + 66) a0 = _
    unfold f_X7_seed
    refine bnd ((cV_ok (L.u (B + 1) 7 a0).km).trans (X7_bec (L.u _ _ _) 0 rfl (by decide))) ?_
    rw [uI_ne (by omega), hM.1.2.2.2.2.2.2.2]
  · refine (h.town (t := uI (uI s (B + 1) 7 a0) (B + 67) 0 a0) (τ' := (τ.1, (τ.2.1.1, a0), τ.2.2)) ((Sx.u _ _ _ _ (FrP.i (by decide))).tr (Sx.u _ _ _ _ (FrP.i (by decide)))) rfl rfl h.2.2.1 ?_ ?_).inv
    · have e : ∀ r k, r < 10 → ¬ (r = 0 ∧ k = 7) → hI (uI (uI s (B + 1) 7 a0) (B + 67) 0 a0) (B + 1 + r) k = hI s (B + 1 + r) k := fun r k h1 h2 => by rw [uI_ne (by omega), uI_ne (by omega)]
      obtain ⟨⟨b0, b1, b2, b3, b4, b5, b6, b7⟩, c1, c2, c3, c4⟩ := hN
      refine ⟨⟨(e 0 0 (by omega) (by omega)).trans b0, (e 0 1 (by omega) (by omega)).trans b1, (e 0 2 (by omega) (by omega)).trans b2, (e 0 3 (by omega) (by omega)).trans b3, (e 0 4 (by omega) (by omega)).trans b4, (e 0 5 (by omega) (by omega)).trans b5, (e 0 6 (by omega) (by omega)).trans b6, by rw [uI_ne (by omega), uI_eq]⟩, fun i hi => ⟨(e 1 i (by omega) (by omega)).trans (c1 i hi).1, (e 2 i (by omega) (by omega)).trans (c1 i hi).2⟩, fun i hi => ⟨(e 3 i (by omega) (by omega)).trans (c2 i hi).1, (e 4 i (by omega) (by omega)).trans (c2 i hi).2⟩, fun i hi => ⟨(e 5 i (by omega) (by omega)).trans (c3 i hi).1, (e 6 i (by omega) (by omega)).trans (c3 i hi).2⟩, fun i hi => ⟨(e 7 i (by omega) (by omega)).trans (c4 i hi).1, (e 8 i (by omega) (by omega)).trans (c4 i hi).2.1, (e 9 i (by omega) (by omega)).trans (c4 i hi).2.2⟩⟩
    · have e : ∀ k, k ≠ 0 → hI (uI (uI s (B + 1) 7 a0) (B + 67) 0 a0) (B + 67) k = hI s (B + 67) k := fun k h2 => by rw [uI_ne (by omega), uI_ne (by omega)]
      obtain ⟨⟨b0, b1, b2, b3, b4, b5, b6, b7⟩, c1, c2, c3, c4, c5⟩ := hM
      exact ⟨⟨(e _ (by omega)).trans b0, (e _ (by omega)).trans b1, (e _ (by omega)).trans b2, (e _ (by omega)).trans b3, (e _ (by omega)).trans b4, (e _ (by omega)).trans b5, (e _ (by omega)).trans b6, uI_eq _ _ _ _⟩, fun i hi => ⟨(e _ (by omega)).trans (c1 i hi).1, (e _ (by omega)).trans (c1 i hi).2⟩, fun i hi => ⟨(e _ (by omega)).trans (c2 i hi).1, (e _ (by omega)).trans (c2 i hi).2⟩, fun i hi => ⟨(e _ (by omega)).trans (c3 i hi).1, (e _ (by omega)).trans (c3 i hi).2.1, (e _ (by omega)).trans (c3 i hi).2.2⟩, fun i hi => ⟨(e _ (by omega)).trans (c4 i hi).1, (e _ (by omega)).trans (c4 i hi).2.1, (e _ (by omega)).trans (c4 i hi).2.2⟩, fun i hi => ⟨(e _ (by omega)).trans (c5 i hi).1, (e _ (by omega)).trans (c5 i hi).2.1, fun k hk => (e _ (by omega)).trans ((c5 i hi).2.2 k hk)⟩⟩
/-- where the reference keeps a number of the town -/
def mi (r k : Nat) : Nat := if r = 0 then (([1, 2, 4, 3, 7, 5] : List Nat).getD k 0) else if r = 1 then 8 + 2 * k else if r = 2 then 9 + 2 * k else if r = 3 then 40 + 2 * k else if r = 4 then 41 + 2 * k else if r = 8 then 80 + 3 * k else if r = 9 then 81 + 3 * k else 82 + 3 * k
/-- where the class keeps it -/
def ci2 (r : Nat) : Nat := if r < 5 then r else r - 1
def wok (r k : Nat) : Prop := (r = 0 ∧ k < 6 ∧ k ≠ 2 ∧ k ≠ 4) ∨ ((r = 1 ∨ r = 2) ∧ k < 16) ∨ ((r = 3 ∨ r = 4 ∨ r = 8 ∨ r = 9 ∨ r = 10) ∧ k < 8)
theorem TwN.w {s : hS} {T : Nat} {τ : Tw} (h : TwN s T τ) (r k w : Nat) (hr : wok r k) : TwN (uI s (T + ci2 r) k (nI w)) T (upT τ r k w) := by
  have key : ∀ (a r' i : Nat), a = ci2 r' → (r' = 0 ∧ i < 6 ∨ r' = 1 ∨ r' = 2 ∨ r' = 3 ∨ r' = 4 ∨ r' = 8 ∨ r' = 9 ∨ r' = 10) → hI s (T + a) i = nI (τ.1 r' i) → hI (uI s (T + ci2 r) k (nI w)) (T + a) i = nI ((upT τ r k w).1 r' i) := by
    intro a r' i ha hr' he
    show _ = nI (if r' = r ∧ i = k then w else τ.1 r' i)
    by_cases hc : r' = r ∧ i = k
    · obtain ⟨rfl, rfl⟩ := hc
      rw [if_pos ⟨rfl, rfl⟩, ha, uI_eq]
    · rw [if_neg hc, uI_ne, he]
      rintro ⟨h1, h2⟩
      apply hc
      refine ⟨?_, h2⟩
      have h3 : ci2 r' = ci2 r := by omega
      unfold ci2 at h3
      unfold wok at hr
      split at h3 <;> split at h3 <;> omega
  have key2 : ∀ a i, (a = 0 ∧ 6 ≤ i ∨ a = 5 ∨ a = 6) → hI (uI s (T + ci2 r) k (nI w)) (T + a) i = hI s (T + a) i := by
    intro a i ha
    rw [uI_ne]
    rintro ⟨h1, h2⟩
    have h3 : a = ci2 r := by omega
    unfold ci2 at h3
    unfold wok at hr
    split at h3 <;> omega
  obtain ⟨⟨b0, b1, b2, b3, b4, b5, b6, b7⟩, c1, c2, c3, c4⟩ := h
  have hL : tL (upT τ r k w) = tL τ := by
    show (if 0 = r ∧ 2 = k then w else τ.1 0 2) = τ.1 0 2
    rw [if_neg]
    unfold wok at hr
    omega
  have hrl : ∀ q i, (q = 5 ∨ q = 6 ∨ q = 7) → tR (upT τ r k w) q i = tR τ q i := by
    intro q i hq
    show (if q = r ∧ i = k then w else τ.1 q i) = τ.1 q i
    rw [if_neg]
    unfold wok at hr
    omega
  refine ⟨⟨key 0 0 0 rfl (by omega) b0, key 0 0 1 rfl (by omega) b1, key 0 0 2 rfl (by omega) b2, key 0 0 3 rfl (by omega) b3, key 0 0 4 rfl (by omega) b4, key 0 0 5 rfl (by omega) b5, (key2 0 6 (by omega)).trans b6, (key2 0 7 (by omega)).trans b7⟩, fun i hi => ⟨key 1 1 i rfl (by omega) (c1 i hi).1, key 2 2 i rfl (by omega) (c1 i hi).2⟩, fun i hi => ⟨key 3 3 i rfl (by omega) (c2 i hi).1, key 4 4 i rfl (by omega) (c2 i hi).2⟩, fun i hi => ?_, fun i hi => ⟨key 7 8 i rfl (by omega) (c4 i hi).1, key 8 9 i rfl (by omega) (c4 i hi).2.1, key 9 10 i rfl (by omega) (c4 i hi).2.2⟩⟩
  rw [hL] at hi
  rw [hrl 5 i (by omega), hrl 6 i (by omega), hrl 7 i (by omega)]
  exact ⟨(key2 5 i (by omega)).trans (c3 i hi).1, (key2 6 i (by omega)).trans (c3 i hi).2⟩
theorem TwM.w {A A' : Nat → Int32} {τ : Tw} (h : TwM A τ) (hl8 : tL τ ≤ 8) (r k w : Nat) (hr : wok r k) (hA : ∀ i, A' i = if i = mi r k then nI w else A i) : TwM A' (upT τ r k w) := by
  have key : ∀ (r' i j : Nat), j = mi r' i → wok r' i ∨ (r' = 0 ∧ (i = 2 ∨ i = 4)) → A j = nI (τ.1 r' i) → A' j = nI ((upT τ r k w).1 r' i) := by
    intro r' i j hj hr' he
    show _ = nI (if r' = r ∧ i = k then w else τ.1 r' i)
    rw [hA]
    by_cases hc : r' = r ∧ i = k
    · obtain ⟨rfl, rfl⟩ := hc
      rw [if_pos hj, if_pos ⟨rfl, rfl⟩]
    · rw [if_neg hc, if_neg, he]
      intro h1
      apply hc
      have h3 : mi r' i = mi r k := by omega
      clear he hA h hl8
      have hi6 : ∀ q, q < 6 → (([1, 2, 4, 3, 7, 5] : List Nat).getD q 0) < 8 ∧ 0 < (([1, 2, 4, 3, 7, 5] : List Nat).getD q 0) := by decide
      have hinj : ∀ p, p < 6 → ∀ q, q < 6 → (([1, 2, 4, 3, 7, 5] : List Nat).getD p 0) = (([1, 2, 4, 3, 7, 5] : List Nat).getD q 0) → p = q := by decide
      unfold wok at hr hr'
      unfold mi at h3
      by_cases z1 : r' = 0 <;> by_cases z2 : r = 0
      · subst z1; subst z2
        rw [if_pos rfl, if_pos rfl] at h3
        exact ⟨rfl, hinj i (by omega) k (by omega) h3⟩
      · subst z1
        rw [if_pos rfl, if_neg z2] at h3
        have := hi6 i (by omega)
        repeat' split at h3
        all_goals omega
      · subst z2
        rw [if_neg z1, if_pos rfl] at h3
        have := hi6 k (by omega)
        repeat' split at h3
        all_goals omega
      · rw [if_neg z1, if_neg z2] at h3
        repeat' split at h3
        all_goals omega
  have key2 : ∀ j, (j = 0 ∨ j = 6 ∨ (56 ≤ j ∧ j < 80) ∨ 104 ≤ j) → A' j = A j := by
    intro j hj
    rw [hA, if_neg]
    intro h1
    have hi6 : ∀ q, q < 6 → (([1, 2, 4, 3, 7, 5] : List Nat).getD q 0) < 8 ∧ 0 < (([1, 2, 4, 3, 7, 5] : List Nat).getD q 0) ∧ (([1, 2, 4, 3, 7, 5] : List Nat).getD q 0) ≠ 6 := by decide
    unfold wok at hr
    unfold mi at h1
    clear hA h hl8 key
    by_cases z2 : r = 0
    · subst z2
      rw [if_pos rfl] at h1
      have := hi6 k (by omega)
      omega
    · rw [if_neg z2] at h1
      repeat' split at h1
      all_goals omega
  obtain ⟨⟨b0, b1, b2, b3, b4, b5, b6, b7⟩, c1, c2, c3, c4, c5⟩ := h
  have hL : tL (upT τ r k w) = tL τ := by
    show (if 0 = r ∧ 2 = k then w else τ.1 0 2) = τ.1 0 2
    rw [if_neg]
    unfold wok at hr
    omega
  have hX : tX (upT τ r k w) = tX τ := by
    show (if 0 = r ∧ 4 = k then w else τ.1 0 4) = τ.1 0 4
    rw [if_neg]
    unfold wok at hr
    omega
  have hrl : ∀ q i, (q = 5 ∨ q = 6 ∨ q = 7) → tR (upT τ r k w) q i = tR τ q i := by
    intro q i hq
    show (if q = r ∧ i = k then w else τ.1 q i) = τ.1 q i
    rw [if_neg]
    unfold wok at hr
    omega
  refine ⟨⟨key 0 0 1 rfl (by unfold wok; omega) b0, key 0 1 2 rfl (by unfold wok; omega) b1, key 0 2 4 rfl (by unfold wok; omega) b2, key 0 3 3 rfl (by unfold wok; omega) b3, key 0 4 7 rfl (by unfold wok; omega) b4, key 0 5 5 rfl (by unfold wok; omega) b5, (key2 6 (by omega)).trans b6, (key2 0 (by omega)).trans b7⟩, fun i hi => ⟨key 1 i _ rfl (by unfold wok; omega) (c1 i hi).1, key 2 i _ rfl (by unfold wok; omega) (c1 i hi).2⟩, fun i hi => ⟨key 3 i _ rfl (by unfold wok; omega) (c2 i hi).1, key 4 i _ rfl (by unfold wok; omega) (c2 i hi).2⟩, fun i hi => ?_, fun i hi => ⟨key 8 i _ rfl (by unfold wok; omega) (c4 i hi).1, key 9 i _ rfl (by unfold wok; omega) (c4 i hi).2.1, key 10 i _ rfl (by unfold wok; omega) (c4 i hi).2.2⟩, fun i hi => ?_⟩
  · rw [hL] at hi
    have hi8 : i < 8 := by omega
    rw [hrl 5 i (by omega), hrl 6 i (by omega), hrl 7 i (by omega)]
    exact ⟨(key2 _ (by omega)).trans (c3 i hi).1, (key2 _ (by omega)).trans (c3 i hi).2.1, (key2 _ (by omega)).trans (c3 i hi).2.2⟩
  · rw [hX] at hi
    exact ⟨(key2 _ (by omega)).trans (c5 i hi).1, (key2 _ (by omega)).trans (c5 i hi).2.1, fun q hq => (key2 _ (by omega)).trans ((c5 i hi).2.2 q hq)⟩
