/-! a town becomes another: the class -/
theorem aN_ok {s : hS} {a c n : Nat} (k : Nat) (h : hK s a = (c, n)) (hk : k < n) (hn : n < 2 ^ 31) : aN s a c (nI k) = some (hR s a k) := by
  have h2 := nI_in2 hk hn
  have h3 := nI_clamp (Nat.lt_trans hk hn)
  rw [aN, if_pos ⟨by rw [show s.2.2.1 a = (c, n) from h], by rw [show s.2.2.1 a = (c, n) from h]; exact h2⟩, h3]
theorem sN_ok {s : hS} {a c n q : Nat} (k : Nat) (o : Option Nat) (h : hK s a = (c, n)) (hk : k < n) (hn : n < 2 ^ 31) (ho : ∀ b, o = some b → (hK s b).1 = q) : sN s a c (nI k) q o = some (uR s a k o) := by
  have h2 := nI_in2 hk hn
  have h3 := nI_clamp (Nat.lt_trans hk hn)
  cases e : o with
  | none => rw [sN, if_pos ⟨by rw [show s.2.2.1 a = (c, n) from h], by rw [show s.2.2.1 a = (c, n) from h]; exact h2⟩, h3]
  | some b => rw [sN, sR, if_pos ⟨by rw [show s.2.2.1 a = (c, n) from h], ho b e, by rw [show s.2.2.1 a = (c, n) from h]; exact h2⟩, h3]
/-- one town's cells alone have moved -/
def Rx (T0 : Nat) (s t : hS) : Prop := (t.1 = s.1 ∧ t.2.1 = s.2.1) ∧ (∀ a, hK t a = hK s a) ∧ (∀ a, a ≠ T0 + 10 → ∀ k, hR t a k = hR s a k) ∧ ∀ a, ¬ (T0 ≤ a ∧ a < T0 + 10) → ∀ k, hI t a k = hI s a k
theorem TLy.rx {s t : hS} {T0 T : Nat} (h : TLy s T) (hx : Rx T0 s t) (hT : T ≠ T0 + 10) : TLy t T := ⟨(hx.2.1 _).trans h.1, fun i hi => (hx.2.1 _).trans (h.2.1 i hi), fun i hi => (hx.2.1 _).trans (h.2.2.1 i hi), (hx.2.1 _).trans h.2.2.2.1, fun i hi => (hx.2.2.1 _ hT _).trans (h.2.2.2.2 i hi)⟩
theorem TLy.s2 {s : hS} {T k : Nat} {v : Int32} (h : TLy s T) (hk : k < 16) : sI s (T + 2) 10 (nI k) v = some (uI s (T + 2) k v) := sI_ok k (h.2.1 1 (by decide)) rfl hk (by decide)
theorem TLy.s7 {s : hS} {T k : Nat} {v : Int32} (h : TLy s T) (hk : k < 8) : sI s (T + 7) 10 (nI k) v = some (uI s (T + 7) k v) := sI_ok k (h.2.2.1 4 (by decide)) rfl hk (by decide)
theorem TLy.s8 {s : hS} {T k : Nat} {v : Int32} (h : TLy s T) (hk : k < 8) : sI s (T + 8) 10 (nI k) v = some (uI s (T + 8) k v) := sI_ok k (h.2.2.1 5 (by decide)) rfl hk (by decide)
theorem TLy.s9 {s : hS} {T k : Nat} {v : Int32} (h : TLy s T) (hk : k < 8) : sI s (T + 9) 10 (nI k) v = some (uI s (T + 9) k v) := sI_ok k (h.2.2.1 6 (by decide)) rfl hk (by decide)
/-- what of the rows has come over -/
def Qb (s : hS) (T0 T1 : Nat) (D : Nat → Nat → Prop) (y : hS) : Prop := Rx T0 s y ∧ ∀ r k, D r k → hI y (T0 + r) k = hI s (T1 + r) k
theorem Qb.u {s y : hS} {T0 T1 : Nat} {D : Nat → Nat → Prop} (h : Qb s T0 T1 D y) (r0 i : Nat) (hr : r0 < 10) : Qb s T0 T1 (fun r k => D r k ∨ (r = r0 ∧ k = i)) (uI y (T0 + r0) i (hI s (T1 + r0) i)) := by
  refine ⟨⟨h.1.1, h.1.2.1, h.1.2.2.1, fun a ha k => ?_⟩, fun r k hD => ?_⟩
  · rw [uI_ne (by omega)]
    exact h.1.2.2.2 a ha k
  · by_cases e : r = r0 ∧ k = i
    · rw [e.1, e.2, uI_eq]
    · rw [uI_ne (by omega)]
      rcases hD with hD | hD
      · exact h.2 r k hD
      · exact absurd hD e
theorem Qb.mono {s y : hS} {T0 T1 : Nat} {D D' : Nat → Nat → Prop} (h : Qb s T0 T1 D y) (hd : ∀ r k, D' r k → D r k) : Qb s T0 T1 D' y := ⟨h.1, fun r k hD => h.2 r k (hd r k hD)⟩
def DD (a b c d e : Nat) (r k : Nat) : Prop := (r = 0 ∧ k < a) ∨ ((r = 1 ∨ r = 2) ∧ k < b) ∨ ((r = 3 ∨ r = 4) ∧ k < c) ∨ ((r = 5 ∨ r = 6) ∧ k < d) ∨ ((r = 7 ∨ r = 8 ∨ r = 9) ∧ k < e)
section BC
variable {s : hS} {T0 T1 : Nat}
theorem Qb.rd {D : Nat → Nat → Prop} {y : hS} (h : Qb s T0 T1 D y) (hd : T1 + 10 < T0 ∨ T0 + 10 < T1) (r k : Nat) (hr : r < 10) : hI y (T1 + r) k = hI s (T1 + r) k := h.1.2.2.2 _ (by omega) k
abbrev kb3 : Type := Nat → Nat → Int32 → hS → Option (Unit × hS)
def BFin (s : hS) (T0 T1 : Nat) (r : Option (Unit × hS)) : Prop := ∃ s', r = some ((), s') ∧ Qb s T0 T1 (DD 8 16 8 8 8) s' ∧ ∀ i, i < 14 → hR s' (T0 + 10) i = hR s (T1 + 10) i
theorem bk5 (h0 : TLy s T0) (h1 : TLy s T1) (hd : T1 + 10 < T0 ∨ T0 + 10 < T1) (hr : ∀ i, i < 14 → ∀ b, hR s (T1 + 10) i = some b → (hK s b).1 = 4) (y : hS) (hy : Qb s T0 T1 (DD 8 16 8 8 8) y) : BFin s T0 T1 (jL f_X5_becomes_b230 (fun _ _ _ _ => none) jF T0 T1 0 y) := by
  refine jL_ex (F := f_X5_becomes_b230) (z := fun _ _ _ _ => none) (fun (k : kb3) i (y : hS) => k T0 T1 (nI i) y) 14 (fun i y => Qb s T0 T1 (DD 8 16 8 8 8) y ∧ ∀ j, j < i → hR y (T0 + 10) j = hR s (T1 + 10) j) (BFin s T0 T1) (fun i hi y hy k => Or.inl ?_) (fun y hy k => ?_) jF 0 y (Nat.zero_le _) (jF_lt (by omega)) ⟨hy, fun j hj => absurd hj (Nat.not_lt_zero j)⟩
  · obtain ⟨q, g⟩ := hy
    have l0 := h0.rx q.1 (by omega)
    have l1 := h1.rx q.1 (by omega)
    have e : hR y (T1 + 10) i = hR s (T1 + 10) i := q.1.2.2.1 _ (by omega) i
    refine ⟨uR y (T0 + 10) i (hR s (T1 + 10) i), ⟨⟨⟨q.1.1, q.1.2.1, fun a ha k => ?_, q.1.2.2.2⟩, q.2⟩, fun j hj => ?_⟩, ?_⟩
    · show (if a = T0 + 10 ∧ k = i then hR s (T1 + 10) i else hR y a k) = hR s a k
      rw [if_neg (by omega)]
      exact q.1.2.2.1 a ha k
    · show (if T0 + 10 = T0 + 10 ∧ j = i then hR s (T1 + 10) i else hR y (T0 + 10) j) = hR s (T1 + 10) j
      by_cases c : j = i
      · rw [if_pos ⟨rfl, c⟩, c]
      · rw [if_neg (by omega)]
        exact g j (by omega)
    · show f_X5_becomes_b230 k T0 T1 (nI i) y = _
      unfold f_X5_becomes_b230
      refine ifn (nI_ge (b := 14) hi (by decide)) (bnd l0.g17 (bnd l1.g17 (bnd (aN_ok i l1.2.2.2.1 hi (by decide)) ?_)))
      rw [e, nI_1]
      exact bnd (sN_ok i _ l0.2.2.2.1 hi (by decide) (fun b hb => by rw [q.1.2.1]; exact hr i hi b hb)) rfl
  · refine ⟨y, ?_, hy.1, hy.2⟩
    show f_X5_becomes_b230 k T0 T1 (nI 14) y = _
    unfold f_X5_becomes_b230
    exact ifp (by decide) rfl
theorem bk4 (h0 : TLy s T0) (h1 : TLy s T1) (hd : T1 + 10 < T0 ∨ T0 + 10 < T1) (hr : ∀ i, i < 14 → ∀ b, hR s (T1 + 10) i = some b → (hK s b).1 = 4) (y : hS) (hy : Qb s T0 T1 (DD 8 16 8 8 0) y) : BFin s T0 T1 (jL f_X5_becomes_b180 (fun _ _ _ _ => none) jF T0 T1 0 y) := by
  refine jL_ex (F := f_X5_becomes_b180) (z := fun _ _ _ _ => none) (fun (k : kb3) i (y : hS) => k T0 T1 (nI i) y) 8 (fun i y => Qb s T0 T1 (DD 8 16 8 8 i) y) (BFin s T0 T1) (fun i hi y hy k => Or.inl ?_) (fun y hy k => ?_) jF 0 y (Nat.zero_le _) (jF_lt (by omega)) hy
  · have l0 := h0.rx hy.1 (by omega)
    have l1 := h1.rx hy.1 (by omega)
    have q1 := hy.u 7 i (by omega)
    have l2 := h0.rx q1.1 (by omega)
    have l3 := h1.rx q1.1 (by omega)
    have q2 := q1.u 8 i (by omega)
    have l4 := h0.rx q2.1 (by omega)
    have l5 := h1.rx q2.1 (by omega)
    have q3 := q2.u 9 i (by omega)
    refine ⟨_, q3.mono (fun r k h => ?_), ?_⟩
    · show ((DD 8 16 8 8 i r k ∨ (r = 7 ∧ k = i)) ∨ (r = 8 ∧ k = i)) ∨ (r = 9 ∧ k = i)
      unfold DD at h ⊢
      omega
    · show f_X5_becomes_b180 k T0 T1 (nI i) y = _
      unfold f_X5_becomes_b180
      refine ifn (nI_ge (b := 8) hi (by decide)) (bnd l0.g14 (bnd l1.g14 (bnd (l1.a7 hi) ?_)))
      rw [hy.rd hd 7 i (by omega)]
      refine bnd (l0.s7 hi) (bnd l2.g15 (bnd l3.g15 (bnd (l3.ap hi) ?_)))
      rw [q1.rd hd 8 i (by omega)]
      refine bnd (l2.s8 hi) (bnd l4.g16 (bnd l5.g16 (bnd (l5.aq hi) ?_)))
      rw [q2.rd hd 9 i (by omega)]
      refine bnd (l4.s9 hi) ?_
      rw [nI_1]
  · show BFin s T0 T1 (f_X5_becomes_b180 k T0 T1 (nI 8) y)
    unfold f_X5_becomes_b180
    rw [if_pos (by decide)]
    exact bk5 h0 h1 hd hr y hy
theorem bk3 (h0 : TLy s T0) (h1 : TLy s T1) (hd : T1 + 10 < T0 ∨ T0 + 10 < T1) (hr : ∀ i, i < 14 → ∀ b, hR s (T1 + 10) i = some b → (hK s b).1 = 4) (y : hS) (hy : Qb s T0 T1 (DD 8 16 8 0 0) y) : BFin s T0 T1 (jL f_X5_becomes_b142 (fun _ _ _ _ => none) jF T0 T1 0 y) := by
  refine jL_ex (F := f_X5_becomes_b142) (z := fun _ _ _ _ => none) (fun (k : kb3) i (y : hS) => k T0 T1 (nI i) y) 8 (fun i y => Qb s T0 T1 (DD 8 16 8 i 0) y) (BFin s T0 T1) (fun i hi y hy k => Or.inl ?_) (fun y hy k => ?_) jF 0 y (Nat.zero_le _) (jF_lt (by omega)) hy
  · have l0 := h0.rx hy.1 (by omega)
    have l1 := h1.rx hy.1 (by omega)
    have q1 := hy.u 5 i (by omega)
    have l2 := h0.rx q1.1 (by omega)
    have l3 := h1.rx q1.1 (by omega)
    have q2 := q1.u 6 i (by omega)
    refine ⟨_, q2.mono (fun r k h => ?_), ?_⟩
    · show (DD 8 16 8 i 0 r k ∨ (r = 5 ∧ k = i)) ∨ (r = 6 ∧ k = i)
      unfold DD at h ⊢
      omega
    · show f_X5_becomes_b142 k T0 T1 (nI i) y = _
      unfold f_X5_becomes_b142
      refine ifn (nI_ge (b := 8) hi (by decide)) (bnd l0.g12 (bnd l1.g12 (bnd (l1.a5 hi) ?_)))
      rw [hy.rd hd 5 i (by omega)]
      refine bnd (l0.s5 hi) (bnd l2.g13 (bnd l3.g13 (bnd (l3.a6 hi) ?_)))
      rw [q1.rd hd 6 i (by omega)]
      refine bnd (l2.s6 hi) ?_
      rw [nI_1]
  · show BFin s T0 T1 (f_X5_becomes_b142 k T0 T1 (nI 8) y)
    unfold f_X5_becomes_b142
    rw [if_pos (by decide)]
    exact bk4 h0 h1 hd hr y hy
theorem bk2 (h0 : TLy s T0) (h1 : TLy s T1) (hd : T1 + 10 < T0 ∨ T0 + 10 < T1) (hr : ∀ i, i < 14 → ∀ b, hR s (T1 + 10) i = some b → (hK s b).1 = 4) (y : hS) (hy : Qb s T0 T1 (DD 8 16 0 0 0) y) : BFin s T0 T1 (jL f_X5_becomes_b104 (fun _ _ _ _ => none) jF T0 T1 0 y) := by
  refine jL_ex (F := f_X5_becomes_b104) (z := fun _ _ _ _ => none) (fun (k : kb3) i (y : hS) => k T0 T1 (nI i) y) 8 (fun i y => Qb s T0 T1 (DD 8 16 i 0 0) y) (BFin s T0 T1) (fun i hi y hy k => Or.inl ?_) (fun y hy k => ?_) jF 0 y (Nat.zero_le _) (jF_lt (by omega)) hy
  · have l0 := h0.rx hy.1 (by omega)
    have l1 := h1.rx hy.1 (by omega)
    have q1 := hy.u 3 i (by omega)
    have l2 := h0.rx q1.1 (by omega)
    have l3 := h1.rx q1.1 (by omega)
    have q2 := q1.u 4 i (by omega)
    refine ⟨_, q2.mono (fun r k h => ?_), ?_⟩
    · show (DD 8 16 i 0 0 r k ∨ (r = 3 ∧ k = i)) ∨ (r = 4 ∧ k = i)
      unfold DD at h ⊢
      omega
    · show f_X5_becomes_b104 k T0 T1 (nI i) y = _
      unfold f_X5_becomes_b104
      refine ifn (nI_ge (b := 8) hi (by decide)) (bnd l0.g10 (bnd l1.g10 (bnd (l1.a3 hi) ?_)))
      rw [hy.rd hd 3 i (by omega)]
      refine bnd (l0.s3 hi) (bnd l2.g11 (bnd l3.g11 (bnd (l3.a4 hi) ?_)))
      rw [q1.rd hd 4 i (by omega)]
      refine bnd (l2.s4 hi) ?_
      rw [nI_1]
  · show BFin s T0 T1 (f_X5_becomes_b104 k T0 T1 (nI 8) y)
    unfold f_X5_becomes_b104
    rw [if_pos (by decide)]
    exact bk3 h0 h1 hd hr y hy
theorem bk1 (h0 : TLy s T0) (h1 : TLy s T1) (hd : T1 + 10 < T0 ∨ T0 + 10 < T1) (hr : ∀ i, i < 14 → ∀ b, hR s (T1 + 10) i = some b → (hK s b).1 = 4) (y : hS) (hy : Qb s T0 T1 (DD 8 0 0 0 0) y) : BFin s T0 T1 (jL f_X5_becomes_b66 (fun _ _ _ _ => none) jF T0 T1 0 y) := by
  refine jL_ex (F := f_X5_becomes_b66) (z := fun _ _ _ _ => none) (fun (k : kb3) i (y : hS) => k T0 T1 (nI i) y) 16 (fun i y => Qb s T0 T1 (DD 8 i 0 0 0) y) (BFin s T0 T1) (fun i hi y hy k => Or.inl ?_) (fun y hy k => ?_) jF 0 y (Nat.zero_le _) (jF_lt (by omega)) hy
  · have l0 := h0.rx hy.1 (by omega)
    have l1 := h1.rx hy.1 (by omega)
    have q1 := hy.u 1 i (by omega)
    have l2 := h0.rx q1.1 (by omega)
    have l3 := h1.rx q1.1 (by omega)
    have q2 := q1.u 2 i (by omega)
    refine ⟨_, q2.mono (fun r k h => ?_), ?_⟩
    · show (DD 8 i 0 0 0 r k ∨ (r = 1 ∧ k = i)) ∨ (r = 2 ∧ k = i)
      unfold DD at h ⊢
      omega
    · show f_X5_becomes_b66 k T0 T1 (nI i) y = _
      unfold f_X5_becomes_b66
      refine ifn (nI_ge (b := 16) hi (by decide)) (bnd l0.g8 (bnd l1.g8 (bnd (l1.a1 hi) ?_)))
      rw [hy.rd hd 1 i (by omega)]
      refine bnd (l0.s1 hi) (bnd l2.g9 (bnd l3.g9 (bnd (l3.a2 hi) ?_)))
      rw [q1.rd hd 2 i (by omega)]
      refine bnd (l2.s2 hi) ?_
      rw [nI_1]
  · show BFin s T0 T1 (f_X5_becomes_b66 k T0 T1 (nI 16) y)
    unfold f_X5_becomes_b66
    rw [if_pos (by decide)]
    exact bk2 h0 h1 hd hr y hy
theorem bkh (h0 : TLy s T0) (h1 : TLy s T1) (hd : T1 + 10 < T0 ∨ T0 + 10 < T1) {D : Nat → Nat → Prop} {y : hS} (h : Qb s T0 T1 D y) (i : Nat) : ∃ y', Qb s T0 T1 (fun r k => D r k ∨ (r = 0 ∧ k = i)) y' ∧ ∀ {β : Type} (g : hS → Option β), ((gI y T1 5 i).bind fun x => (pI y T0 5 i x).bind g) = g y' := by
  have l0 := h0.rx h.1 (by omega)
  have l1 := h1.rx h.1 (by omega)
  refine ⟨uI y T0 i (hI s T1 i), h.u 0 i (by omega), fun g => ?_⟩
  refine bnd (gI_ok l1.1) ?_
  rw [show hI y T1 i = hI s T1 i from h.rd hd 0 i (by omega)]
  exact bnd (pI_ok l0.1) rfl
theorem c_bco (h0 : TLy s T0) (h1 : TLy s T1) (hd : T1 + 10 < T0 ∨ T0 + 10 < T1) (hr : ∀ i, i < 14 → ∀ b, hR s (T1 + 10) i = some b → (hK s b).1 = 4) : BFin s T0 T1 (f_X5_becomes s T0 T1) := by
  have q0 : Qb s T0 T1 (DD 0 0 0 0 0) s := ⟨⟨⟨rfl, rfl⟩, fun _ => rfl, fun _ _ _ => rfl, fun _ _ _ => rfl⟩, fun r k h => by unfold DD at h; omega⟩
  obtain ⟨y1, q1, e1⟩ := bkh h0 h1 hd q0 0
  obtain ⟨y2, q2, e2⟩ := bkh h0 h1 hd q1 1
  obtain ⟨y3, q3, e3⟩ := bkh h0 h1 hd q2 2
  obtain ⟨y4, q4, e4⟩ := bkh h0 h1 hd q3 3
  obtain ⟨y5, q5, e5⟩ := bkh h0 h1 hd q4 4
  obtain ⟨y6, q6, e6⟩ := bkh h0 h1 hd q5 5
  obtain ⟨y7, q7, e7⟩ := bkh h0 h1 hd q6 6
  obtain ⟨y8, q8, e8⟩ := bkh h0 h1 hd q7 7
  have qf := q8.mono (D' := DD 8 0 0 0 0) (fun r k h => by
    have hk : r = 0 ∧ k < 8 := by
      unfold DD at h
      omega
    obtain ⟨hr0, hk⟩ := hk
    have hc : k = 0 ∨ k = 1 ∨ k = 2 ∨ k = 3 ∨ k = 4 ∨ k = 5 ∨ k = 6 ∨ k = 7 := by omega
    rcases hc with c | c | c | c | c | c | c | c
    · exact Or.inl (Or.inl (Or.inl (Or.inl (Or.inl (Or.inl (Or.inl (Or.inr ⟨hr0, c⟩)))))))
    · exact Or.inl (Or.inl (Or.inl (Or.inl (Or.inl (Or.inl (Or.inr ⟨hr0, c⟩))))))
    · exact Or.inl (Or.inl (Or.inl (Or.inl (Or.inl (Or.inr ⟨hr0, c⟩)))))
    · exact Or.inl (Or.inl (Or.inl (Or.inl (Or.inr ⟨hr0, c⟩))))
    · exact Or.inl (Or.inl (Or.inl (Or.inr ⟨hr0, c⟩)))
    · exact Or.inl (Or.inl (Or.inr ⟨hr0, c⟩))
    · exact Or.inl (Or.inr ⟨hr0, c⟩)
    · exact Or.inr ⟨hr0, c⟩)
  obtain ⟨s', kf, rest⟩ := bk1 h0 h1 hd hr _ qf
  refine ⟨s', ?_, rest⟩
  unfold f_X5_becomes
  refine (e1 _).trans ?_
  refine (e2 _).trans ?_
  refine (e3 _).trans ?_
  refine (e4 _).trans ?_
  refine (e5 _).trans ?_
  refine (e6 _).trans ?_
  refine (e7 _).trans ?_
  refine (e8 _).trans ?_
  exact kf
end BC
/-! the reference's copies -/
theorem m_cpa {s : hS} {a b : Nat} (ha : hK s a = (10, 1476)) (hb : hK s b = (10, 1476)) (hne : a ≠ b) : ∃ s', f_X7_copyAll s a b = some ((), s') ∧ Sx (fun x => x = b) s s' ∧ ∀ k, k < 1476 → hI s' b k = hI s a k := by
  refine jL_ex (F := f_X7_copyAll_b2) (z := fun _ _ _ _ => none) (fun (k : kb3) i (y : hS) => k a b (nI i) y) 1476 (fun i y => Sx (fun x => x = b) s y ∧ ∀ k, k < i → hI y b k = hI s a k) (fun r => ∃ s', r = some ((), s') ∧ Sx (fun x => x = b) s s' ∧ ∀ k, k < 1476 → hI s' b k = hI s a k) (fun i hi y hy k => Or.inl ?_) (fun y hy k => ?_) jF 0 s (Nat.zero_le _) (jF_lt (by omega)) ⟨Sx.rf _ s, fun j hj => absurd hj (Nat.not_lt_zero j)⟩
  · obtain ⟨x, g⟩ := hy
    refine ⟨uI y b i (hI s a i), ⟨x.tr (Sx.u _ _ _ _ rfl), fun k hk => ?_⟩, ?_⟩
    · by_cases c : k = i
      · rw [c, uI_eq]
      · rw [uI_ne (by omega)]
        exact g k (by omega)
    · show f_X7_copyAll_b2 k a b (nI i) y = _
      unfold f_X7_copyAll_b2
      refine ifn (nI_ge (b := 1476) hi (by decide)) (bnd (aI_ok i ((x.2.1 _).trans ha) rfl hi (by decide)) ?_)
      rw [x.2.2.2 a hne i]
      refine bnd (sI_ok i ((x.2.1 _).trans hb) rfl hi (by decide)) ?_
      rw [nI_1]
  · refine ⟨y, ?_, hy.1, hy.2⟩
    show f_X7_copyAll_b2 k a b (nI 1476) y = _
    unfold f_X7_copyAll_b2
    exact ifp (by decide) rfl
theorem TwM.cg {A A' : Nat → Int32} {τ : Tw} (h : TwM A τ) (hok : TwOk τ) (e : ∀ k, k < 1476 → A' k = A k) : TwM A' τ := by
  have b1 := hok.1.2.2.1
  have b2 := hok.1.2.2.2.2.1
  obtain ⟨⟨b0, b1, b2, b3, b4, b5, b6, b7⟩, c1, c2, c3, c4, c5⟩ := h
  exact ⟨⟨(e _ (by omega)).trans b0, (e _ (by omega)).trans b1, (e _ (by omega)).trans b2, (e _ (by omega)).trans b3, (e _ (by omega)).trans b4, (e _ (by omega)).trans b5, (e _ (by omega)).trans b6, (e _ (by omega)).trans b7⟩, fun i hi => ⟨(e _ (by omega)).trans (c1 i hi).1, (e _ (by omega)).trans (c1 i hi).2⟩, fun i hi => ⟨(e _ (by omega)).trans (c2 i hi).1, (e _ (by omega)).trans (c2 i hi).2⟩, fun i hi => ⟨(e _ (by omega)).trans (c3 i hi).1, (e _ (by omega)).trans (c3 i hi).2.1, (e _ (by omega)).trans (c3 i hi).2.2⟩, fun i hi => ⟨(e _ (by omega)).trans (c4 i hi).1, (e _ (by omega)).trans (c4 i hi).2.1, (e _ (by omega)).trans (c4 i hi).2.2⟩, fun i hi => ⟨(e _ (by omega)).trans (c5 i hi).1, (e _ (by omega)).trans (c5 i hi).2.1, fun k hk => (e _ (by have := (hok.2.2.2.2.2 i hi).2.1; omega)).trans ((c5 i hi).2.2 k hk)⟩⟩
/-- towns and texts under such moves -/
theorem TwN.cp {s t : hS} {T0 T1 : Nat} {τ : Tw} (h : TwN s T1 τ) (hl : tL τ ≤ 8) (e : ∀ r k, DD 8 16 8 8 8 r k → hI t (T0 + r) k = hI s (T1 + r) k) : TwN t T0 τ := by
  have e0 : ∀ k, k < 8 → hI t T0 k = hI s T1 k := fun k hk => e 0 k (by unfold DD; omega)
  have e1 : ∀ r k, (r = 1 ∨ r = 2) → k < 16 → hI t (T0 + r) k = hI s (T1 + r) k := fun r k h1 h2 => e r k (by unfold DD; omega)
  have e2 : ∀ r k, 3 ≤ r → r < 10 → k < 8 → hI t (T0 + r) k = hI s (T1 + r) k := fun r k h1 h2 h3 => e r k (by unfold DD; omega)
  obtain ⟨⟨b0, b1, b2, b3, b4, b5, b6, b7⟩, c1, c2, c3, c4⟩ := h
  exact ⟨⟨(e0 0 (by omega)).trans b0, (e0 1 (by omega)).trans b1, (e0 2 (by omega)).trans b2, (e0 3 (by omega)).trans b3, (e0 4 (by omega)).trans b4, (e0 5 (by omega)).trans b5, (e0 6 (by omega)).trans b6, (e0 7 (by omega)).trans b7⟩, fun i hi => ⟨(e1 1 i (by omega) hi).trans (c1 i hi).1, (e1 2 i (by omega) hi).trans (c1 i hi).2⟩, fun i hi => ⟨(e2 3 i (by omega) (by omega) hi).trans (c2 i hi).1, (e2 4 i (by omega) (by omega) hi).trans (c2 i hi).2⟩, fun i hi => ⟨(e2 5 i (by omega) (by omega) (by omega)).trans (c3 i hi).1, (e2 6 i (by omega) (by omega) (by omega)).trans (c3 i hi).2⟩, fun i hi => ⟨(e2 7 i (by omega) (by omega) hi).trans (c4 i hi).1, (e2 8 i (by omega) (by omega) hi).trans (c4 i hi).2.1, (e2 9 i (by omega) (by omega) hi).trans (c4 i hi).2.2⟩⟩
theorem TxC.gn {s t : hS} {a : Nat} {x : Nat × Int32 × Nat × (Nat → Int32)} (h : TxC s a x) (hk : ∀ b, hK t b = hK s b) (hr : ∀ k, hR t (a + 1) k = hR s (a + 1) k) (hi : ∀ k, hI t a k = hI s a k ∧ hI t (a + 1) k = hI s (a + 1) k) : TxC t a x := by
  obtain ⟨⟨a1, a2, a3⟩, ⟨b1, b2⟩, ⟨c1, c2⟩, d⟩ := h
  exact ⟨⟨(hk _).trans a1, (hk _).trans a2, (hk _).trans a3⟩, ⟨(hr _).trans b1, (hr _).trans b2⟩, ⟨(hi _).2.trans c1, (hi _).2.trans c2⟩, fun k hk' => (hi _).1.trans (d k hk')⟩
/-- what copies of towns may move, at most: refs of the three rows of texts, ints of towns and of what is worked with -/
def Gx (B : Nat) (s t : hS) : Prop := (t.1 = s.1 ∧ t.2.1 = s.2.1) ∧ (∀ a, hK t a = hK s a) ∧ (∀ a, a ≠ B + 11 → a ≠ B + 22 → a ≠ B + 33 → ∀ k, hR t a k = hR s a k) ∧ ∀ a k, ¬ ((a = B ∧ (k = 3 ∨ k = 9)) ∨ (a = B + 66 ∧ (k = 3 ∨ k = 33)) ∨ (B + 1 ≤ a ∧ a < B + 34) ∨ a = B + 65 ∨ a = B + 67 ∨ a = B + 68 ∨ a = B + 69 ∨ a = B + 70 ∨ a = B + 71 ∨ a = B + 78 ∨ a = B + 79 ∨ ∃ j, a = B + 91 + 3 * j) → hI t a k = hI s a k
theorem Gx.rf (B : Nat) (s : hS) : Gx B s s := ⟨⟨rfl, rfl⟩, fun _ => rfl, fun _ _ _ _ _ => rfl, fun _ _ _ => rfl⟩
theorem Gx.tr {B : Nat} {s t u : hS} (h : Gx B s t) (h2 : Gx B t u) : Gx B s u := ⟨⟨h2.1.1.trans h.1.1, h2.1.2.trans h.1.2⟩, fun a => (h2.2.1 a).trans (h.2.1 a), fun a h3 h4 h5 k => (h2.2.2.1 a h3 h4 h5 k).trans (h.2.2.1 a h3 h4 h5 k), fun a k hn => (h2.2.2.2 a k hn).trans (h.2.2.2 a k hn)⟩
theorem Gx.sx {B : Nat} {P : Nat → Prop} {s t : hS} (h : Sx P s t) (hP : ∀ a, P a → (B + 1 ≤ a ∧ a < B + 34) ∨ a = B + 65 ∨ a = B + 67 ∨ a = B + 68 ∨ a = B + 69 ∨ a = B + 70 ∨ a = B + 71 ∨ a = B + 78 ∨ a = B + 79 ∨ ∃ j, a = B + 91 + 3 * j) : Gx B s t := ⟨h.1, h.2.1, fun a _ _ _ k => h.2.2.1 a k, fun a k hn => h.2.2.2 a (fun hp => hn (Or.inr (Or.inr (hP a hp)))) k⟩
theorem Gx.u {B : Nat} (s : hS) (a k : Nat) (v : Int32) (h : (a = B ∧ (k = 3 ∨ k = 9)) ∨ (a = B + 66 ∧ (k = 3 ∨ k = 33))) : Gx B s (uI s a k v) := ⟨⟨rfl, rfl⟩, fun _ => rfl, fun _ _ _ _ _ => rfl, fun b j hn => uI_ne (fun e => hn (by rw [e.1, e.2]; rcases h with h | h; exact Or.inl h; exact Or.inr (Or.inl h)))⟩
theorem Gx.rx {B T0 : Nat} {s t : hS} (h : Rx T0 s t) (hT : T0 = B + 1 ∨ T0 = B + 12 ∨ T0 = B + 23) : Gx B s t := ⟨h.1, h.2.1, fun a h1 h2 h3 k => h.2.2.1 a (by omega) k, fun a k hn => h.2.2.2 a (fun q => hn (Or.inr (Or.inr (Or.inl (by omega))))) k⟩
theorem Gx.txt {B j : Nat} {s t : hS} {x : Nat × Int32 × Nat × (Nat → Int32)} (h : Gx B s t) (hx : TxC s (B + 89 + 3 * j) x) : TxC t (B + 89 + 3 * j) x := by
  refine hx.gn h.2.1 (fun k => h.2.2.1 _ (by omega) (by omega) (by omega) k) (fun k => ⟨h.2.2.2 _ k ?_, h.2.2.2 _ k ?_⟩)
  · rintro (q | q | q | q | q | q | q | q | q | q | q | ⟨i, q⟩) <;> omega
  · rintro (q | q | q | q | q | q | q | q | q | q | q | ⟨i, q⟩) <;> omega
/-- a town that stays -/
theorem Gx.town {B nt T : Nat} {s t : hS} {τ : Tw} (h : Gx B s t) (hc : TwC B s nt T τ) (hr : ∀ k, hR t (T + 10) k = hR s (T + 10) k) (hi : ∀ r, r < 10 → ∀ k, hI t (T + r) k = hI s (T + r) k) : TwC B t nt T τ := by
  refine ⟨TwN.keep (B := B) hc.1 hi, fun i hi' => ?_⟩
  obtain ⟨j, hj, h1, h2⟩ := hc.2 i hi'
  exact ⟨j, hj, (hr _).trans h1, h.txt h2⟩
/-- a town that came over -/
theorem Gx.came {B nt T0 T1 : Nat} {s t : hS} {τ : Tw} (h : Gx B s t) (hok : TwOk τ) (hc : TwC B s nt T1 τ) (hr : ∀ i, i < 14 → hR t (T0 + 10) i = hR s (T1 + 10) i) (hi : ∀ r k, DD 8 16 8 8 8 r k → hI t (T0 + r) k = hI s (T1 + r) k) : TwC B t nt T0 τ := by
  have b := hok.1.2.2.2.2.1
  refine ⟨hc.1.cp hok.1.2.2.1 hi, fun i hi' => ?_⟩
  obtain ⟨j, hj, h1, h2⟩ := hc.2 i hi'
  exact ⟨j, hj, (hr i (by omega)).trans h1, h.txt h2⟩
def rfs (s t : hS) : hS := (t.1, t.2.1, t.2.2.1, t.2.2.2.1, s.2.2.2.2)
theorem InvT.gen {B nt : Nat} {s t : hS} {τ τ' : Tw} (h : InvT B s nt τ) (hx : Gx B s t) (hl : LyT B t) (hok : TwOk τ') (hC : TwC B t nt (B + 1) τ') (hM : TwM (hI t (B + 67)) τ') (hImg : InImg B t nt) (hWai : InWai B t) : InvT B t nt τ' := by
  have hw : Wx (fun a k => (a = B ∧ (k = 3 ∨ k = 9)) ∨ (a = B + 66 ∧ (k = 3 ∨ k = 33)) ∨ (B + 1 ≤ a ∧ a < B + 34) ∨ a = B + 65 ∨ a = B + 67 ∨ a = B + 68 ∨ a = B + 69 ∨ a = B + 70 ∨ a = B + 71 ∨ a = B + 78 ∨ a = B + 79 ∨ ∃ j, a = B + 91 + 3 * j) s (rfs s t) := ⟨hx.1, hx.2.1, fun _ _ => rfl, hx.2.2.2⟩
  obtain ⟨g1, g2, g3, g4, g5, g6, g7, g8, g9, g10, g11⟩ := h
  have a7 : InTape B (rfs s t) := g7.wx hw (by refine ⟨?_, ?_, fun k => ?_, fun k => ?_⟩ <;> rintro (q | q | q | q | q | q | q | q | q | q | q | ⟨i, q⟩) <;> omega)
  have a8 : InShe B (rfs s t) := g8.wx hw (by
    intro i k hi
    rintro (q | q | q | q | q | q | q | q | q | q | q | ⟨i, q⟩) <;> omega)
  have a9 : InSlo B (rfs s t) := g9.wx hw (by
    intro i k hi
    rintro (q | q | q | q | q | q | q | q | q | q | q | ⟨i, q⟩) <;> omega)
  have a11 : InKey B (rfs s t) := g11.wx hw (by refine ⟨fun k => ?_, fun k => ?_⟩ <;> rintro (q | q | q | q | q | q | q | q | q | q | q | ⟨i, q⟩) <;> omega)
  refine ⟨⟨fun i c hi => (hx.2.1 _).trans (g1.1 i c hi), fun e he => (hx.2.2.1 _ ?_ ?_ ?_ _).trans (g1.2.1 e he), hl⟩, by rw [hx.1.1]; exact g2, hok, hC, hM, hImg, a7, a8, a9, hWai, a11⟩
  · have : ∀ e ∈ layR, e.1 ≠ 11 := by decide
    have := this e he
    omega
  · have : ∀ e ∈ layR, e.1 ≠ 22 := by decide
    have := this e he
    omega
  · have : ∀ e ∈ layR, e.1 ≠ 33 := by decide
    have := this e he
    omega
