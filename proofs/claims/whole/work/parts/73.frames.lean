/-! what the class's town work may touch, what the reference's may -/
def TP (B T a : Nat) : Prop := (T ≤ a ∧ a < T + 10) ∨ ∃ j, a = B + 91 + 3 * j
def CP (B a : Nat) : Prop := (∃ i ∈ freeL, i ≠ 67 ∧ a = B + i) ∨ ∃ j, a = B + 91 + 3 * j
def MP (B a : Nat) : Prop := a = B + 67 ∨ a = B + 70 ∨ a = B + 71 ∨ a = B + 78 ∨ a = B + 79
theorem TP.cp {B T a : Nat} (hT : T = B + 1 ∨ T = B + 23) (h : TP B T a) : CP B a := by
  rcases h with ⟨h1, h2⟩ | h
  · have hh : ∀ i, i < 10 → (1 + i ∈ freeL ∧ 1 + i ≠ 67) ∧ (23 + i ∈ freeL ∧ 23 + i ≠ 67) := by decide
    rcases hT with e | e
    · have := (hh (a - T) (by omega)).1
      exact Or.inl ⟨1 + (a - T), this.1, this.2, by omega⟩
    · have := (hh (a - T) (by omega)).2
      exact Or.inl ⟨23 + (a - T), this.1, this.2, by omega⟩
  · exact Or.inr h
theorem CP.fr {B a : Nat} (h : CP B a) : FrP B a := by
  rcases h with ⟨i, h1, h2, h3⟩ | h
  · exact Or.inl ⟨i, h1, h3⟩
  · exact Or.inr h
theorem MP.fr {B a : Nat} (h : MP B a) : FrP B a := by
  rcases h with h | h | h | h | h
  · exact Or.inl ⟨67, by decide, h⟩
  · exact Or.inl ⟨70, by decide, h⟩
  · exact Or.inl ⟨71, by decide, h⟩
  · exact Or.inl ⟨78, by decide, h⟩
  · exact Or.inl ⟨79, by decide, h⟩
theorem CP.n67 {B : Nat} : ¬ CP B (B + 67) := by
  rintro (⟨i, h1, h2, h3⟩ | ⟨j, h⟩)
  · omega
  · omega
/-- a step that moves the town alone -/
theorem stp_town {B : Nat} {g6 g7 : hS → Option (Int32 × hS)} (h : ∀ s nt τ, InvT B s nt τ → ∃ v τ', tX τ' = tX τ ∧ τ'.2.2 = τ.2.2 ∧ TwOk τ' ∧ (∃ s1, g6 s = some (v, s1) ∧ Sx (CP B) s s1 ∧ TwN s1 (B + 1) τ') ∧ ∀ t, Lay B t → TwM (hI t (B + 67)) τ → ∃ t2, g7 t = some (v, t2) ∧ Sx (MP B) t t2 ∧ TwM (hI t2 (B + 67)) τ') : StpC B g6 g7 := by
  refine stp_set fun s nt τ hi => ?_
  obtain ⟨v, τ', e1, e2, ok, ⟨s1, k1, x1, n1⟩, hm⟩ := h s nt τ hi
  have L1 := hi.1.sx x1
  have e67 : hI s1 (B + 67) = hI s (B + 67) := funext fun k => x1.2.2.2 _ CP.n67 k
  obtain ⟨s2, k2, x2, n2⟩ := hm s1 L1 (by rw [e67]; exact hi.2.2.2.2.1)
  have X : Sx (FrP B) s s2 := (x1.mono (fun a ha => ha.fr)).tr (x2.mono (fun a ha => ha.fr))
  refine ⟨v, s1, s2, k1, k2, L1, (hi.town X e1 e2 ok (TwN.keep (B := B) n1 (fun r hr k => x2.2.2.2 _ ?_ k)) n2).inv, X.1.1, X.1.2⟩
  unfold MP
  omega
theorem TwC.tx {B nt T : Nat} {s t : hS} {τ τ' : Tw} (hT : T = B + 1 ∨ T = B + 23) (hx : Sx (TP B T) s t) (h : TwC B s nt T τ) (h1 : tX τ' = tX τ) (h2 : τ'.2.2 = τ.2.2) (hN : TwN t T τ') : TwC B t nt T τ' := ⟨hN, h.texts (hx.mono (fun a ha => (ha.cp hT).fr)) h1 h2⟩
theorem TP.r {B T : Nat} (r : Nat) (hr : r < 10) : TP B T (T + r) := Or.inl ⟨by omega, by omega⟩
/-- the class's town with a number put -/
theorem TwC.w {B nt T : Nat} {s : hS} {τ : Tw} (hT : T = B + 1 ∨ T = B + 23) (h : TwC B s nt T τ) (r k w : Nat) (hr : wok r k) : TwC B (uI s (T + ci2 r) k (nI w)) nt T (upT τ r k w) := by
  refine h.tx hT (Sx.u s _ k _ (TP.r _ (wok_free hr).2)) ?_ rfl (h.1.w r k w hr)
  show (if 0 = r ∧ 4 = k then w else τ.1 0 4) = τ.1 0 4
  rw [if_neg (by unfold wok at hr; omega)]
theorem TwM.uw {B : Nat} {s : hS} {τ : Tw} (h : TwM (hI s (B + 67)) τ) (hl : tL τ ≤ 8) (r k w : Nat) (hr : wok r k) : TwM (hI (uI s (B + 67) (mi r k) (nI w)) (B + 67)) (upT τ r k w) := by
  refine h.w hl r k w hr (fun i => ?_)
  by_cases hi : i = mi r k
  · rw [hi, if_pos rfl, uI_eq]
  · rw [if_neg hi, uI_ne (by omega)]
/-- said and the seed -/
def sdT (τ : Tw) (x : Int32) : Tw := (τ.1, (x, τ.2.1.2), τ.2.2)
def szT (τ : Tw) (x : Int32) : Tw := (τ.1, (τ.2.1.1, x), τ.2.2)
theorem TwN.sd {s : hS} {T : Nat} {τ : Tw} (h : TwN s T τ) (x : Int32) : TwN (uI s T 6 x) T (sdT τ x) := by
  have e : ∀ r k, r < 10 → ¬ (r = 0 ∧ k = 6) → hI (uI s T 6 x) (T + r) k = hI s (T + r) k := fun r k h1 h2 => uI_ne (by omega)
  have e0 : ∀ k, k ≠ 6 → hI (uI s T 6 x) T k = hI s T k := fun k h2 => uI_ne (by omega)
  obtain ⟨⟨b0, b1, b2, b3, b4, b5, b6, b7⟩, c1, c2, c3, c4⟩ := h
  exact ⟨⟨(e0 0 (by omega)).trans b0, (e0 1 (by omega)).trans b1, (e0 2 (by omega)).trans b2, (e0 3 (by omega)).trans b3, (e0 4 (by omega)).trans b4, (e0 5 (by omega)).trans b5, uI_eq _ _ _ _, (e0 7 (by omega)).trans b7⟩, fun i hi => ⟨(e 1 i (by omega) (by omega)).trans (c1 i hi).1, (e 2 i (by omega) (by omega)).trans (c1 i hi).2⟩, fun i hi => ⟨(e 3 i (by omega) (by omega)).trans (c2 i hi).1, (e 4 i (by omega) (by omega)).trans (c2 i hi).2⟩, fun i hi => ⟨(e 5 i (by omega) (by omega)).trans (c3 i hi).1, (e 6 i (by omega) (by omega)).trans (c3 i hi).2⟩, fun i hi => ⟨(e 7 i (by omega) (by omega)).trans (c4 i hi).1, (e 8 i (by omega) (by omega)).trans (c4 i hi).2.1, (e 9 i (by omega) (by omega)).trans (c4 i hi).2.2⟩⟩
theorem TwN.sz {s : hS} {T : Nat} {τ : Tw} (h : TwN s T τ) (x : Int32) : TwN (uI s T 7 x) T (szT τ x) := by
  have e : ∀ r k, r < 10 → ¬ (r = 0 ∧ k = 7) → hI (uI s T 7 x) (T + r) k = hI s (T + r) k := fun r k h1 h2 => uI_ne (by omega)
  have e0 : ∀ k, k ≠ 7 → hI (uI s T 7 x) T k = hI s T k := fun k h2 => uI_ne (by omega)
  obtain ⟨⟨b0, b1, b2, b3, b4, b5, b6, b7⟩, c1, c2, c3, c4⟩ := h
  exact ⟨⟨(e0 0 (by omega)).trans b0, (e0 1 (by omega)).trans b1, (e0 2 (by omega)).trans b2, (e0 3 (by omega)).trans b3, (e0 4 (by omega)).trans b4, (e0 5 (by omega)).trans b5, (e0 6 (by omega)).trans b6, uI_eq _ _ _ _⟩, fun i hi => ⟨(e 1 i (by omega) (by omega)).trans (c1 i hi).1, (e 2 i (by omega) (by omega)).trans (c1 i hi).2⟩, fun i hi => ⟨(e 3 i (by omega) (by omega)).trans (c2 i hi).1, (e 4 i (by omega) (by omega)).trans (c2 i hi).2⟩, fun i hi => ⟨(e 5 i (by omega) (by omega)).trans (c3 i hi).1, (e 6 i (by omega) (by omega)).trans (c3 i hi).2⟩, fun i hi => ⟨(e 7 i (by omega) (by omega)).trans (c4 i hi).1, (e 8 i (by omega) (by omega)).trans (c4 i hi).2.1, (e 9 i (by omega) (by omega)).trans (c4 i hi).2.2⟩⟩
theorem TwM.sd {B : Nat} {s : hS} {τ : Tw} (h : TwM (hI s (B + 67)) τ) (x : Int32) : TwM (hI (uI s (B + 67) 6 x) (B + 67)) (sdT τ x) := by
  have e : ∀ k, k ≠ 6 → hI (uI s (B + 67) 6 x) (B + 67) k = hI s (B + 67) k := fun k h2 => uI_ne (by omega)
  obtain ⟨⟨b0, b1, b2, b3, b4, b5, b6, b7⟩, c1, c2, c3, c4, c5⟩ := h
  exact ⟨⟨(e _ (by omega)).trans b0, (e _ (by omega)).trans b1, (e _ (by omega)).trans b2, (e _ (by omega)).trans b3, (e _ (by omega)).trans b4, (e _ (by omega)).trans b5, uI_eq _ _ _ _, (e _ (by omega)).trans b7⟩, fun i hi => ⟨(e _ (by omega)).trans (c1 i hi).1, (e _ (by omega)).trans (c1 i hi).2⟩, fun i hi => ⟨(e _ (by omega)).trans (c2 i hi).1, (e _ (by omega)).trans (c2 i hi).2⟩, fun i hi => ⟨(e _ (by omega)).trans (c3 i hi).1, (e _ (by omega)).trans (c3 i hi).2.1, (e _ (by omega)).trans (c3 i hi).2.2⟩, fun i hi => ⟨(e _ (by omega)).trans (c4 i hi).1, (e _ (by omega)).trans (c4 i hi).2.1, (e _ (by omega)).trans (c4 i hi).2.2⟩, fun i hi => ⟨(e _ (by omega)).trans (c5 i hi).1, (e _ (by omega)).trans (c5 i hi).2.1, fun k hk => (e _ (by omega)).trans ((c5 i hi).2.2 k hk)⟩⟩
theorem TwM.sz {B : Nat} {s : hS} {τ : Tw} (h : TwM (hI s (B + 67)) τ) (x : Int32) : TwM (hI (uI s (B + 67) 0 x) (B + 67)) (szT τ x) := by
  have e : ∀ k, k ≠ 0 → hI (uI s (B + 67) 0 x) (B + 67) k = hI s (B + 67) k := fun k h2 => uI_ne (by omega)
  obtain ⟨⟨b0, b1, b2, b3, b4, b5, b6, b7⟩, c1, c2, c3, c4, c5⟩ := h
  exact ⟨⟨(e _ (by omega)).trans b0, (e _ (by omega)).trans b1, (e _ (by omega)).trans b2, (e _ (by omega)).trans b3, (e _ (by omega)).trans b4, (e _ (by omega)).trans b5, (e _ (by omega)).trans b6, uI_eq _ _ _ _⟩, fun i hi => ⟨(e _ (by omega)).trans (c1 i hi).1, (e _ (by omega)).trans (c1 i hi).2⟩, fun i hi => ⟨(e _ (by omega)).trans (c2 i hi).1, (e _ (by omega)).trans (c2 i hi).2⟩, fun i hi => ⟨(e _ (by omega)).trans (c3 i hi).1, (e _ (by omega)).trans (c3 i hi).2.1, (e _ (by omega)).trans (c3 i hi).2.2⟩, fun i hi => ⟨(e _ (by omega)).trans (c4 i hi).1, (e _ (by omega)).trans (c4 i hi).2.1, (e _ (by omega)).trans (c4 i hi).2.2⟩, fun i hi => ⟨(e _ (by omega)).trans (c5 i hi).1, (e _ (by omega)).trans (c5 i hi).2.1, fun k hk => (e _ (by omega)).trans ((c5 i hi).2.2 k hk)⟩⟩
/-- a rule more -/
def ruT (τ : Tw) (a b c : Nat) : Tw := upT (upT (upT (upT τ 5 (tL τ) a) 6 (tL τ) b) 7 (tL τ) c) 0 2 (tL τ + 1)
theorem ru_ne {τ : Tw} {a b c r k : Nat} (h : ¬ ((r = 5 ∨ r = 6 ∨ r = 7) ∧ k = tL τ)) (h2 : ¬ (r = 0 ∧ k = 2)) : (ruT τ a b c).1 r k = τ.1 r k := by
  unfold ruT
  rw [up_ne (by omega), up_ne (by omega), up_ne (by omega), up_ne (by omega)]
theorem ru_5 {τ : Tw} {a b c : Nat} : (ruT τ a b c).1 5 (tL τ) = a := by
  unfold ruT
  rw [up_ne (by omega), up_ne (by omega), up_ne (by omega), up_eq]
theorem ru_6 {τ : Tw} {a b c : Nat} : (ruT τ a b c).1 6 (tL τ) = b := by
  unfold ruT
  rw [up_ne (by omega), up_ne (by omega), up_eq]
theorem ru_7 {τ : Tw} {a b c : Nat} : (ruT τ a b c).1 7 (tL τ) = c := by
  unfold ruT
  rw [up_ne (by omega), up_eq]
theorem ru_L {τ : Tw} {a b c : Nat} : tL (ruT τ a b c) = tL τ + 1 := up_eq _ 0 2 _
theorem TwN.rule {s : hS} {T : Nat} {τ : Tw} (h : TwN s T τ) (a b c : Nat) : TwN (uI (uI (uI s (T + 5) (tL τ) (nI (2 ^ a ||| 2 ^ b))) (T + 6) (tL τ) (nI (2 ^ c))) T 2 (nI (tL τ + 1))) T (ruT τ a b c) := by
  have e : ∀ r k, r < 10 → r ≠ 0 → r ≠ 5 → r ≠ 6 → hI (uI (uI (uI s (T + 5) (tL τ) (nI (2 ^ a ||| 2 ^ b))) (T + 6) (tL τ) (nI (2 ^ c))) T 2 (nI (tL τ + 1))) (T + r) k = hI s (T + r) k := fun r k h1 h2 h3 h4 => by rw [uI_ne (by omega), uI_ne (by omega), uI_ne (by omega)]
  have e0 : ∀ k, k ≠ 2 → hI (uI (uI (uI s (T + 5) (tL τ) (nI (2 ^ a ||| 2 ^ b))) (T + 6) (tL τ) (nI (2 ^ c))) T 2 (nI (tL τ + 1))) T k = hI s T k := fun k h2 => by rw [uI_ne (by omega), uI_ne (by omega), uI_ne (by omega)]
  obtain ⟨⟨b0, b1, b2, b3, b4, b5, b6, b7⟩, c1, c2, c3, c4⟩ := h
  refine ⟨⟨(e0 0 (by omega)).trans b0, (e0 1 (by omega)).trans b1, ?_, (e0 3 (by omega)).trans b3, (e0 4 (by omega)).trans b4, (e0 5 (by omega)).trans b5, (e0 6 (by omega)).trans b6, (e0 7 (by omega)).trans b7⟩, fun i hi => ⟨(e 1 i (by omega) (by omega) (by omega) (by omega)).trans (c1 i hi).1, (e 2 i (by omega) (by omega) (by omega) (by omega)).trans (c1 i hi).2⟩, fun i hi => ⟨(e 3 i (by omega) (by omega) (by omega) (by omega)).trans (c2 i hi).1, (e 4 i (by omega) (by omega) (by omega) (by omega)).trans (c2 i hi).2⟩, fun i hi => ?_, fun i hi => ⟨(e 7 i (by omega) (by omega) (by omega) (by omega)).trans (c4 i hi).1, (e 8 i (by omega) (by omega) (by omega) (by omega)).trans (c4 i hi).2.1, (e 9 i (by omega) (by omega) (by omega) (by omega)).trans (c4 i hi).2.2⟩⟩
  · rw [uI_eq, ru_L]
  · rw [ru_L] at hi
    by_cases q : i = tL τ
    · subst q
      rw [show tR (ruT τ a b c) 5 (tL τ) = a from ru_5, show tR (ruT τ a b c) 6 (tL τ) = b from ru_6, show tR (ruT τ a b c) 7 (tL τ) = c from ru_7]
      refine ⟨?_, ?_⟩
      · rw [uI_ne (by omega), uI_ne (by omega), uI_eq]
      · rw [uI_ne (by omega), uI_eq]
    · rw [show tR (ruT τ a b c) 5 i = tR τ 5 i from ru_ne (by omega) (by omega), show tR (ruT τ a b c) 6 i = tR τ 6 i from ru_ne (by omega) (by omega), show tR (ruT τ a b c) 7 i = tR τ 7 i from ru_ne (by omega) (by omega)]
      refine ⟨?_, ?_⟩
      · rw [uI_ne (by omega), uI_ne (by omega), uI_ne (by omega)]; exact (c3 i (by omega)).1
      · rw [uI_ne (by omega), uI_ne (by omega), uI_ne (by omega)]; exact (c3 i (by omega)).2
theorem TwM.rule {B : Nat} {s : hS} {τ : Tw} (h : TwM (hI s (B + 67)) τ) (hl : tL τ < 8) (a b c : Nat) : TwM (hI (uI (uI (uI (uI s (B + 67) (56 + 3 * tL τ) (nI a)) (B + 67) (57 + 3 * tL τ) (nI b)) (B + 67) (58 + 3 * tL τ) (nI c)) (B + 67) 4 (nI (tL τ + 1))) (B + 67)) (ruT τ a b c) := by
  have e : ∀ k, k ≠ 4 → (k < 56 ∨ 80 ≤ k) → hI (uI (uI (uI (uI s (B + 67) (56 + 3 * tL τ) (nI a)) (B + 67) (57 + 3 * tL τ) (nI b)) (B + 67) (58 + 3 * tL τ) (nI c)) (B + 67) 4 (nI (tL τ + 1))) (B + 67) k = hI s (B + 67) k := fun k h2 h3 => by rw [uI_ne (by omega), uI_ne (by omega), uI_ne (by omega), uI_ne (by omega)]
  obtain ⟨⟨b0, b1, b2, b3, b4, b5, b6, b7⟩, c1, c2, c3, c4, c5⟩ := h
  refine ⟨⟨(e _ (by omega) (by omega)).trans b0, (e _ (by omega) (by omega)).trans b1, by rw [uI_eq, ru_L], (e _ (by omega) (by omega)).trans b3, (e _ (by omega) (by omega)).trans b4, (e _ (by omega) (by omega)).trans b5, (e _ (by omega) (by omega)).trans b6, (e _ (by omega) (by omega)).trans b7⟩, fun i hi => ⟨(e _ (by omega) (by omega)).trans (c1 i hi).1, (e _ (by omega) (by omega)).trans (c1 i hi).2⟩, fun i hi => ⟨(e _ (by omega) (by omega)).trans (c2 i hi).1, (e _ (by omega) (by omega)).trans (c2 i hi).2⟩, fun i hi => ?_, fun i hi => ⟨(e _ (by omega) (by omega)).trans (c4 i hi).1, (e _ (by omega) (by omega)).trans (c4 i hi).2.1, (e _ (by omega) (by omega)).trans (c4 i hi).2.2⟩, fun i hi => ⟨(e _ (by omega) (by omega)).trans (c5 i hi).1, (e _ (by omega) (by omega)).trans (c5 i hi).2.1, fun k hk => (e _ (by omega) (by omega)).trans ((c5 i hi).2.2 k hk)⟩⟩
  rw [ru_L] at hi
  by_cases q : i = tL τ
  · subst q
    rw [show tR (ruT τ a b c) 5 (tL τ) = a from ru_5, show tR (ruT τ a b c) 6 (tL τ) = b from ru_6, show tR (ruT τ a b c) 7 (tL τ) = c from ru_7]
    refine ⟨?_, ?_, ?_⟩
    · rw [uI_ne (by omega), uI_ne (by omega), uI_ne (by omega), uI_eq]
    · rw [uI_ne (by omega), uI_ne (by omega), uI_eq]
    · rw [uI_ne (by omega), uI_eq]
  · rw [show tR (ruT τ a b c) 5 i = tR τ 5 i from ru_ne (by omega) (by omega), show tR (ruT τ a b c) 6 i = tR τ 6 i from ru_ne (by omega) (by omega), show tR (ruT τ a b c) 7 i = tR τ 7 i from ru_ne (by omega) (by omega)]
    refine ⟨?_, ?_, ?_⟩
    · rw [uI_ne (by omega), uI_ne (by omega), uI_ne (by omega), uI_ne (by omega)]; exact (c3 i (by omega)).1
    · rw [uI_ne (by omega), uI_ne (by omega), uI_ne (by omega), uI_ne (by omega)]; exact (c3 i (by omega)).2.1
    · rw [uI_ne (by omega), uI_ne (by omega), uI_ne (by omega), uI_ne (by omega)]; exact (c3 i (by omega)).2.2
/-- a set of facts, told as a number -/
theorem nI_all (x : Int32) : ∃ n : Nat, n < 2 ^ 32 ∧ x = nI n := ⟨x.toBitVec.toNat, x.toBitVec.isLt, Int32.toBitVec_inj.mp (by
  show x.toBitVec = BitVec.ofNat 32 x.toBitVec.toNat
  rw [BitVec.ofNat_toNat, BitVec.setWidth_eq])⟩
theorem nI_0ne {n : Nat} (h0 : n ≠ 0) (hn : n < 2 ^ 32) : ¬ nI n = 0 := by
  intro e
  have := congrArg (fun x : Int32 => x.toBitVec.toNat) e
  rw [pk_tn hn] at this
  exact h0 this
theorem nI_big {n : Nat} (h : 2 ^ 31 ≤ n) (hn : n < 2 ^ 32) : nI n < 0 := by
  rw [Int32.lt_iff_toInt_lt]
  show (BitVec.ofNat 32 n).toInt < 0
  rw [BitVec.toInt_eq_toNat_cond, BitVec.toNat_ofNat, Nat.mod_eq_of_lt hn, if_neg (by omega)]
  omega
theorem dif_le (a b : Nat) : dif a b ≤ a := by
  have e : dif a b = a &&& dif a b := by
    apply Nat.eq_of_testBit_eq
    intro i
    rw [Nat.testBit_and, dif_tb]
    cases a.testBit i <;> simp
  have : a &&& dif a b ≤ a := Nat.and_le_left
  rw [← e] at this
  exact this
theorem dif_0 (n F : Nat) : dif n (2 ^ F - 1) = 0 ↔ n < 2 ^ F := by
  constructor
  · intro h
    apply Nat.lt_pow_two_of_testBit
    intro i hi
    have := dif_tb n (2 ^ F - 1) i
    rw [h, Nat.zero_testBit, Nat.testBit_two_pow_sub_one, decide_eq_false (by omega)] at this
    cases q : n.testBit i
    · rfl
    · rw [q] at this
      cases this
  · intro h
    apply Nat.eq_of_testBit_eq
    intro i
    rw [dif_tb, Nat.zero_testBit, Nat.testBit_two_pow_sub_one]
    by_cases c : i < F
    · rw [decide_eq_true c]
      simp
    · rw [Nat.testBit_lt_two_pow (Nat.lt_of_lt_of_le h (Nat.pow_le_pow_right (by decide) (by omega)))]
      rfl
theorem c_all {s : hS} {T : Nat} {τ : Tw} (h : TLy s T) (hN : TwN s T τ) (hF : tF τ ≤ 16) : f_X5_allFacts s T = some (nI (2 ^ tF τ - 1), s) := by
  unfold f_X5_allFacts
  refine bnd (gI_ok h.1) ?_
  have : 0 < 2 ^ tF τ := Nat.two_pow_pos _
  rw [hN.1.1, bi_one (by omega), show nI (2 ^ tF τ) - 1 = nI (2 ^ tF τ - 1) from pk_sub (b := 1) (by omega)]
theorem stp_knows (B : Nat) (a0 a1 a2 : Int32) : StpC B (fun s => f_X6_knows s B a0 a1 a2) (fun s => f_X7_knows s (B + 66) a0 a1 a2) := by
  refine stp_town fun s nt τ h => ?_
  have L := h.1
  have hN := h.2.2.2.1.1
  have hM := h.2.2.2.2.1
  have hok := h.2.2.1
  have T1 := L.tly 1 (Or.inl rfl)
  have b8 := hok.1.2.1
  have b16 := hok.1.1
  have same : ∀ v, f_X6_knows s B a0 a1 a2 = some (v, s) → (∀ t, Lay B t → TwM (hI t (B + 67)) τ → f_X7_knows t (B + 66) a0 a1 a2 = some (v, t)) → ∃ v τ', tX τ' = tX τ ∧ τ'.2.2 = τ.2.2 ∧ TwOk τ' ∧ (∃ s1, f_X6_knows s B a0 a1 a2 = some (v, s1) ∧ Sx (CP B) s s1 ∧ TwN s1 (B + 1) τ') ∧ ∀ t, Lay B t → TwM (hI t (B + 67)) τ → ∃ t2, f_X7_knows t (B + 66) a0 a1 a2 = some (v, t2) ∧ Sx (MP B) t t2 ∧ TwM (hI t2 (B + 67)) τ' := fun v h6 h7 => ⟨v, τ, rfl, rfl, hok, ⟨s, h6, Sx.rf _ s, hN⟩, fun t Lt Mt => ⟨t, h7 t Lt Mt, Sx.rf _ t, Mt⟩⟩
  show ∃ v τ', tX τ' = tX τ ∧ τ'.2.2 = τ.2.2 ∧ TwOk τ' ∧ (∃ s1, f_X6_knows s B a0 a1 a2 = some (v, s1) ∧ Sx (CP B) s s1 ∧ TwN s1 (B + 1) τ') ∧ ∀ t, Lay B t → TwM (hI t (B + 67)) τ → ∃ t2, f_X7_knows t (B + 66) a0 a1 a2 = some (v, t2) ∧ Sx (MP B) t t2 ∧ TwM (hI t2 (B + 67)) τ'
  have bad : (a0 < 0 ∨ nI (tP τ) ≤ a0) → ∃ v τ', tX τ' = tX τ ∧ τ'.2.2 = τ.2.2 ∧ TwOk τ' ∧ (∃ s1, f_X6_knows s B a0 a1 a2 = some (v, s1) ∧ Sx (CP B) s s1 ∧ TwN s1 (B + 1) τ') ∧ ∀ t, Lay B t → TwM (hI t (B + 67)) τ → ∃ t2, f_X7_knows t (B + 66) a0 a1 a2 = some (v, t2) ∧ Sx (MP B) t t2 ∧ TwM (hI t2 (B + 67)) τ' := by
    intro hb
    refine same (-1000000001) ?_ (fun t Lt Mt => ?_)
    · unfold f_X6_knows
      exact bnd ((cV_ok L.kx).trans (noP_out L hN hb)) (ifn one_ne rfl)
    · unfold f_X7_knows
      exact bnd ((cV_ok Lt.km).trans (isP_out Lt Mt hok hb)) (ifp rfl rfl)
  rcases pk_ix a0 (n := tP τ) (by omega) with hb | hb | ⟨p, hp, rfl⟩
  · exact bad (Or.inl hb)
  · exact bad (Or.inr hb)
  clear bad
  have p8 : p < 8 := by omega
  have cc := (cV_ok L.kx).trans (noP_in L hN hok hp)
  rcases rng a1 1 (by decide) with hb | ⟨q, hq, rfl⟩
  · refine same (-1000000001) ?_ (fun t Lt Mt => ?_)
    · unfold f_X6_knows
      exact bnd cc (ifp rfl (bnd (out_no s hb) (ifn one_ne rfl)))
    · unfold f_X7_knows
      exact bnd ((cV_ok Lt.km).trans (isP_in Lt Mt hok hp)) (ifn one_ne (bnd (in_no t hb) (ifp rfl rfl)))
  have cin := out_in s (n := 1) hq (by decide) (i := nI q) (b := 1) rfl rfl
  have min_ : ∀ t, f_X7_in t (nI q) 0 1 = some (1, t) := fun t => in_yes t (n := 1) hq (by decide) rfl rfl
  have call := (cV_ok T1.1).trans (c_all T1 hN b16)
  obtain ⟨n, hn, rfl⟩ := nI_all a2
  have hp16 : 2 ^ tF τ ≤ 2 ^ 16 := Nat.pow_le_pow_right (by decide) b16
  by_cases c : ¬ n < 2 ^ tF τ
  · have d0 : dif n (2 ^ tF τ - 1) ≠ 0 := fun e => c ((dif_0 n (tF τ)).mp e)
    have d1 := dif_le n (2 ^ tF τ - 1)
    refine same (-1000000001) ?_ (fun t Lt Mt => ?_)
    · unfold f_X6_knows
      refine bnd cc (ifp rfl (bnd cin (ifp rfl (bnd L.gt (bnd call ?_)))))
      rw [bi_dif]
      exact ifn (nI_0ne d0 (by omega)) rfl
    · unfold f_X7_knows f_X7_isSet
      refine bnd ((cV_ok Lt.km).trans (isP_in Lt Mt hok hp)) (ifn one_ne (bnd (min_ t) (ifn one_ne (bnd (x := (0, t)) ((cV_ok Lt.km).trans ?_) (ifp rfl rfl)))))
      by_cases g : 2 ^ 31 ≤ n
      · exact ifp (nI_big g hn) rfl
      · refine ifn (nI_pos (by omega)) (bnd Lt.gn (bnd (Lt.an 1 rfl (by decide)) ?_))
        rw [Mt.1.1, bi_shr (by omega) (by omega)]
        refine ifn (nI_0ne ?_ ?_) rfl
        · have := Nat.div_pos (a := n) (b := 2 ^ tF τ) (by omega) (Nat.two_pow_pos _)
          omega
        · exact Nat.lt_of_le_of_lt (Nat.div_le_self _ _) (by omega)
  replace c := Classical.not_not.mp c
  have csub : (nI n &&& (nI (2 ^ tF τ - 1) ^^^ (-1))) = 0 := by
    rw [bi_dif, (dif_0 n (tF τ)).mpr c]
    rfl
  have mset : ∀ t, Lay B t → TwM (hI t (B + 67)) τ → f_X7_isSet t (B + 66) (nI n) = some (1, t) := by
    intro t Lt Mt
    unfold f_X7_isSet
    refine ifn (nI_pos (by omega)) (bnd Lt.gn (bnd (Lt.an 1 rfl (by decide)) ?_))
    rw [Mt.1.1, bi_shr (by omega) (by omega), Nat.div_eq_of_lt c]
    exact ifp rfl rfl
  have w3 := (hok.p3 hp)
  have hq2 : q = 0 ∨ q = 1 := by omega
  rcases hq2 with rfl | rfl
  · have hl := hok.rl.lt c
    refine ⟨nI (tR τ 3 p), upT τ 3 p (cl8 τ.1 n), rfl, rfl, hok.r3 p _ hl (cl8_fix _ _), ⟨uI s (B + 1 + 3) p (nI (cl8 τ.1 n)), ?_, Sx.u s _ _ _ (TP.cp (Or.inl rfl) (TP.r 3 (by omega))), hN.w 3 p _ (by unfold wok; omega)⟩, fun t Lt Mt => ?_⟩
    · unfold f_X6_knows
      refine bnd cc (ifp rfl (bnd cin (ifp rfl (bnd L.gt (bnd call (ifp csub (ifp rfl (bnd L.gt (bnd T1.g10 (bnd (T1.a3 p8) (bnd L.gt (bnd T1.g10 (bnd L.gt (bnd ((cV_ok T1.1).trans (c_wwf T1 hN hok.rl c)) (bnd (T1.s3 p8) ?_)))))))))))))))
      rw [(hN.2.2.1 p p8).1]
    · have M1 : TwM (hI (uI t (B + 67) (40 + 2 * p) (nI n)) (B + 67)) (upT τ 3 p n) := Mt.uw hok.1.2.2.1 3 p n (by unfold wok; omega)
      have e3 : tR (upT τ 3 p n) 3 p = n := up_eq τ 3 p n
      have r1 : RlOk (upT τ 3 p n) := hok.rl
      have lr := m_learn (Lt.u (B + 67) (40 + 2 * p) (nI n)) M1 r1 (m := 0) p8 (by rw [e3]; exact c) (Nat.two_pow_pos _)
      have ec : cl8 (upT τ 3 p n).1 (tR (upT τ 3 p n) 3 p ||| 0) = cl8 τ.1 n := by
        rw [e3, Nat.or_zero]
        have e : ∀ x, rlP (upT τ 3 p n).1 x = rlP τ.1 x := fun x => rlP_tf (by omega) x
        have eg : ∀ m x, clo (upT τ 3 p n).1 m x = clo τ.1 m x := by
          intro m
          induction m with
          | zero => exact fun x => rfl
          | succ m ih =>
            intro x
            show clo (upT τ 3 p n).1 m (rlP (upT τ 3 p n).1 x) = clo τ.1 m (rlP τ.1 x)
            rw [ih, e]
        exact eg _ _
      rw [ec] at lr
      refine ⟨uI (uI t (B + 67) (40 + 2 * p) (nI n)) (B + 67) (40 + 2 * p) (nI (cl8 τ.1 n)), ?_, (Sx.u t _ _ _ (Or.inl rfl)).tr (Sx.u _ _ _ _ (Or.inl rfl)), ?_⟩
      · unfold f_X7_knows
        refine bnd ((cV_ok Lt.km).trans (isP_in Lt Mt hok hp)) (ifn one_ne (bnd (min_ t) (ifn one_ne (bnd ((cV_ok Lt.km).trans (mset t Lt Mt)) (ifn one_ne (bnd ((cV_ok Lt.km).trans (X7_bec Lt (40 + 2 * p) (ixe 40 2 p 0 (by omega)) (by omega))) (bnd ((cV_ok (Lt.u _ _ _).km).trans lr) ?_)))))))
        rw [(Mt.2.2.1 p p8).1]
      · have M2 := M1.uw hok.1.2.2.1 3 p (cl8 τ.1 n) (by unfold wok; omega)
        have eu : upT (upT τ 3 p n) 3 p (cl8 τ.1 n) = upT τ 3 p (cl8 τ.1 n) := by
          have : (fun a i => if a = 3 ∧ i = p then cl8 τ.1 n else (upT τ 3 p n).1 a i) = (fun a i => if a = 3 ∧ i = p then cl8 τ.1 n else τ.1 a i) := by
            funext a i
            by_cases q : a = 3 ∧ i = p
            · rw [if_pos q, if_pos q]
            · rw [if_neg q, if_neg q, up_ne q]
          show (_, τ.2.1, τ.2.2) = (_, τ.2.1, τ.2.2)
          rw [this]
        rw [eu] at M2
        exact M2
  · refine ⟨nI (tR τ 4 p), upT τ 4 p n, rfl, rfl, hok.r4 p _ c, ⟨uI s (B + 1 + 4) p (nI n), ?_, Sx.u s _ _ _ (TP.cp (Or.inl rfl) (TP.r 4 (by omega))), hN.w 4 p _ (by unfold wok; omega)⟩, fun t Lt Mt => ?_⟩
    · unfold f_X6_knows
      refine bnd cc (ifp rfl (bnd cin (ifp rfl (bnd L.gt (bnd call (ifp csub (ifn (by decide) (bnd L.gt (bnd T1.g11 (bnd (T1.a4 p8) (bnd L.gt (bnd T1.g11 (bnd (T1.s4 p8) ?_)))))))))))))
      rw [(hN.2.2.1 p p8).2]
    · have M1 : TwM (hI (uI t (B + 67) (41 + 2 * p) (nI n)) (B + 67)) (upT τ 4 p n) := Mt.uw hok.1.2.2.1 4 p n (by unfold wok; omega)
      have ok4 := hok.r4 p n c
      have e3 : tR (upT τ 4 p n) 3 p = tR τ 3 p := rfl
      have lr := m_learn (Lt.u (B + 67) (41 + 2 * p) (nI n)) M1 ok4.rl (m := 0) p8 (by rw [e3]; exact w3.2.2.1) (Nat.two_pow_pos _)
      have ec : cl8 (upT τ 4 p n).1 (tR (upT τ 4 p n) 3 p ||| 0) = tR τ 3 p := by
        rw [e3, Nat.or_zero]
        exact cl8_id (ok4.2.2.1 p hp).2.2
      rw [ec] at lr
      refine ⟨uI (uI t (B + 67) (41 + 2 * p) (nI n)) (B + 67) (40 + 2 * p) (nI (tR τ 3 p)), ?_, (Sx.u t _ _ _ (Or.inl rfl)).tr (Sx.u _ _ _ _ (Or.inl rfl)), ?_⟩
      · unfold f_X7_knows
        refine bnd ((cV_ok Lt.km).trans (isP_in Lt Mt hok hp)) (ifn one_ne (bnd (min_ t) (ifn one_ne (bnd ((cV_ok Lt.km).trans (mset t Lt Mt)) (ifn one_ne (bnd ((cV_ok Lt.km).trans (X7_bec Lt (41 + 2 * p) (ixe 40 2 p 1 (by omega)) (by omega))) (bnd ((cV_ok (Lt.u _ _ _).km).trans lr) ?_)))))))
        rw [(Mt.2.2.1 p p8).2]
      · have M2 := M1.uw hok.1.2.2.1 3 p (tR τ 3 p) (by unfold wok; omega)
        rw [up_same (show (upT τ 4 p n).1 3 p = tR τ 3 p from rfl)] at M2
        exact M2
