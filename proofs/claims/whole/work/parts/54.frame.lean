/-- cells that only the town, or nobody's invariant, speaks of -/
def freeL : List Nat := [1, 2, 3, 4, 5, 6, 7, 8, 9, 10, 23, 24, 25, 26, 27, 28, 29, 30, 31, 32, 34, 37, 38, 65, 67, 69, 70, 71, 75, 76, 77, 78, 79, 87]
def FrP (B a : Nat) : Prop := (∃ i ∈ freeL, a = B + i) ∨ ∃ j, a = B + 91 + 3 * j
theorem FrP.i {B i : Nat} (h : i ∈ freeL) : FrP B (B + i) := Or.inl ⟨i, h, rfl⟩
theorem FrP.not {B i : Nat} (h : i < 89) (hn : i ∉ freeL) : ¬ FrP B (B + i) := by
  rintro (⟨j, hj, e⟩ | ⟨j, e⟩)
  · have : i = j := by omega
    subst this
    exact hn hj
  · omega
theorem FrP.txt {B j : Nat} : ¬ FrP B (B + 89 + 3 * j) ∧ ¬ FrP B (B + 89 + 3 * j + 1) := by
  have h : ∀ i ∈ freeL, i < 89 := by decide
  constructor
  · rintro (⟨i, hi, e⟩ | ⟨i, e⟩)
    · have := h i hi; omega
    · omega
  · rintro (⟨i, hi, e⟩ | ⟨i, e⟩)
    · have := h i hi; omega
    · omega
theorem Sx.n {B : Nat} {s t : hS} (h : Sx (FrP B) s t) (i : Nat) (h1 : i < 89) (h2 : i ∉ freeL) (k : Nat) : hI t (B + i) k = hI s (B + i) k := h.2.2.2 _ (FrP.not h1 h2) k
theorem TxC.sx {B j : Nat} {s t : hS} {x : Nat × Int32 × Nat × (Nat → Int32)} (hx : Sx (FrP B) s t) (h : TxC s (B + 89 + 3 * j) x) : TxC t (B + 89 + 3 * j) x := by
  obtain ⟨⟨a1, a2, a3⟩, ⟨b1, b2⟩, ⟨c1, c2⟩, d⟩ := h
  refine ⟨⟨(hx.2.1 _).trans a1, (hx.2.1 _).trans a2, (hx.2.1 _).trans a3⟩, ⟨(hx.2.2.1 _ _).trans b1, (hx.2.2.1 _ _).trans b2⟩, ⟨(hx.2.2.2 _ FrP.txt.2 _).trans c1, (hx.2.2.2 _ FrP.txt.2 _).trans c2⟩, fun k hk => (hx.2.2.2 _ FrP.txt.1 _).trans (d k hk)⟩
/-- the texts of a town stay -/
theorem TwC.texts {B nt T : Nat} {s t : hS} {τ τ' : Tw} (hx : Sx (FrP B) s t) (h : TwC B s nt T τ) (h1 : tX τ' = tX τ) (h2 : τ'.2.2 = τ.2.2) : ∀ i, i < tX τ' → ∃ j, j < nt ∧ hR t (T + 10) i = some (B + 90 + 3 * j) ∧ TxC t (B + 89 + 3 * j) (τ'.2.2 i) := by
  intro i hi
  obtain ⟨j, hj, hr, hc⟩ := h.2 i (by rw [← h1]; exact hi)
  exact ⟨j, hj, (hx.2.2.1 _ _).trans hr, by rw [h2]; exact hc.sx hx⟩
theorem TwN.img {B : Nat} {s t : hS} {ι : Tw} (hx : Sx (FrP B) s t) (h : TwN s (B + 12) ι) : TwN t (B + 12) ι := by
  have e : ∀ r, r < 10 → ∀ k, hI t (B + 12 + r) k = hI s (B + 12 + r) k := by
    intro r hr k
    have h12 : ∀ r, r < 10 → 12 + r < 89 ∧ 12 + r ∉ freeL := by decide
    rw [Nat.add_assoc]
    exact hx.n (12 + r) (h12 r hr).1 (h12 r hr).2 k
  have e0 : ∀ k, hI t (B + 12) k = hI s (B + 12) k := fun k => e 0 (by omega) k
  obtain ⟨⟨a0, a1, a2, a3, a4, a5, a6, a7⟩, b, c, d, f⟩ := h
  refine ⟨⟨(e0 _).trans a0, (e0 _).trans a1, (e0 _).trans a2, (e0 _).trans a3, (e0 _).trans a4, (e0 _).trans a5, (e0 _).trans a6, (e0 _).trans a7⟩, fun i hi => ⟨(e 1 (by omega) _).trans (b i hi).1, (e 2 (by omega) _).trans (b i hi).2⟩, fun i hi => ⟨(e 3 (by omega) _).trans (c i hi).1, (e 4 (by omega) _).trans (c i hi).2⟩, fun i hi => ⟨(e 5 (by omega) _).trans (d i hi).1, (e 6 (by omega) _).trans (d i hi).2⟩, fun i hi => ⟨(e 7 (by omega) _).trans (f i hi).1, (e 8 (by omega) _).trans (f i hi).2.1, (e 9 (by omega) _).trans (f i hi).2.2⟩⟩
theorem InImg.sx {B nt : Nat} {s t : hS} (hx : Sx (FrP B) s t) (h : InImg B s nt) : InImg B t nt := by
  have e1 := hx.n 0 (by decide) (by decide) 3
  have e2 := hx.n 66 (by decide) (by decide) 3
  rcases h with ⟨h1, h2⟩ | ⟨h1, h2, ι, h3, h4, h5⟩
  · exact Or.inl ⟨e1.trans h1, e2.trans h2⟩
  · refine Or.inr ⟨e1.trans h1, e2.trans h2, ι, h3, ⟨h4.1.img hx, h4.texts hx rfl rfl⟩, ?_⟩
    have e3 : hI t (B + 68) = hI s (B + 68) := funext fun k => hx.n 68 (by decide) (by decide) k
    rw [e3]
    exact h5
theorem InTape.sx {B : Nat} {s t : hS} (hx : Sx (FrP B) s t) (h : InTape B s) : InTape B t := by
  obtain ⟨n, h1, h2, h3, h4⟩ := h
  refine ⟨n, h1, (hx.n 35 (by decide) (by decide) 1).trans h2, (hx.n 66 (by decide) (by decide) 7).trans h3, fun i hi => ?_⟩
  obtain ⟨v, g1, g2, g3⟩ := h4 i hi
  exact ⟨v, g1, by rw [hx.n 36 (by decide) (by decide) i]; exact g2, (hx.n 72 (by decide) (by decide) i).trans g3⟩
theorem InShe.sx {B : Nat} {s t : hS} (hx : Sx (FrP B) s t) (h : InShe B s) : InShe B t := by
  intro i hi
  have hh : ∀ i, i < 4 → (40 + 2 * i < 89 ∧ 40 + 2 * i ∉ freeL) ∧ (41 + 2 * i < 89 ∧ 41 + 2 * i ∉ freeL) := by decide
  have e1 : ∀ k, hI t (B + 40 + 2 * i) k = hI s (B + 40 + 2 * i) k := fun k => by rw [Nat.add_assoc]; exact hx.n _ (hh i hi).1.1 (hh i hi).1.2 k
  have e2 : ∀ k, hI t (B + 41 + 2 * i) k = hI s (B + 41 + 2 * i) k := fun k => by rw [Nat.add_assoc]; exact hx.n _ (hh i hi).2.1 (hh i hi).2.2 k
  have e3 := hx.n 80 (by decide) (by decide)
  have e4 := hx.n 81 (by decide) (by decide)
  have e5 := hx.n 82 (by decide) (by decide)
  obtain ⟨⟨g1, g2⟩, g3, g4, g5⟩ := h i hi
  refine ⟨⟨by rw [e1, e3]; exact g1, by rw [e1, e4]; exact g2⟩, by rw [e3]; exact g3, by rw [e4]; exact g4, fun k hk => by rw [e2, e5]; exact g5 k hk⟩
theorem InSlo.sx {B : Nat} {s t : hS} (hx : Sx (FrP B) s t) (h : InSlo B s) : InSlo B t := by
  intro j hj
  have hh : ∀ j, j < 5 → (49 + 3 * j < 89 ∧ 49 + 3 * j ∉ freeL) ∧ (50 + 3 * j < 89 ∧ 50 + 3 * j ∉ freeL) ∧ (51 + 3 * j < 89 ∧ 51 + 3 * j ∉ freeL) := by decide
  have e1 : ∀ k, hI t (B + 49 + 3 * j) k = hI s (B + 49 + 3 * j) k := fun k => by rw [Nat.add_assoc]; exact hx.n _ (hh j hj).1.1 (hh j hj).1.2 k
  have e2 : ∀ k, hI t (B + 50 + 3 * j) k = hI s (B + 50 + 3 * j) k := fun k => by rw [Nat.add_assoc]; exact hx.n _ (hh j hj).2.1.1 (hh j hj).2.1.2 k
  have e3 : ∀ k, hI t (B + 51 + 3 * j) k = hI s (B + 51 + 3 * j) k := fun k => by rw [Nat.add_assoc]; exact hx.n _ (hh j hj).2.2.1 (hh j hj).2.2.2 k
  have e4 := hx.n 83 (by decide) (by decide)
  have e5 := hx.n 84 (by decide) (by decide)
  have e6 := hx.n 85 (by decide) (by decide)
  have e7 := hx.n 86 (by decide) (by decide)
  obtain ⟨q, g1, g2, g3, g4, g5, g6⟩ := h j hj
  refine ⟨q, g1, (e1 _).trans g2, (e4 _).trans g3, fun hq => ?_, fun hq => ?_, fun hq => ?_⟩
  · obtain ⟨k, p, r, f1, f2, f3, f4, f5, f6, f7, f8⟩ := g4 hq
    exact ⟨k, p, r, f1, f2, f3, (e1 _).trans f4, (e1 _).trans f5, (e1 _).trans f6, (e5 _).trans f7, (e6 _).trans f8⟩
  · obtain ⟨⟨n, f1, f2, f3⟩, f4⟩ := g5 hq
    exact ⟨⟨n, f1, (e2 _).trans f2, (e5 _).trans f3⟩, fun k hk => by rw [e3, e7]; exact f4 k hk⟩
  · rw [e1, e5]; exact g6 hq
theorem InWai.sx {B : Nat} {s t : hS} (hx : Sx (FrP B) s t) (h : InWai B s) : InWai B t := by
  obtain ⟨n, h1, h2, h3, h4⟩ := h
  exact ⟨n, h1, (hx.n 0 (by decide) (by decide) 9).trans h2, (hx.n 66 (by decide) (by decide) 33).trans h3, fun i hi => by rw [hx.n 64 (by decide) (by decide) i, hx.n 88 (by decide) (by decide) i]; exact h4 i hi⟩
theorem InKey.sx {B : Nat} {s t : hS} (hx : Sx (FrP B) s t) (h : InKey B s) : InKey B t := ⟨fun i hi => (hx.n 73 (by decide) (by decide) i).trans (h.1 i hi), fun i hi => (hx.n 74 (by decide) (by decide) i).trans (h.2 i hi)⟩
/-- what the invariant says, opened -/
def InvT (B : Nat) (s : hS) (nt : Nat) (τ : Tw) : Prop := Lay B s ∧ s.1 = B + 89 + 3 * nt ∧ TwOk τ ∧ TwC B s nt (B + 1) τ ∧ TwM (hI s (B + 67)) τ ∧ InImg B s nt ∧ InTape B s ∧ InShe B s ∧ InSlo B s ∧ InWai B s ∧ InKey B s
theorem Inv.t {B : Nat} {s : hS} (h : Inv B s) : ∃ nt τ, InvT B s nt τ := by
  obtain ⟨h1, ⟨nt, h2, ⟨τ, h3, h4, h5⟩, h6⟩, h7, h8, h9, h10, h11⟩ := h
  exact ⟨nt, τ, h1, h2, h3, h4, h5, h6, h7, h8, h9, h10, h11⟩
theorem InvT.inv {B nt : Nat} {s : hS} {τ : Tw} (h : InvT B s nt τ) : Inv B s := by
  obtain ⟨h1, h2, h3, h4, h5, h6, h7, h8, h9, h10, h11⟩ := h
  exact ⟨h1, ⟨nt, h2, ⟨τ, h3, h4, h5⟩, h6⟩, h7, h8, h9, h10, h11⟩
/-- the town moves, its texts stay, all else stays -/
theorem InvT.town {B nt : Nat} {s t : hS} {τ τ' : Tw} (h : InvT B s nt τ) (hx : Sx (FrP B) s t) (h1 : tX τ' = tX τ) (h2 : τ'.2.2 = τ.2.2) (hok : TwOk τ') (hN : TwN t (B + 1) τ') (hM : TwM (hI t (B + 67)) τ') : InvT B t nt τ' := by
  obtain ⟨g1, g2, g3, g4, g5, g6, g7, g8, g9, g10, g11⟩ := h
  exact ⟨g1.sx hx, by rw [hx.1.1]; exact g2, hok, ⟨hN, g4.texts hx h1 h2⟩, hM, g6.sx hx, g7.sx hx, g8.sx hx, g9.sx hx, g10.sx hx, g11.sx hx⟩
/-- only what nobody speaks of has moved -/
theorem TwN.keep {B : Nat} {s t : hS} {τ : Tw} {T : Nat} (h : TwN s T τ) (e : ∀ r, r < 10 → ∀ k, hI t (T + r) k = hI s (T + r) k) : TwN t T τ := by
  have e0 : ∀ k, hI t T k = hI s T k := fun k => e 0 (by omega) k
  obtain ⟨⟨a0, a1, a2, a3, a4, a5, a6, a7⟩, b, c, d, f⟩ := h
  exact ⟨⟨(e0 _).trans a0, (e0 _).trans a1, (e0 _).trans a2, (e0 _).trans a3, (e0 _).trans a4, (e0 _).trans a5, (e0 _).trans a6, (e0 _).trans a7⟩, fun i hi => ⟨(e 1 (by omega) _).trans (b i hi).1, (e 2 (by omega) _).trans (b i hi).2⟩, fun i hi => ⟨(e 3 (by omega) _).trans (c i hi).1, (e 4 (by omega) _).trans (c i hi).2⟩, fun i hi => ⟨(e 5 (by omega) _).trans (d i hi).1, (e 6 (by omega) _).trans (d i hi).2⟩, fun i hi => ⟨(e 7 (by omega) _).trans (f i hi).1, (e 8 (by omega) _).trans (f i hi).2.1, (e 9 (by omega) _).trans (f i hi).2.2⟩⟩
/-- a step without a change: the same answer from the same state -/
theorem stp_same {B : Nat} {g6 g7 : hS → Option (Int32 × hS)} (h : ∀ s nt τ, InvT B s nt τ → ∃ v, g6 s = some (v, s) ∧ g7 s = some (v, s)) : StpC B g6 g7 := by
  intro s hs
  obtain ⟨nt, τ, ht⟩ := hs.t
  obtain ⟨v, h1, h2⟩ := h s nt τ ht
  exact ⟨v, s, s, h1, by rw [ht.1.km], h2, hs, by omega, by omega⟩
/-- a step that only writes ints -/
theorem stp_set {B : Nat} {g6 g7 : hS → Option (Int32 × hS)} (h : ∀ s nt τ, InvT B s nt τ → ∃ v s1 s2, g6 s = some (v, s1) ∧ g7 s1 = some (v, s2) ∧ Lay B s1 ∧ Inv B s2 ∧ s2.1 = s.1 ∧ s2.2.1 = s.2.1) : StpC B g6 g7 := by
  intro s hs
  obtain ⟨nt, τ, ht⟩ := hs.t
  obtain ⟨v, s1, s2, h1, h2, h3, h4, h5, h6⟩ := h s nt τ ht
  exact ⟨v, s1, s2, h1, by rw [h3.km], h2, h4, by omega, by omega⟩
