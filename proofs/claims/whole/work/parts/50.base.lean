def layK : List (Nat × Nat) := [(6, 11), (5, 18), (10, 16), (10, 16), (10, 8), (10, 8), (10, 8), (10, 8), (10, 8), (10, 8), (10, 8), (14, 14), (5, 18), (10, 16), (10, 16), (10, 8), (10, 8), (10, 8), (10, 8), (10, 8), (10, 8), (10, 8), (14, 14), (5, 18), (10, 16), (10, 16), (10, 8), (10, 8), (10, 8), (10, 8), (10, 8), (10, 8), (10, 8), (14, 14), (0, 10), (3, 2), (8, 96), (10, 96), (10, 96), (12, 4), (1, 3), (10, 24), (1, 3), (10, 24), (1, 3), (10, 24), (1, 3), (10, 24), (13, 5), (2, 6), (1, 3), (10, 24), (2, 6), (1, 3), (10, 24), (2, 6), (1, 3), (10, 24), (2, 6), (1, 3), (10, 24), (2, 6), (1, 3), (10, 24), (10, 60), (10, 3), (7, 34), (10, 1476), (10, 1476), (10, 1476), (10, 32), (10, 4), (10, 96), (9, 13), (10, 4), (10, 96), (10, 96), (11, 10), (10, 96), (10, 4), (10, 4), (10, 4), (10, 96), (10, 5), (10, 5), (10, 5), (10, 120), (10, 24), (10, 60)]
def layR : List (Nat × Nat × Nat) := [(0, 0, 1), (0, 1, 12), (0, 2, 23), (0, 4, 35), (0, 5, 34), (0, 6, 39), (0, 7, 48), (0, 8, 64), (0, 10, 65), (1, 8, 2), (1, 9, 3), (1, 10, 4), (1, 11, 5), (1, 12, 6), (1, 13, 7), (1, 14, 8), (1, 15, 9), (1, 16, 10), (1, 17, 11), (12, 8, 13), (12, 9, 14), (12, 10, 15), (12, 11, 16), (12, 12, 17), (12, 13, 18), (12, 14, 19), (12, 15, 20), (12, 16, 21), (12, 17, 22), (23, 8, 24), (23, 9, 25), (23, 10, 26), (23, 11, 27), (23, 12, 28), (23, 13, 29), (23, 14, 30), (23, 15, 31), (23, 16, 32), (23, 17, 33), (34, 0, 35), (34, 1, 37), (34, 3, 38), (35, 0, 36), (39, 0, 40), (40, 2, 41), (39, 1, 42), (42, 2, 43), (39, 2, 44), (44, 2, 45), (39, 3, 46), (46, 2, 47), (48, 0, 49), (49, 5, 50), (50, 2, 51), (48, 1, 52), (52, 5, 53), (53, 2, 54), (48, 2, 55), (55, 5, 56), (56, 2, 57), (48, 3, 58), (58, 5, 59), (59, 2, 60), (48, 4, 61), (61, 5, 62), (62, 2, 63), (66, 0, 67), (66, 1, 68), (66, 2, 69), (66, 4, 70), (66, 5, 71), (66, 6, 72), (66, 14, 73), (66, 15, 74), (66, 16, 75), (66, 19, 76), (66, 21, 77), (66, 22, 78), (66, 23, 79), (66, 24, 80), (66, 25, 81), (66, 26, 82), (66, 27, 83), (66, 28, 84), (66, 29, 85), (66, 30, 86), (66, 31, 87), (66, 32, 88)]
abbrev hK (s : hS) (a : Nat) : Nat × Nat := s.2.2.1 a
abbrev hI (s : hS) (a k : Nat) : Int32 := s.2.2.2.1 a k
abbrev hR (s : hS) (a k : Nat) : Option Nat := s.2.2.2.2 a k
/-- the cells that are made once: their kinds, and where they point -/
def LyT (B : Nat) (s : hS) : Prop := ∀ o, (o = 11 ∨ o = 22 ∨ o = 33) → ∀ i, i < 14 → ∀ b, hR s (B + o) i = some b → (hK s b).1 = 4 ∧ b < s.1
def Lay (B : Nat) (s : hS) : Prop := (∀ (i : Nat) (c : Nat × Nat), layK[i]? = some c → hK s (B + i) = c) ∧ (∀ e ∈ layR, hR s (B + e.1) e.2.1 = some (B + e.2.2)) ∧ LyT B s
theorem Lay.k {B : Nat} {s : hS} (h : Lay B s) (i c n : Nat) (hi : layK[i]? = some (c, n)) : hK s (B + i) = (c, n) := h.1 i _ hi
theorem Lay.r {B : Nat} {s : hS} (h : Lay B s) (i f t : Nat) (hi : (i, f, t) ∈ layR) : hR s (B + i) f = some (B + t) := h.2.1 (i, f, t) hi
/-- t is s but for ints of cells that P names -/
def Sx (P : Nat → Prop) (s t : hS) : Prop := (t.1 = s.1 ∧ t.2.1 = s.2.1) ∧ (∀ a, hK t a = hK s a) ∧ (∀ a k, hR t a k = hR s a k) ∧ ∀ a, ¬ P a → ∀ k, hI t a k = hI s a k
theorem Sx.rf (P : Nat → Prop) (s : hS) : Sx P s s := ⟨⟨rfl, rfl⟩, fun _ => rfl, fun _ _ => rfl, fun _ _ _ => rfl⟩
theorem Sx.tr {P : Nat → Prop} {s t u : hS} (h : Sx P s t) (h2 : Sx P t u) : Sx P s u := ⟨⟨h2.1.1.trans h.1.1, h2.1.2.trans h.1.2⟩, fun a => (h2.2.1 a).trans (h.2.1 a), fun a k => (h2.2.2.1 a k).trans (h.2.2.1 a k), fun a ha k => (h2.2.2.2 a ha k).trans (h.2.2.2 a ha k)⟩
theorem Sx.mono {P Q : Nat → Prop} {s t : hS} (h : Sx P s t) (hPQ : ∀ a, P a → Q a) : Sx Q s t := ⟨h.1, h.2.1, h.2.2.1, fun a ha k => h.2.2.2 a (fun hp => ha (hPQ a hp)) k⟩
theorem Sx.u (s : hS) (a k : Nat) (v : Int32) {P : Nat → Prop} (hp : P a) : Sx P s (uI s a k v) := ⟨⟨rfl, rfl⟩, fun _ => rfl, fun _ _ => rfl, fun b hb j => by
  have : b ≠ a := fun e => hb (by rw [e]; exact hp)
  simp [hI, uI, this]⟩
theorem Lay.sx {B : Nat} {P : Nat → Prop} {s t : hS} (h : Lay B s) (hx : Sx P s t) : Lay B t := ⟨fun i c hi => (hx.2.1 _).trans (h.1 i c hi), fun e he => (hx.2.2.1 _ _).trans (h.2.1 e he), fun o ho i hi b hb => by rw [hx.2.1, hx.1.1]; exact h.2.2 o ho i hi b ((hx.2.2.1 _ _).symm.trans hb)⟩
theorem hI_u (s : hS) (a k : Nat) (v : Int32) (b j : Nat) : hI (uI s a k v) b j = if b = a ∧ j = k then v else hI s b j := rfl
theorem hK_u (s : hS) (a k : Nat) (v : Int32) (b : Nat) : hK (uI s a k v) b = hK s b := rfl
theorem hR_u (s : hS) (a k : Nat) (v : Int32) (b j : Nat) : hR (uI s a k v) b j = hR s b j := rfl
/-- reads and writes that go well -/
theorem gI_ok {s : hS} {a c k n : Nat} (h : hK s a = (c, n)) : gI s a c k = some (hI s a k) := by simp [gI, h, hI]
theorem gR_ok {s : hS} {a c k n b : Nat} (h : hK s a = (c, n)) (hr : hR s a k = some b) : gR s a c k = some b := by simp [gR, h, hr]
theorem cV_ok {α : Type} {s : hS} {a c n : Nat} {o : Option α} (h : hK s a = (c, n)) : cV s a c o = o := by simp [cV, h]
theorem pI_ok {s : hS} {a c k n : Nat} {v : Int32} (h : hK s a = (c, n)) : pI s a c k v = some (uI s a k v) := by simp [pI, h]
theorem pZ_ok {s : hS} {a c k n : Nat} {v : Int32} (h : hK s a = (c, n)) (hv : v = 0 ∨ v = 1) : pZ s a c k v = some (uI s a k v) := by simp [pZ, h, hv]
theorem nI_in2 {k n : Nat} (hk : k < n) (hn : n < 2 ^ 31) : ¬ (nI k < 0 ∨ n ≤ (nI k).toNatClampNeg) := nI_in hk hn
theorem aI_ok {s : hS} {a c n : Nat} {i : Int32} (k : Nat) (h : hK s a = (c, n)) (hi : i = nI k) (hk : k < n) (hn : n < 2 ^ 31) : aI s a c i = some (hI s a k) := by
  subst hi
  have h2 := nI_in2 hk hn
  have h3 := nI_clamp (Nat.lt_trans hk hn)
  rw [aI, if_pos ⟨by rw [show s.2.2.1 a = (c, n) from h], by rw [show s.2.2.1 a = (c, n) from h]; exact h2⟩, h3]
theorem sI_ok {s : hS} {a c n : Nat} {i v : Int32} (k : Nat) (h : hK s a = (c, n)) (hi : i = nI k) (hk : k < n) (hn : n < 2 ^ 31) : sI s a c i v = some (uI s a k v) := by
  subst hi
  have h2 := nI_in2 hk hn
  have h3 := nI_clamp (Nat.lt_trans hk hn)
  rw [sI, if_pos ⟨by rw [show s.2.2.1 a = (c, n) from h], by rw [show s.2.2.1 a = (c, n) from h]; exact h2⟩, h3]
theorem aR_ok {s : hS} {a c n b : Nat} {i : Int32} (k : Nat) (h : hK s a = (c, n)) (hi : i = nI k) (hk : k < n) (hn : n < 2 ^ 31) (hr : hR s a k = some b) : aR s a c i = some b := by
  subst hi
  have h2 := nI_in2 hk hn
  have h3 := nI_clamp (Nat.lt_trans hk hn)
  rw [aR, if_pos ⟨by rw [show s.2.2.1 a = (c, n) from h], by rw [show s.2.2.1 a = (c, n) from h]; exact h2⟩, h3]
  exact hr
/-- a loop whose states are a known row -/
theorem jL_run {β ρ : Type} {F : β → β} {z : β} (app : β → Nat → ρ) (e : Nat) (R : ρ) (hs : ∀ i, i < e → ∀ k, app (F k) i = app k (i + 1)) (hx : ∀ k, app (F k) e = R) : ∀ n i, i ≤ e → e < n + i → app (jL F z n) i = R
  | 0, i, h1, h2 => by omega
  | n + 1, i, h1, h2 => by
    show app (F (jL F z n)) i = R
    by_cases hi : i = e
    · subst hi; exact hx _
    · rw [hs i (by omega)]
      exact jL_run app e R hs hx n (i + 1) (by omega) (by omega)
/-- a loop whose states hold an invariant -/
theorem jL_ex {β ρ σ : Type} {F : β → β} {z : β} (app : β → Nat → σ → ρ) (e : Nat) (I : Nat → σ → Prop) (Post : ρ → Prop) (hs : ∀ i, i < e → ∀ x, I i x → ∀ k, (∃ x', I (i + 1) x' ∧ app (F k) i x = app k (i + 1) x') ∨ Post (app (F k) i x)) (hx : ∀ x, I e x → ∀ k, Post (app (F k) e x)) : ∀ n i x, i ≤ e → e < n + i → I i x → Post (app (jL F z n) i x)
  | 0, i, x, h1, h2, _ => by omega
  | n + 1, i, x, h1, h2, hi => by
    show Post (app (F (jL F z n)) i x)
    by_cases he : i = e
    · subst he; exact hx x hi _
    · rcases hs i (by omega) x hi (jL F z n) with ⟨x', h3, h4⟩ | h3
      · rw [h4]
        exact jL_ex app e I Post hs hx n (i + 1) x' (by omega) (by omega) h3
      · exact h3
/-! ===== one town as a mathematical value ===== -/
/-- rows of numbers (0: facts, people, rules, talks, texts, hour; 1 worth, 2 till, 3 knows, 4 needs, 5 6 7 a rule's a b c, 8 9 10 a talk's kind asker asked), said and z, texts (key, leaves, length, code) -/
abbrev Tw : Type := (Nat → Nat → Nat) × (Int32 × Int32) × (Nat → Nat × Int32 × Nat × (Nat → Int32))
abbrev tF (τ : Tw) : Nat := τ.1 0 0
abbrev tP (τ : Tw) : Nat := τ.1 0 1
abbrev tL (τ : Tw) : Nat := τ.1 0 2
abbrev tK (τ : Tw) : Nat := τ.1 0 3
abbrev tX (τ : Tw) : Nat := τ.1 0 4
abbrev tH (τ : Tw) : Nat := τ.1 0 5
abbrev tR (τ : Tw) (r i : Nat) : Nat := τ.1 r i
/-- a rule's step on a set, and a pass over the first n rules -/
def rl1 (ρ : Nat → Nat → Nat) (r set : Nat) : Nat := if set.testBit (ρ 5 r) && set.testBit (ρ 6 r) then set ||| 2 ^ (ρ 7 r) else set
def rlN (ρ : Nat → Nat → Nat) : Nat → Nat → Nat
  | 0, set => set
  | n + 1, set => rl1 ρ n (rlN ρ n set)
def rlP (ρ : Nat → Nat → Nat) (set : Nat) : Nat := rlN ρ (ρ 0 2) set
def clo (ρ : Nat → Nat → Nat) : Nat → Nat → Nat
  | 0, set => set
  | n + 1, set => clo ρ n (rlP ρ set)
/-- a set with all that follows -/
def cls (ρ : Nat → Nat → Nat) (set : Nat) : Nat := clo ρ 16 set
def cmap (key : Nat) (c : Int32) : Int32 := if 0 ≤ c then c else if c = -1 then 10000 else if c = -2 then 10001 else if c = -3 then (if key = 0 then 10002 else 10001) else if c = -124 then -1 else if c = -38 then -2 else if c = -60 then -3 else if c = -61 then -4 else if c = -62 then -5 else if c = -43 then -6 else if c = -45 then -7 else if c = -42 then -8 else if c = -47 then -9 else -10
def cok (key : Nat) (c : Int32) : Prop := (∃ n : Nat, n ≤ 9999 ∧ c = nI n) ∨ c = -1 ∨ (c = -2 ∧ key ≠ 1) ∨ (c = -3 ∧ key ≠ 2) ∨ c ∈ ([-124, -38, -60, -61, -62, -43, -45, -42, -47, -33] : List Int32)
/-- how many values stand behind the first k signs of a code -/
def rpn (f : Nat → Int32) : Nat → Option Nat
  | 0 => some 0
  | k + 1 => (rpn f k).bind fun h => if -3 ≤ f k then some (h + 1) else if f k = -33 then (if 1 ≤ h then some h else none) else (if 2 ≤ h then some (h - 1) else none)
def TxOk (x : Nat × Int32 × Nat × (Nat → Int32)) : Prop := x.1 < 3 ∧ x.2.2.1 ≤ 96 ∧ (∀ k, k < x.2.2.1 → cok x.1 (x.2.2.2 k)) ∧ rpn x.2.2.2 x.2.2.1 = some 1
def TwOk (τ : Tw) : Prop := (tF τ ≤ 16 ∧ tP τ ≤ 8 ∧ tL τ ≤ 8 ∧ tK τ ≤ 8 ∧ tX τ ≤ 14 ∧ tH τ ≤ 999) ∧ (∀ i, i < tF τ → tR τ 1 i ≤ 99 ∧ tR τ 2 i ≤ 999) ∧ (∀ p, p < tP τ → tR τ 3 p < 2 ^ tF τ ∧ tR τ 4 p < 2 ^ tF τ ∧ rlP τ.1 (tR τ 3 p) = tR τ 3 p) ∧ (∀ r, r < tL τ → tR τ 5 r < tF τ ∧ tR τ 6 r < tF τ ∧ tR τ 7 r < tF τ) ∧ (∀ t, t < tK τ → tR τ 8 t < 6 ∧ tR τ 9 t < tP τ ∧ tR τ 10 t < tP τ ∧ tR τ 9 t ≠ tR τ 10 t) ∧ ∀ i, i < tX τ → TxOk (τ.2.2 i)
/-- the class's town in the cells from T on -/
def TwN (s : hS) (T : Nat) (τ : Tw) : Prop := (hI s T 0 = nI (tF τ) ∧ hI s T 1 = nI (tP τ) ∧ hI s T 2 = nI (tL τ) ∧ hI s T 3 = nI (tK τ) ∧ hI s T 4 = nI (tX τ) ∧ hI s T 5 = nI (tH τ) ∧ hI s T 6 = τ.2.1.1 ∧ hI s T 7 = τ.2.1.2) ∧ (∀ i, i < 16 → hI s (T + 1) i = nI (tR τ 1 i) ∧ hI s (T + 2) i = nI (tR τ 2 i)) ∧ (∀ p, p < 8 → hI s (T + 3) p = nI (tR τ 3 p) ∧ hI s (T + 4) p = nI (tR τ 4 p)) ∧ (∀ r, r < tL τ → hI s (T + 5) r = nI (2 ^ tR τ 5 r ||| 2 ^ tR τ 6 r) ∧ hI s (T + 6) r = nI (2 ^ tR τ 7 r)) ∧ ∀ t, t < 8 → hI s (T + 7) t = nI (tR τ 8 t) ∧ hI s (T + 8) t = nI (tR τ 9 t) ∧ hI s (T + 9) t = nI (tR τ 10 t)
/-- a text's cells -/
def TxC (s : hS) (a : Nat) (x : Nat × Int32 × Nat × (Nat → Int32)) : Prop := (hK s a = (10, x.2.2.1) ∧ hK s (a + 1) = (4, 4) ∧ hK s (a + 2) = (10, x.2.2.1)) ∧ (hR s (a + 1) 2 = some a ∧ hR s (a + 1) 3 = some (a + 2)) ∧ (hI s (a + 1) 0 = nI x.1 ∧ hI s (a + 1) 1 = x.2.1) ∧ ∀ k, k < x.2.2.1 → hI s a k = x.2.2.2 k
def TwC (B : Nat) (s : hS) (nt T : Nat) (τ : Tw) : Prop := TwN s T τ ∧ ∀ i, i < tX τ → ∃ j, j < nt ∧ hR s (T + 10) i = some (B + 90 + 3 * j) ∧ TxC s (B + 89 + 3 * j) (τ.2.2 i)
/-- the reference's town in one row of numbers -/
def TwM (A : Nat → Int32) (τ : Tw) : Prop := (A 1 = nI (tF τ) ∧ A 2 = nI (tP τ) ∧ A 4 = nI (tL τ) ∧ A 3 = nI (tK τ) ∧ A 7 = nI (tX τ) ∧ A 5 = nI (tH τ) ∧ A 6 = τ.2.1.1 ∧ A 0 = τ.2.1.2) ∧ (∀ i, i < 16 → A (8 + 2 * i) = nI (tR τ 1 i) ∧ A (9 + 2 * i) = nI (tR τ 2 i)) ∧ (∀ p, p < 8 → A (40 + 2 * p) = nI (tR τ 3 p) ∧ A (41 + 2 * p) = nI (tR τ 4 p)) ∧ (∀ r, r < tL τ → A (56 + 3 * r) = nI (tR τ 5 r) ∧ A (57 + 3 * r) = nI (tR τ 6 r) ∧ A (58 + 3 * r) = nI (tR τ 7 r)) ∧ (∀ t, t < 8 → A (80 + 3 * t) = nI (tR τ 8 t) ∧ A (81 + 3 * t) = nI (tR τ 9 t) ∧ A (82 + 3 * t) = nI (tR τ 10 t)) ∧ ∀ i, i < tX τ → A (104 + 2 * i) = nI (1000 * (τ.2.2 i).1 + (τ.2.2 i).2.2.1) ∧ A (105 + 2 * i) = (τ.2.2 i).2.1 ∧ ∀ k, k < (τ.2.2 i).2.2.1 → A (132 + 96 * i + k) = cmap (τ.2.2 i).1 ((τ.2.2 i).2.2.2 k)
/-! ===== the other parts of the state ===== -/
def InTape (B : Nat) (s : hS) : Prop := ∃ n : Nat, n ≤ 96 ∧ hI s (B + 35) 1 = nI n ∧ hI s (B + 66) 7 = nI n ∧ ∀ i, i < n → ∃ v : Nat, v < 256 ∧ hI s (B + 36) i &&& 255 = nI v ∧ hI s (B + 72) i = nI v
def InShe (B : Nat) (s : hS) : Prop := ∀ i, i < 4 → (hI s (B + 40 + 2 * i) 0 = hI s (B + 80) i ∧ hI s (B + 40 + 2 * i) 1 = hI s (B + 81) i) ∧ (hI s (B + 80) i = -1 ∨ hI s (B + 80) i = 0 ∨ hI s (B + 80) i = 1) ∧ (∃ n : Nat, n ≤ 24 ∧ hI s (B + 81) i = nI n) ∧ ∀ k, k < 24 → hI s (B + 41 + 2 * i) k = hI s (B + 82) (24 * i + k)
def InSlo (B : Nat) (s : hS) : Prop := ∀ j, j < 5 → ∃ h : Nat, h < 4 ∧ hI s (B + 49 + 3 * j) 0 = nI h ∧ hI s (B + 83) j = nI h ∧ (h = 1 → ∃ k p q : Nat, k < 6 ∧ p < 8 ∧ q < 8 ∧ hI s (B + 49 + 3 * j) 1 = nI k ∧ hI s (B + 49 + 3 * j) 2 = nI p ∧ hI s (B + 49 + 3 * j) 3 = nI q ∧ hI s (B + 84) j = nI k ∧ hI s (B + 85) j = nI (8 * p + q)) ∧ (h = 2 → (∃ n : Nat, n ≤ 24 ∧ hI s (B + 50 + 3 * j) 1 = nI n ∧ hI s (B + 84) j = nI n) ∧ ∀ k, k < 24 → hI s (B + 51 + 3 * j) k = hI s (B + 86) (24 * j + k)) ∧ (h = 3 → hI s (B + 49 + 3 * j) 4 = hI s (B + 84) j)
def InWai (B : Nat) (s : hS) : Prop := ∃ n : Nat, n ≤ 60 ∧ hI s B 9 = nI n ∧ hI s (B + 66) 33 = nI n ∧ ∀ i, i < n → hI s (B + 64) i = hI s (B + 88) i
def InKey (B : Nat) (s : hS) : Prop := (∀ i, i < 13 → hI s (B + 73) i = nI (([112, 114, 105, 99, 101, 108, 111, 111, 107, 102, 105, 110, 101] : List Nat).getD i 0)) ∧ ∀ i, i < 4 → hI s (B + 74) i = nI (([0, 5, 9, 13] : List Nat).getD i 0)
def InImg (B : Nat) (s : hS) (nt : Nat) : Prop := (hI s B 3 = 0 ∧ hI s (B + 66) 3 = 0) ∨ (hI s B 3 = 1 ∧ hI s (B + 66) 3 = 1 ∧ ∃ ι : Tw, TwOk ι ∧ TwC B s nt (B + 12) ι ∧ TwM (hI s (B + 68)) ι)
def Inv (B : Nat) (s : hS) : Prop := Lay B s ∧ (∃ nt : Nat, s.1 = B + 89 + 3 * nt ∧ (∃ τ : Tw, TwOk τ ∧ TwC B s nt (B + 1) τ ∧ TwM (hI s (B + 67)) τ) ∧ InImg B s nt) ∧ InTape B s ∧ InShe B s ∧ InSlo B s ∧ InWai B s ∧ InKey B s
/-- one call on both sides: the same answer, and the invariant behind it -/
def StpC (B : Nat) (g6 g7 : hS → Option (Int32 × hS)) : Prop := ∀ s, Inv B s → ∃ (v : Int32) (s1 s2 : hS), g6 s = some (v, s1) ∧ (hK s1 (B + 66)).1 = 7 ∧ g7 s1 = some (v, s2) ∧ Inv B s2 ∧ s2.1 ≤ s.1 + 3 ∧ s2.2.1 ≤ s.2.1 + 300

