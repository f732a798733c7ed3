theorem bnd {α β : Type} {o : Option α} {g : α → Option β} {x : α} {r : Option β} (h : o = some x) (k : g x = r) : o.bind g = r := by rw [h]; exact k
theorem ifp {α : Type} {c : Prop} [Decidable c] {a b r : α} (h : c) (k : a = r) : (if c then a else b) = r := by rw [if_pos h]; exact k
theorem ifn {α : Type} {c : Prop} [Decidable c] {a b r : α} (h : ¬ c) (k : b = r) : (if c then a else b) = r := by rw [if_neg h]; exact k
theorem Lay.u {B : Nat} {s : hS} (h : Lay B s) (a k : Nat) (v : Int32) : Lay B (uI s a k v) := h
theorem Lay.kx {B : Nat} {s : hS} (L : Lay B s) : hK s B = (6, 11) := L.k 0 6 11 rfl
theorem Lay.km {B : Nat} {s : hS} (L : Lay B s) : hK s (B + 66) = (7, 34) := L.k 66 7 34 rfl
theorem Lay.kt {B : Nat} {s : hS} (L : Lay B s) : hK s (B + 1) = (5, 18) := L.k 1 5 18 rfl
theorem Lay.kn {B : Nat} {s : hS} (L : Lay B s) : hK s (B + 67) = (10, 1476) := L.k 67 10 1476 rfl
theorem Lay.gt {B : Nat} {s : hS} (L : Lay B s) : gR s B 6 0 = some (B + 1) := gR_ok L.kx (L.r 0 0 1 (by decide))
theorem Lay.gn {B : Nat} {s : hS} (L : Lay B s) : gR s (B + 66) 7 0 = some (B + 67) := gR_ok L.km (L.r 66 0 67 (by decide))
/-- a number of the reference's town -/
theorem Lay.an {B : Nat} {s : hS} (L : Lay B s) (k : Nat) {i : Int32} (hi : i = nI k) (hk : k < 1476) : aI s (B + 67) 10 i = some (hI s (B + 67) k) := aI_ok k L.kn hi hk (by decide)
theorem Lay.sn {B : Nat} {s : hS} (L : Lay B s) (k : Nat) {i v : Int32} (hi : i = nI k) (hk : k < 1476) : sI s (B + 67) 10 i v = some (uI s (B + 67) k v) := sI_ok k L.kn hi hk (by decide)
theorem ixm (a m k : Nat) : nI a + nI m * nI k = nI (a + m * k) := by rw [pk_mul, nI_add]
theorem ixn (a m k b : Nat) : nI a + nI m * nI k + nI b = nI (a + m * k + b) := by rw [ixm, nI_add]
theorem X6_out (s : hS) (i a b : Int32) : f_X6_isOutside s i a b = some (if i < a ∨ b < i then 1 else 0, s) := by
  unfold f_X6_isOutside f_X6_isOutside_b10
  by_cases h1 : i < a
  · rw [if_pos h1, if_pos (Or.inl h1)]
  · rw [if_neg h1]
    by_cases h2 : i ≤ b
    · rw [if_pos h2, if_neg (by rintro (h | h); exact h1 h; exact absurd h2 (Int32.not_le.mpr h))]
    · rw [if_neg h2, if_pos (Or.inr (Int32.not_le.mp h2))]
theorem X7_in (s : hS) (i a b : Int32) : f_X7_in s i a b = some (if i < a ∨ b < i then 0 else 1, s) := by
  unfold f_X7_in
  by_cases h1 : i < a
  · rw [if_pos h1, if_pos (Or.inl h1)]
  · rw [if_neg h1]
    by_cases h2 : b < i
    · rw [if_pos h2, if_pos (Or.inr h2)]
    · rw [if_neg h2, if_neg (by rintro (h | h); exact h1 h; exact h2 h)]
theorem X7_bec {B : Nat} {s : hS} (L : Lay B s) (k : Nat) {i v : Int32} (hi : i = nI k) (hk : k < 1476) : f_X7_becomes s (B + 66) i v = some (hI s (B + 67) k, uI s (B + 67) k v) := by
  unfold f_X7_becomes
  exact bnd L.gn (bnd (L.an k hi hk) (bnd L.gn (bnd (L.sn k hi hk) rfl)))
/-- which numbers lie in a range -/
theorem fa_tr {a b c : Int32} (h : a < b) (h2 : b ≤ c) : a < c := by
  rw [Int32.lt_iff_toInt_lt] at h ⊢
  rw [Int32.le_iff_toInt_le] at h2
  omega
theorem rng (x : Int32) (n : Nat) (hn : n + 1 < 2 ^ 31) : (x < 0 ∨ nI n < x) ∨ ∃ j : Nat, j ≤ n ∧ x = nI j := by
  rcases pk_ix x hn with h | h | ⟨j, h1, h2⟩
  · exact Or.inl (Or.inl h)
  · exact Or.inl (Or.inr (fa_tr (nI_lt (Nat.lt_succ_self n) hn) h))
  · exact Or.inr ⟨j, by omega, h2⟩
