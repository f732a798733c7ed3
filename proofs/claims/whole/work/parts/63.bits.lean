theorem bi_and (a b : Nat) : nI a &&& nI b = nI (a &&& b) := Int32.toBitVec_inj.mp (by
  show BitVec.ofNat 32 a &&& BitVec.ofNat 32 b = BitVec.ofNat 32 (a &&& b)
  apply BitVec.eq_of_getLsbD_eq
  intro i hi
  simp [hi])
theorem bi_or (a b : Nat) : nI a ||| nI b = nI (a ||| b) := Int32.toBitVec_inj.mp (by
  show BitVec.ofNat 32 a ||| BitVec.ofNat 32 b = BitVec.ofNat 32 (a ||| b)
  apply BitVec.eq_of_getLsbD_eq
  intro i hi
  simp [hi])
/-- a without b -/
def dif (a b : Nat) : Nat := a ^^^ (a &&& b)
theorem dif_tb (a b i : Nat) : (dif a b).testBit i = (a.testBit i && !b.testBit i) := by
  unfold dif
  rw [Nat.testBit_xor, Nat.testBit_and]
  cases a.testBit i <;> cases b.testBit i <;> rfl
theorem bi_dif (a b : Nat) : nI a &&& (nI b ^^^ (-1)) = nI (dif a b) := Int32.toBitVec_inj.mp (by
  show BitVec.ofNat 32 a &&& (BitVec.ofNat 32 b ^^^ BitVec.allOnes 32) = BitVec.ofNat 32 (dif a b)
  apply BitVec.eq_of_getLsbD_eq
  intro i hi
  rw [BitVec.getLsbD_and, BitVec.getLsbD_xor, BitVec.getLsbD_allOnes, BitVec.getLsbD_ofNat, BitVec.getLsbD_ofNat, BitVec.getLsbD_ofNat, dif_tb, decide_eq_true hi]
  simp)
theorem bi_k : ∀ k, k < 32 → ((nI k &&& 31).toBitVec.smod 32).toNat = k := by decide +kernel
theorem bi_shr {a k : Nat} (ha : a < 2 ^ 31) (hk : k < 32) : nI a >>> (nI k &&& 31) = nI (a / 2 ^ k) := pk_shrN ha _ k (bi_k k hk)
theorem bi_shl {a k : Nat} (hk : k < 32) (h : a * 2 ^ k < 2 ^ 32) : nI a <<< (nI k &&& 31) = nI (a * 2 ^ k) := pk_shlN _ k (bi_k k hk) h
theorem bi_one {k : Nat} (hk : k < 32) : (1 : Int32) <<< (nI k &&& 31) = nI (2 ^ k) := by
  have h := bi_shl (a := 1) hk (by rw [Nat.one_mul]; exact Nat.pow_lt_pow_right (by decide) hk)
  rw [Nat.one_mul] at h
  exact h
theorem bi_bit {a k : Nat} (ha : a < 2 ^ 31) (hk : k < 32) : (nI a >>> (nI k &&& 31)) &&& 1 = nI (a.testBit k).toNat := by
  rw [bi_shr ha hk, show (1 : Int32) = nI 1 from rfl, bi_and, Nat.and_one_is_mod, Nat.toNat_testBit]
/-- how many of the first n bits are set -/
def pop (x : Nat) : Nat → Nat
  | 0 => 0
  | n + 1 => pop x n + (x.testBit n).toNat
theorem pop_le (x : Nat) : ∀ n, pop x n ≤ n
  | 0 => Nat.le_refl 0
  | n + 1 => by
    have h1 := pop_le x n
    have h2 : (x.testBit n).toNat ≤ 1 := by cases x.testBit n <;> decide
    show pop x n + (x.testBit n).toNat ≤ n + 1
    omega
theorem pop_congr {x y : Nat} : ∀ n, (∀ i, i < n → x.testBit i = y.testBit i) → pop x n = pop y n
  | 0, _ => rfl
  | n + 1, h => by
    show pop x n + (x.testBit n).toNat = pop y n + (y.testBit n).toNat
    rw [pop_congr n (fun i hi => h i (by omega)), h n (by omega)]
theorem pop_0 : ∀ n, pop 0 n = 0
  | 0 => rfl
  | n + 1 => by
    show pop 0 n + ((0 : Nat).testBit n).toNat = 0
    rw [pop_0 n, Nat.zero_testBit]
    rfl
/-- bits above a bound count for nothing -/
theorem pop_up {x m : Nat} (h : x < 2 ^ m) : ∀ n, m ≤ n → pop x n = pop x m
  | 0, hn => by
    have : m = 0 := by omega
    subst this; rfl
  | n + 1, hn => by
    by_cases e : m = n + 1
    · subst e; rfl
    · show pop x n + (x.testBit n).toNat = pop x m
      rw [pop_up h n (by omega), Nat.testBit_lt_two_pow (Nat.lt_of_lt_of_le h (Nat.pow_le_pow_right (by decide) (by omega)))]
      rfl
/-- sets by a test, and their count -/
def sb (P : Nat → Bool) : Nat → Nat
  | 0 => 0
  | n + 1 => if P n then sb P n ||| 2 ^ n else sb P n
def ct (P : Nat → Bool) : Nat → Nat
  | 0 => 0
  | n + 1 => ct P n + (P n).toNat
theorem sb_tb (P : Nat → Bool) (i : Nat) : ∀ n, (sb P n).testBit i = (decide (i < n) && P i)
  | 0 => by
    show (0 : Nat).testBit i = _
    simp
  | n + 1 => by
    have ih := sb_tb P i n
    show (if P n then sb P n ||| 2 ^ n else sb P n).testBit i = _
    by_cases e : i = n
    · subst e
      cases hp : P i
      · simp [ih]
      · simp
    · have e2 : decide (i < n + 1) = decide (i < n) := by
        apply decide_eq_decide.mpr; omega
      have e3 : ¬ n = i := fun h => e h.symm
      rw [e2]
      split
      · rw [Nat.testBit_or, ih, Nat.testBit_two_pow, decide_eq_false e3, Bool.or_false]
      · exact ih
theorem sb_lt (P : Nat → Bool) (n : Nat) : sb P n < 2 ^ n := by
  apply Nat.lt_pow_two_of_testBit
  intro i hi
  rw [sb_tb, decide_eq_false (by omega)]
  rfl
theorem ct_le (P : Nat → Bool) : ∀ n, ct P n ≤ n
  | 0 => Nat.le_refl 0
  | n + 1 => by
    have h1 := ct_le P n
    have h2 : (P n).toNat ≤ 1 := by cases P n <;> decide
    show ct P n + (P n).toNat ≤ n + 1
    omega
theorem pop_ct {x : Nat} {P : Nat → Bool} : ∀ n, (∀ i, i < n → x.testBit i = P i) → pop x n = ct P n
  | 0, _ => rfl
  | n + 1, h => by
    show pop x n + (x.testBit n).toNat = ct P n + (P n).toNat
    rw [pop_ct n (fun i hi => h i (by omega)), h n (by omega)]
theorem ct_congr {P Q : Nat → Bool} : ∀ n, (∀ i, i < n → P i = Q i) → ct P n = ct Q n
  | 0, _ => rfl
  | n + 1, h => by
    show ct P n + (P n).toNat = ct Q n + (Q n).toNat
    rw [ct_congr n (fun i hi => h i (by omega)), h n (by omega)]
theorem pop_sb (P : Nat → Bool) (n : Nat) : pop (sb P n) n = ct P n := pop_ct n (fun i hi => by rw [sb_tb, decide_eq_true hi, Bool.true_and])
/-- the library's count -/
def bcv (i0 : Int32) : Int32 := nmv ((i0 - (((i0).toUInt32 >>> (((1 : Int32)).toUInt32 &&& Int32.toUInt32 31)).toInt32 &&& (1431655765 : Int32)))) fun x1 => nmv (((x1 &&& (858993459 : Int32)) + (((x1).toUInt32 >>> (((2 : Int32)).toUInt32 &&& Int32.toUInt32 31)).toInt32 &&& (858993459 : Int32)))) fun x2 => nmv (((x2 + ((x2).toUInt32 >>> (((4 : Int32)).toUInt32 &&& Int32.toUInt32 31)).toInt32) &&& (252645135 : Int32))) fun x3 => nmv ((x3 + ((x3).toUInt32 >>> (((8 : Int32)).toUInt32 &&& Int32.toUInt32 31)).toInt32)) fun x4 => nmv ((x4 + ((x4).toUInt32 >>> (((16 : Int32)).toUInt32 &&& Int32.toUInt32 31)).toInt32)) fun x5 => (x5 &&& (63 : Int32))
/-- byte by byte -/
theorem by_and {a b c d : Nat} (hb : b < 256) (hd : d < 256) : (256 * a + b) &&& (256 * c + d) = 256 * (a &&& c) + (b &&& d) := by
  have h1 : ((256 * a + b) &&& (256 * c + d)) / 2 ^ 8 = (a &&& c) := by
    rw [Nat.and_div_two_pow]
    have e1 : (256 * a + b) / 2 ^ 8 = a := by omega
    have e2 : (256 * c + d) / 2 ^ 8 = c := by omega
    rw [e1, e2]
  have h2 : ((256 * a + b) &&& (256 * c + d)) % 2 ^ 8 = (b &&& d) := by
    rw [Nat.and_mod_two_pow]
    have e1 : (256 * a + b) % 2 ^ 8 = b := by omega
    have e2 : (256 * c + d) % 2 ^ 8 = d := by omega
    rw [e1, e2]
  have h3 := Nat.div_add_mod ((256 * a + b) &&& (256 * c + d)) (2 ^ 8)
  rw [h1, h2] at h3
  omega
def bcy (b : Nat) : Nat := b - (b / 2 &&& 85)
def bcz (y : Nat) : Nat := (y &&& 51) + (y / 4 &&& 51)
theorem bcA : ∀ b, b < 256 → ∀ r, r < 2 → (128 * r + b / 2) &&& 85 = b / 2 &&& 85 := by decide +kernel
theorem bcA2 : ∀ a, a < 256 → a / 2 &&& 5592405 = a / 2 &&& 85 := by decide +kernel
theorem bcB : ∀ v, v < 256 → ∀ r, r < 4 → (64 * r + v / 4) &&& 51 = v / 4 &&& 51 := by decide +kernel
theorem bcB2 : ∀ v, v < 256 → v &&& 3355443 = v &&& 51 ∧ v / 4 &&& 3355443 = v / 4 &&& 51 := by decide +kernel
theorem bcC : ∀ b, b < 256 → bcz (bcy b) ≤ 68 ∧ bcz (bcy b) % 16 ≤ 4 ∧ (bcz (bcy b) + bcz (bcy b) / 16) % 16 = pop b 8 := by decide +kernel
theorem bcD : ∀ v, v < 256 → v &&& 986895 = v % 16 := by decide +kernel
theorem bc1 {a b : Nat} (ha : a < 256) (hb : b < 256) : ((256 * a + b) / 2 &&& 1431655765) ≤ 256 * a + b ∧ (256 * a + b) - ((256 * a + b) / 2 &&& 1431655765) = 256 * bcy a + bcy b := by
  have e1 : (256 * a + b) / 2 = 256 * (a / 2) + (128 * (a % 2) + b / 2) := by omega
  have e2 : ((256 * a + b) / 2 &&& 1431655765) = 256 * (a / 2 &&& 85) + (b / 2 &&& 85) := by
    rw [e1, show 1431655765 = 256 * 5592405 + 85 from rfl, by_and (by omega) (by decide), bcA2 a ha, bcA b hb (a % 2) (by omega)]
  have h1 : (a / 2 &&& 85) ≤ a / 2 := Nat.and_le_left
  have h2 : (b / 2 &&& 85) ≤ b / 2 := Nat.and_le_left
  rw [e2]
  unfold bcy
  omega
theorem bc2 {u v : Nat} (hu : u < 256) (hv : v < 256) : ((256 * u + v) &&& 858993459) + ((256 * u + v) / 4 &&& 858993459) = 256 * bcz u + bcz v := by
  have e1 : (256 * u + v) / 4 = 256 * (u / 4) + (64 * (u % 4) + v / 4) := by omega
  rw [e1, show 858993459 = 256 * 3355443 + 51 from rfl, by_and hv (by decide), by_and (by omega) (by decide), (bcB2 u hu).1, (bcB2 u hu).2, bcB v hv (u % 4) (by omega)]
  unfold bcz
  omega
theorem bc3 {u v : Nat} (hu : u ≤ 68 ∧ u % 16 ≤ 4) (hv : v ≤ 68) : ((256 * u + v) + (256 * u + v) / 16) &&& 252645135 = 256 * ((u + u / 16) % 16) + (v + v / 16) % 16 := by
  have e1 : (256 * u + v) + (256 * u + v) / 16 = 256 * (u + u / 16) + (v + v / 16 + 16 * (u % 16)) := by omega
  rw [e1, show 252645135 = 256 * 986895 + 15 from rfl, by_and (by omega) (by decide), bcD _ (by omega), show 15 = 2 ^ 4 - 1 from rfl, Nat.and_two_pow_sub_one_eq_mod]
  omega
theorem bcv_ok {a b : Nat} (ha : a < 256) (hb : b < 256) : bcv (nI (256 * a + b)) = nI (pop a 8 + pop b 8) := by
  have u1 : (((nI (256 * a + b)).toUInt32 >>> (((1 : Int32)).toUInt32 &&& Int32.toUInt32 31)).toInt32 &&& (1431655765 : Int32)) = nI ((256 * a + b) / 2 &&& 1431655765) := by
    rw [pk_ushrN (by omega) 1 1 (by decide)]
    exact bi_and _ 1431655765
  have h1 := bc1 ha hb
  have hya : bcy a < 256 := Nat.lt_of_le_of_lt (Nat.sub_le _ _) ha
  have hyb : bcy b < 256 := Nat.lt_of_le_of_lt (Nat.sub_le _ _) hb
  have ca := bcC a ha
  have cb := bcC b hb
  have pa := pop_le a 8
  have pb := pop_le b 8
  unfold bcv nmv
  rw [u1, pk_sub h1.1, h1.2]
  dsimp only
  have u2 : ((nI (256 * bcy a + bcy b) &&& (858993459 : Int32)) + (((nI (256 * bcy a + bcy b)).toUInt32 >>> (((2 : Int32)).toUInt32 &&& Int32.toUInt32 31)).toInt32 &&& (858993459 : Int32))) = nI (256 * bcz (bcy a) + bcz (bcy b)) := by
    rw [pk_ushrN (by omega) 2 2 (by decide), show (858993459 : Int32) = nI 858993459 from rfl, bi_and, bi_and, nI_add]
    exact congrArg nI (bc2 hya hyb)
  rw [u2]
  have u3 : ((nI (256 * bcz (bcy a) + bcz (bcy b)) + ((nI (256 * bcz (bcy a) + bcz (bcy b))).toUInt32 >>> (((4 : Int32)).toUInt32 &&& Int32.toUInt32 31)).toInt32) &&& (252645135 : Int32)) = nI (256 * pop a 8 + pop b 8) := by
    rw [pk_ushrN (by omega) 4 4 (by decide), nI_add]
    refine (bi_and _ 252645135).trans ?_
    rw [show (2 : Nat) ^ 4 = 16 from rfl, bc3 ⟨ca.1, ca.2.1⟩ cb.1, ca.2.2, cb.2.2]
  rw [u3, pk_ushrN (by omega) 8 8 (by decide), nI_add, show (256 * pop a 8 + pop b 8) + (256 * pop a 8 + pop b 8) / 2 ^ 8 = 256 * pop a 8 + (pop a 8 + pop b 8) by omega, pk_ushrN (by omega) 16 16 (by decide), nI_add, show 256 * pop a 8 + (pop a 8 + pop b 8) + (256 * pop a 8 + (pop a 8 + pop b 8)) / 2 ^ 16 = 256 * pop a 8 + (pop a 8 + pop b 8) by omega]
  refine (bi_and _ 63).trans ?_
  rw [show 63 = 2 ^ 6 - 1 from rfl, Nat.and_two_pow_sub_one_eq_mod]
  congr 1
  omega
theorem pop_add (x m : Nat) : ∀ n, pop x (m + n) = pop x m + pop (x / 2 ^ m) n
  | 0 => rfl
  | n + 1 => by
    show pop x (m + n) + (x.testBit (m + n)).toNat = pop x m + (pop (x / 2 ^ m) n + ((x / 2 ^ m).testBit n).toNat)
    rw [pop_add x m n, Nat.testBit_div_two_pow, Nat.add_comm n m, Nat.add_assoc]
theorem pop_16 (n : Nat) : pop n 16 = pop (n / 256) 8 + pop (n % 256) 8 := by
  rw [show 16 = 8 + 8 from rfl, pop_add n 8 8, Nat.add_comm]
  congr 1
  refine pop_congr 8 (fun i hi => ?_)
  rw [show 256 = 2 ^ 8 from rfl, Nat.testBit_mod_two_pow, decide_eq_true hi, Bool.true_and]
theorem bc (s : hS) {n : Nat} (hn : n < 65536) : f_J6_bitCount_0f7a4 s (nI n) = some (nI (pop n 16), s) := by
  have h := bcv_ok (a := n / 256) (b := n % 256) (by omega) (by omega)
  rw [Nat.div_add_mod, ← pop_16] at h
  have e : f_J6_bitCount_0f7a4 s (nI n) = some (bcv (nI n), s) := rfl
  rw [e, h]
/-- the reference's count -/
theorem pop_half (x : Nat) : ∀ n, pop x (n + 1) = x % 2 + pop (x / 2) n
  | 0 => by
    show 0 + (x.testBit 0).toNat = x % 2 + 0
    rw [Nat.toNat_testBit]
    omega
  | n + 1 => by
    show pop x (n + 1) + (x.testBit (n + 1)).toNat = x % 2 + (pop (x / 2) n + ((x / 2).testBit n).toNat)
    rw [pop_half x n, Nat.testBit_succ, Nat.add_assoc]
theorem ker_go : ∀ k n : Nat, n < 2 ^ k → n ≠ 0 → pop (n &&& (n - 1)) k + 1 = pop n k
  | 0, n, h, h0 => by
    have : n < 1 := h
    omega
  | k + 1, n, h, h0 => by
    have hh : n < 2 ^ k * 2 := by rw [← Nat.pow_succ]; exact h
    rw [pop_half, pop_half]
    have d1 : (n &&& (n - 1)) / 2 = (n / 2) &&& ((n - 1) / 2) := by
      have := Nat.and_div_two_pow (a := n) (b := n - 1) (n := 1)
      rw [Nat.pow_one] at this
      exact this
    have d2 : (n &&& (n - 1)) % 2 = (n % 2) &&& ((n - 1) % 2) := by
      have := Nat.and_mod_two_pow (a := n) (b := n - 1) (n := 1)
      rw [Nat.pow_one] at this
      exact this
    rw [d1, d2]
    have hr : n % 2 = 0 ∨ n % 2 = 1 := by omega
    rcases hr with hr | hr
    · have e1 : (n - 1) / 2 = n / 2 - 1 := by omega
      have ih := ker_go k (n / 2) (by omega) (by omega)
      rw [hr, e1, Nat.zero_and]
      omega
    · have e1 : (n - 1) / 2 = n / 2 := by omega
      have e2 : (n - 1) % 2 = 0 := by omega
      rw [e1, e2, hr, Nat.and_self, Nat.and_zero]
      omega
theorem ker {n : Nat} (hn : n < 65536) (h0 : n ≠ 0) : pop (n &&& (n - 1)) 16 + 1 = pop n 16 := ker_go 16 n hn h0
theorem m_bits_go (s : hS) : ∀ (fuel n c : Nat), n < 65536 → pop n 16 < fuel → jL f_X7_bitsOf_b4 (fun _ _ _ => none) fuel (nI c) (nI n) s = some (nI (c + pop n 16), s)
  | 0, n, c, _, h => by omega
  | fuel + 1, n, c, hn, h => by
    show f_X7_bitsOf_b4 (jL f_X7_bitsOf_b4 (fun _ _ _ => none) fuel) (nI c) (nI n) s = _
    unfold f_X7_bitsOf_b4
    by_cases h0 : n = 0
    · subst h0
      refine ifp rfl ?_
      rw [pop_0]
      rfl
    · have hk := ker hn h0
      refine ifn (nI_ne0 (by omega) (by omega)) ?_
      have e : nI n &&& (nI n - 1) = nI (n &&& (n - 1)) := by
        rw [show nI n - 1 = nI (n - 1) from pk_sub (b := 1) (by omega), bi_and]
      show jL f_X7_bitsOf_b4 (fun _ _ _ => none) fuel (nI c + 1) (nI n &&& (nI n - 1)) s = _
      rw [e, nI_1]
      have hl : n &&& (n - 1) ≤ n := Nat.and_le_left
      have ih := m_bits_go s fuel (n &&& (n - 1)) (c + 1) (by omega) (by omega)
      have e2 : c + 1 + pop (n &&& (n - 1)) 16 = c + pop n 16 := by omega
      rw [e2] at ih
      exact ih
theorem m_bits (s : hS) {n : Nat} (hn : n < 65536) : f_X7_bitsOf s (nI n) = some (nI (pop n 16), s) := by
  have h := m_bits_go s jF n 0 hn (by have := pop_le n 16; unfold jF; omega)
  rw [Nat.zero_add] at h
  exact h
