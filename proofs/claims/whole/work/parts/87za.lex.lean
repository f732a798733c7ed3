/-! the bytes of a text -/
def isL (v : Nat) : Bool := decide (97 ≤ v) && decide (v ≤ 122)
def isD (v : Nat) : Bool := decide (48 ≤ v) && decide (v ≤ 57)
def isB (v : Nat) : Bool := decide (v = 32)
def skp (P : Nat → Bool) (V : Nat → Nat) : Nat → Nat → Nat
  | 0, i => i
  | d + 1, i => if P (V i) = true then skp P V d (i + 1) else i
theorem skp_t {P : Nat → Bool} {V : Nat → Nat} {d i : Nat} (h : P (V i) = true) : skp P V (d + 1) i = skp P V d (i + 1) := if_pos h
theorem skp_f {P : Nat → Bool} {V : Nat → Nat} {d i : Nat} (h : P (V i) = false) : skp P V (d + 1) i = i := if_neg (by rw [h]; decide)
theorem skp_b (P : Nat → Bool) (V : Nat → Nat) : ∀ d i, i ≤ skp P V d i ∧ skp P V d i ≤ i + d
  | 0, i => ⟨Nat.le_refl i, Nat.le_refl i⟩
  | d + 1, i => by
    cases h : P (V i)
    · rw [skp_f h]; omega
    · rw [skp_t h]
      have := skp_b P V d (i + 1)
      omega
theorem skp_s {P : Nat → Bool} {V : Nat → Nat} : ∀ d i, skp P V d i < i + d → P (V (skp P V d i)) = false
  | 0, i, h => by
    have : skp P V 0 i = i := rfl
    omega
  | d + 1, i, h => by
    cases e : P (V i)
    · rw [skp_f e]; exact e
    · rw [skp_t e] at h ⊢
      exact skp_s d (i + 1) (by omega)
def bl (V : Nat → Nat) (n i : Nat) : Nat := skp isB V (n - i) i
def wd (V : Nat → Nat) (n i : Nat) : Nat := if isL (V i) = true then skp isL V (n - i) i else if isD (V i) = true then skp isD V (n - i) i else i + 1
theorem bl_b {V : Nat → Nat} {n i : Nat} (h : i ≤ n) : i ≤ bl V n i ∧ bl V n i ≤ n := by
  have := skp_b isB V (n - i) i
  unfold bl
  omega
theorem skp_1 {P : Nat → Bool} {V : Nat → Nat} {n i : Nat} (h : P (V i) = true) (hi : i < n) : i + 1 ≤ skp P V (n - i) i ∧ skp P V (n - i) i ≤ n := by
  have := skp_b P V (n - i) i
  obtain ⟨d, hd⟩ : ∃ d, n - i = d + 1 := ⟨n - i - 1, by omega⟩
  rw [hd] at this ⊢
  rw [skp_t h] at this ⊢
  have := skp_b P V d (i + 1)
  omega
theorem wd_b {V : Nat → Nat} {n i : Nat} (h : i < n) : i + 1 ≤ wd V n i ∧ wd V n i ≤ n := by
  unfold wd
  cases h1 : isL (V i)
  · rw [if_neg (by decide)]
    cases h2 : isD (V i)
    · rw [if_neg (by decide)]; omega
    · rw [if_pos rfl]
      exact skp_1 h2 h
  · rw [if_pos rfl]
    exact skp_1 h1 h
/-! the class's tape -/
def TpC (B : Nat) (s : hS) (V : Nat → Nat) (n : Nat) : Prop := Lay B s ∧ n ≤ 96 ∧ hI s (B + 35) 1 = nI n ∧ ∀ i, i < n → V i < 256 ∧ hI s (B + 36) i &&& 255 = nI (V i)
section TC
variable {B : Nat} {s : hS} {V : Nat → Nat} {n : Nat}
theorem c_at (h : TpC B s V n) {i : Nat} (hi : i < n) : f_X3_at s (B + 35) (nI i) = some (nI (V i), s) := by
  have h96 := h.2.1
  unfold f_X3_at
  refine ifn (nI_pos (by omega)) (bnd (gI_ok h.1.k35) ?_)
  rw [h.2.2.1]
  refine ifn (nI_ge hi (by omega)) (bnd h.1.g35 (bnd (aI_ok i h.1.k36 rfl (by omega) (by decide)) ?_))
  rw [(h.2.2.2 i hi).2]
theorem c_atn (h : TpC B s V n) {i : Nat} (hi : n ≤ i) (hb : i < 2 ^ 31) : f_X3_at s (B + 35) (nI i) = some (-1, s) := by
  have h96 := h.2.1
  unfold f_X3_at
  refine ifn (nI_pos hb) (bnd (gI_ok h.1.k35) ?_)
  rw [h.2.2.1]
  exact ifp (nI_le hi hb) rfl
theorem c_let (h : TpC B s V n) {i : Nat} (hi : i < n) : f_X3_hasLetter s (B + 35) (nI i) = some (bI (isL (V i)), s) := by
  have v := (h.2.2.2 i hi).1
  have c := (cV_ok h.1.k35).trans (c_at h hi)
  unfold f_X3_hasLetter isL
  refine bnd c ?_
  by_cases h1 : 97 ≤ V i
  · refine ifn (nI_nlt (b := 97) h1 (by omega)) (bnd c ?_)
    rw [decide_eq_true h1]
    by_cases h2 : V i ≤ 122
    · rw [decide_eq_true h2]
      exact ifn (nI_nlt (a := 122) h2 (by omega)) rfl
    · rw [decide_eq_false h2]
      exact ifp (nI_lt (a := 122) (by omega) (by omega)) rfl
  · rw [decide_eq_false h1]
    exact ifp (nI_lt (b := 97) (by omega) (by omega)) rfl
theorem c_letn (h : TpC B s V n) {i : Nat} (hi : n ≤ i) (hb : i < 2 ^ 31) : f_X3_hasLetter s (B + 35) (nI i) = some (0, s) := by
  unfold f_X3_hasLetter
  exact bnd ((cV_ok h.1.k35).trans (c_atn h hi hb)) (ifp (show (-1 : Int32) < 97 by decide) rfl)
theorem c_dig (h : TpC B s V n) {i : Nat} (hi : i < n) : f_X3_hasDigit s (B + 35) (nI i) = some (bI (isD (V i)), s) := by
  have v := (h.2.2.2 i hi).1
  have c := (cV_ok h.1.k35).trans (c_at h hi)
  unfold f_X3_hasDigit isD
  refine bnd c ?_
  by_cases h1 : 48 ≤ V i
  · refine ifn (nI_nlt (b := 48) h1 (by omega)) (bnd c ?_)
    rw [decide_eq_true h1]
    by_cases h2 : V i ≤ 57
    · rw [decide_eq_true h2]
      exact ifn (nI_nlt (a := 57) h2 (by omega)) rfl
    · rw [decide_eq_false h2]
      exact ifp (nI_lt (a := 57) (by omega) (by omega)) rfl
  · rw [decide_eq_false h1]
    exact ifp (nI_lt (b := 48) (by omega) (by omega)) rfl
theorem c_dign (h : TpC B s V n) {i : Nat} (hi : n ≤ i) (hb : i < 2 ^ 31) : f_X3_hasDigit s (B + 35) (nI i) = some (0, s) := by
  unfold f_X3_hasDigit
  exact bnd ((cV_ok h.1.k35).trans (c_atn h hi hb)) (ifp (show (-1 : Int32) < 48 by decide) rfl)
theorem c_bl (h : TpC B s V n) : ∀ d i fuel, n - i = d → i ≤ n → d < fuel → jL f_X3_behindBlanks_b2 (fun _ _ _ => none) fuel (B + 35) (nI i) s = some (nI (skp isB V d i), s)
  | 0, i, fuel + 1, hd, hi, hf => by
    have h96 := h.2.1
    show f_X3_behindBlanks_b2 (jL f_X3_behindBlanks_b2 (fun _ _ _ => none) fuel) (B + 35) (nI i) s = some (nI i, s)
    unfold f_X3_behindBlanks_b2
    refine bnd (gI_ok h.1.k35) ?_
    rw [h.2.2.1]
    exact ifp (nI_le (by omega) (by omega)) rfl
  | d + 1, i, fuel + 1, hd, hi, hf => by
    have h96 := h.2.1
    have v := (h.2.2.2 i (by omega)).1
    show f_X3_behindBlanks_b2 (jL f_X3_behindBlanks_b2 (fun _ _ _ => none) fuel) (B + 35) (nI i) s = _
    unfold f_X3_behindBlanks_b2
    refine bnd (gI_ok h.1.k35) ?_
    rw [h.2.2.1]
    refine ifn (nI_ge (by omega) (by omega)) (bnd ((cV_ok h.1.k35).trans (c_at h (by omega))) ?_)
    by_cases c : V i = 32
    · rw [skp_t (by unfold isB; exact decide_eq_true c), nI_1]
      exact ifp (by rw [c]; rfl) (c_bl h d (i + 1) fuel (by omega) (by omega) (by omega))
    · rw [skp_f (by unfold isB; exact decide_eq_false c)]
      exact ifn (fun z => c ((nI_eq (b := 32) (by omega) (by decide)).mp z)) rfl
theorem c_blk (h : TpC B s V n) {i : Nat} (hi : i ≤ n) : f_X3_behindBlanks s (B + 35) (nI i) = some (nI (bl V n i), s) := by
  have h96 := h.2.1
  exact c_bl h (n - i) i jF rfl hi (by unfold jF; omega)
theorem c_wl (h : TpC B s V n) : ∀ d i fuel, n - i = d → i ≤ n → d < fuel → jL f_X3_behindWord_b10 (fun _ _ _ => none) fuel (B + 35) (nI i) s = some (nI (skp isL V d i), s)
  | 0, i, fuel + 1, hd, hi, hf => by
    have h96 := h.2.1
    show f_X3_behindWord_b10 (jL f_X3_behindWord_b10 (fun _ _ _ => none) fuel) (B + 35) (nI i) s = some (nI i, s)
    unfold f_X3_behindWord_b10
    refine bnd (gI_ok h.1.k35) ?_
    rw [h.2.2.1]
    exact ifp (nI_le (by omega) (by omega)) rfl
  | d + 1, i, fuel + 1, hd, hi, hf => by
    have h96 := h.2.1
    show f_X3_behindWord_b10 (jL f_X3_behindWord_b10 (fun _ _ _ => none) fuel) (B + 35) (nI i) s = _
    unfold f_X3_behindWord_b10
    refine bnd (gI_ok h.1.k35) ?_
    rw [h.2.2.1]
    refine ifn (nI_ge (by omega) (by omega)) (bnd ((cV_ok h.1.k35).trans (c_let h (by omega))) ?_)
    cases c : isL (V i)
    · rw [skp_f c]
      exact ifp rfl rfl
    · rw [skp_t c, nI_1]
      exact ifn one_ne (c_wl h d (i + 1) fuel (by omega) (by omega) (by omega))
theorem c_wg (h : TpC B s V n) : ∀ d i fuel, n - i = d → i ≤ n → d < fuel → jL f_X3_behindWord_b42 (fun _ _ _ => none) fuel (B + 35) (nI i) s = some (nI (skp isD V d i), s)
  | 0, i, fuel + 1, hd, hi, hf => by
    have h96 := h.2.1
    show f_X3_behindWord_b42 (jL f_X3_behindWord_b42 (fun _ _ _ => none) fuel) (B + 35) (nI i) s = some (nI i, s)
    unfold f_X3_behindWord_b42
    refine bnd (gI_ok h.1.k35) ?_
    rw [h.2.2.1]
    exact ifp (nI_le (by omega) (by omega)) rfl
  | d + 1, i, fuel + 1, hd, hi, hf => by
    have h96 := h.2.1
    show f_X3_behindWord_b42 (jL f_X3_behindWord_b42 (fun _ _ _ => none) fuel) (B + 35) (nI i) s = _
    unfold f_X3_behindWord_b42
    refine bnd (gI_ok h.1.k35) ?_
    rw [h.2.2.1]
    refine ifn (nI_ge (by omega) (by omega)) (bnd ((cV_ok h.1.k35).trans (c_dig h (by omega))) ?_)
    cases c : isD (V i)
    · rw [skp_f c]
      exact ifp rfl rfl
    · rw [skp_t c, nI_1]
      exact ifn one_ne (c_wg h d (i + 1) fuel (by omega) (by omega) (by omega))
theorem c_wd (h : TpC B s V n) {i : Nat} (hi : i < n) : f_X3_behindWord s (B + 35) (nI i) = some (nI (wd V n i), s) := by
  have h96 := h.2.1
  unfold f_X3_behindWord wd
  refine bnd ((cV_ok h.1.k35).trans (c_let h hi)) ?_
  cases c : isL (V i)
  · rw [if_neg (show ¬ (false = true) by decide)]
    refine ifp rfl (bnd ((cV_ok h.1.k35).trans (c_dig h hi)) ?_)
    cases c2 : isD (V i)
    · rw [if_neg (show ¬ (false = true) by decide)]
      refine ifp rfl (bnd (gI_ok h.1.k35) ?_)
      rw [h.2.2.1, nI_1, if_neg (nI_nlt (by omega) (by omega))]
    · rw [if_pos rfl]
      exact ifn one_ne (c_wg h (n - i) i jF rfl (by omega) (by unfold jF; omega))
  · rw [if_pos rfl]
    exact ifn one_ne (c_wl h (n - i) i jF rfl (by omega) (by unfold jF; omega))
theorem c_wdn (h : TpC B s V n) : f_X3_behindWord s (B + 35) (nI n) = some (nI n, s) := by
  have h96 := h.2.1
  unfold f_X3_behindWord
  refine bnd ((cV_ok h.1.k35).trans (c_letn h (Nat.le_refl n) (by omega))) (ifp rfl (bnd ((cV_ok h.1.k35).trans (c_dign h (Nat.le_refl n) (by omega))) (ifp rfl (bnd (gI_ok h.1.k35) ?_))))
  rw [h.2.2.1, nI_1, if_pos (nI_lt (by omega) (by omega))]
/-! words -/
def wmt (V : Nat → Nat) : Nat → List Nat → Bool
  | _, [] => true
  | a, x :: r => decide (V a = x) && wmt V (a + 1) r
def wds : Nat → List Nat
  | 0 => [112, 114, 105, 99, 101]
  | 1 => [108, 111, 111, 107]
  | _ => [102, 105, 110, 101]
def isW (V : Nat → Nat) (k a e : Nat) : Bool := decide (e - a = (wds k).length) && wmt V a (wds k)
def keyM (V : Nat → Nat) (a e : Nat) : Option Nat := if isW V 0 a e = true then some 0 else if isW V 1 a e = true then some 1 else if isW V 2 a e = true then some 2 else none
theorem wds_sat : ∀ k, k < 3 → ∀ j, j < (wds k).length → sat k (nI j) = some (nI ((wds k).getD j 0)) := by decide
theorem wds_len : ∀ k, k < 3 → slen k = nI (wds k).length ∧ (wds k).length ≤ 5 ∧ 4 ≤ (wds k).length := by decide
theorem wds_lt : ∀ k, k < 3 → ∀ j, j < (wds k).length → (wds k).getD j 0 < 256 := by decide
theorem wds_hd : ∀ k, k < 3 → isL ((wds k).getD 0 0) = true := by decide
theorem c_hw (h : TpC B s V n) {k a : Nat} (hk : k < 3) : ∀ (r : List Nat) (i fuel : Nat), i + r.length = (wds k).length → (∀ j, j < r.length → r.getD j 0 = (wds k).getD (i + j) 0) → a + (wds k).length ≤ n → r.length < fuel → jL f_X3_hasWord_b15 (fun _ _ _ _ _ => none) fuel (B + 35) k (nI a) (nI i) s = some (bI (wmt V (a + i) r), s)
  | [], i, fuel + 1, h1, h2, h3, h4 => by
    have wl := wds_len k hk
    show f_X3_hasWord_b15 (jL f_X3_hasWord_b15 (fun _ _ _ _ _ => none) fuel) (B + 35) k (nI a) (nI i) s = some (1, s)
    unfold f_X3_hasWord_b15
    have e0 : i = (wds k).length := h1
    refine bnd (if_pos hk) ?_
    rw [wl.1]
    exact ifp (nI_le (by omega) (by omega)) rfl
  | x :: r, i, fuel + 1, h1, h2, h3, h4 => by
    have wl := wds_len k hk
    have h96 := h.2.1
    have l1 : (x :: r).length = r.length + 1 := List.length_cons
    have ex : x = (wds k).getD i 0 := h2 0 (by omega)
    have vb := (h.2.2.2 (a + i) (by omega)).1
    have wb := wds_lt k hk i (by omega)
    show f_X3_hasWord_b15 (jL f_X3_hasWord_b15 (fun _ _ _ _ _ => none) fuel) (B + 35) k (nI a) (nI i) s = some (bI (decide (V (a + i) = x) && wmt V (a + i + 1) r), s)
    unfold f_X3_hasWord_b15
    refine bnd (if_pos hk) ?_
    rw [wl.1]
    refine ifn (nI_ge (by omega) (by omega)) ?_
    rw [nI_add]
    refine bnd ((cV_ok h.1.k35).trans (c_at h (by omega))) (bnd (wds_sat k hk i (by omega)) ?_)
    rw [← ex]
    by_cases c : V (a + i) = x
    · rw [decide_eq_true c, Bool.true_and, nI_1]
      refine ifp (by rw [c]) ?_
      exact c_hw h hk r (i + 1) fuel (by omega) (fun j hj => by rw [show i + 1 + j = i + (j + 1) by omega, ← h2 (j + 1) (by omega)]; rfl) h3 (by omega)
    · rw [decide_eq_false c]
      exact ifn (fun z => c ((nI_eq (by omega) (by omega)).mp z)) rfl
theorem c_isW (h : TpC B s V n) {k a e : Nat} (hk : k < 3) (ha : a ≤ e) (he : e ≤ n) : f_X3_hasWord s (B + 35) k (nI a) (nI e) = some (bI (isW V k a e), s) := by
  have wl := wds_len k hk
  have h96 := h.2.1
  unfold f_X3_hasWord isW
  refine bnd (if_pos hk) ?_
  rw [wl.1, pk_sub ha]
  by_cases c : e - a = (wds k).length
  · rw [decide_eq_true c, Bool.true_and]
    refine ifp (by rw [c]) ?_
    exact c_hw h hk (wds k) 0 jF (by omega) (fun j hj => by rw [Nat.zero_add]) (by omega) (by unfold jF; omega)
  · rw [decide_eq_false c]
    exact ifn (fun z => c ((nI_eq (by omega) (by omega)).mp z)) rfl
theorem Lay.k34 {B : Nat} {s : hS} (L : Lay B s) : hK s (B + 34) = (0, 10) := L.k 34 0 10 rfl
theorem Lay.k37 {B : Nat} {s : hS} (L : Lay B s) : hK s (B + 37) = (10, 96) := L.k 37 10 96 rfl
theorem Lay.k38 {B : Nat} {s : hS} (L : Lay B s) : hK s (B + 38) = (10, 96) := L.k 38 10 96 rfl
theorem Lay.q0 {B : Nat} {s : hS} (L : Lay B s) : gR s (B + 34) 0 0 = some (B + 35) := gR_ok L.k34 (L.r 34 0 35 (by decide))
theorem Lay.q1 {B : Nat} {s : hS} (L : Lay B s) : gR s (B + 34) 0 1 = some (B + 37) := gR_ok L.k34 (L.r 34 1 37 (by decide))
theorem Lay.q3 {B : Nat} {s : hS} (L : Lay B s) : gR s (B + 34) 0 3 = some (B + 38) := gR_ok L.k34 (L.r 34 3 38 (by decide))
theorem c_key (h : TpC B s V n) {a e : Nat} (ha : a ≤ e) (he : e ≤ n) : f_X0_keyAt s (B + 34) (nI a) (nI e) = some (ltI (keyM V a e), s) := by
  have w0 := (cV_ok h.1.k35).trans (c_isW h (k := 0) (by decide) ha he)
  have w1 := (cV_ok h.1.k35).trans (c_isW h (k := 1) (by decide) ha he)
  have w2 := (cV_ok h.1.k35).trans (c_isW h (k := 2) (by decide) ha he)
  unfold f_X0_keyAt keyM
  refine bnd h.1.q0 (bnd w0 ?_)
  cases isW V 0 a e
  · rw [if_neg (show ¬ (false = true) by decide)]
    refine ifp rfl (bnd h.1.q0 (bnd w1 ?_))
    cases isW V 1 a e
    · rw [if_neg (show ¬ (false = true) by decide)]
      refine ifp rfl (bnd h.1.q0 (bnd w2 ?_))
      cases isW V 2 a e
      · exact ifp rfl rfl
      · exact ifn one_ne rfl
    · exact ifn one_ne rfl
  · exact ifn one_ne rfl
/-- a number of a few figures -/
def nmb (V : Nat → Nat) (a : Nat) : Nat → Nat
  | 0 => 0
  | j + 1 => 10 * nmb V a j + (V (a + j) - 48)
theorem c_num (h : TpC B s V n) {a e : Nat} (ha : a ≤ e) (he : e ≤ n) (hd : ∀ j, a ≤ j → j < e → isD (V j) = true) : f_X3_numberAt s (B + 35) (nI a) (nI e) = some (nI (nmb V a (e - a)), s) := by
  have h96 := h.2.1
  have lp := jL_run (F := f_X3_numberAt_b5) (z := fun _ _ _ _ _ => none) (fun (k : kk3) i => k (B + 35) (nI e) (nI (nmb V a i)) (nI (a + i)) s) (e - a) (some (nI (nmb V a (e - a)), s)) (fun i hi k => ?_) (fun k => ?_) jF 0 (Nat.zero_le _) (jF_lt (by omega))
  · exact lp
  · show f_X3_numberAt_b5 k (B + 35) (nI e) (nI (nmb V a i)) (nI (a + i)) s = k (B + 35) (nI e) (nI (10 * nmb V a i + (V (a + i) - 48))) (nI (a + i + 1)) s
    have d := hd (a + i) (by omega) (by omega)
    have d48 : 48 ≤ V (a + i) := by
      unfold isD at d
      rw [Bool.and_eq_true] at d
      exact of_decide_eq_true d.1
    unfold f_X3_numberAt_b5
    refine ifn (nI_ge (by omega) (by omega)) (bnd ((cV_ok h.1.k35).trans (c_at h (by omega))) ?_)
    unfold nmv
    show k (B + 35) (nI e) (nI (nmb V a i) * nI 10 + nI (V (a + i)) - nI 48) (nI (a + i) + 1) s = _
    rw [pk_mul, nI_add, pk_sub (by omega), nI_1, show nmb V a i * 10 + V (a + i) - 48 = 10 * nmb V a i + (V (a + i) - 48) by omega]
  · show f_X3_numberAt_b5 k (B + 35) (nI e) _ (nI (a + (e - a))) s = _
    unfold f_X3_numberAt_b5
    rw [show a + (e - a) = e by omega]
    exact ifp (nI_le (Nat.le_refl _) (by omega)) rfl
end TC
theorem nmb_lt {V : Nat → Nat} {a e : Nat} (hd : ∀ j, a ≤ j → j < e → isD (V j) = true) : ∀ j, a + j ≤ e → nmb V a j < 10 ^ j
  | 0, _ => Nat.zero_lt_one
  | j + 1, hj => by
    have ih := nmb_lt hd j (by omega)
    have d := hd (a + j) (by omega) (by omega)
    have d57 : V (a + j) ≤ 57 := by
      unfold isD at d
      rw [Bool.and_eq_true] at d
      exact of_decide_eq_true d.2
    show 10 * nmb V a j + (V (a + j) - 48) < 10 ^ (j + 1)
    rw [Nat.pow_succ]
    omega
theorem skp_all {P : Nat → Bool} {V : Nat → Nat} : ∀ d i j, i ≤ j → j < skp P V d i → P (V j) = true
  | 0, i, j, h1, h2 => by
    have : skp P V 0 i = i := rfl
    omega
  | d + 1, i, j, h1, h2 => by
    cases e : P (V i)
    · rw [skp_f e] at h2; omega
    · rw [skp_t e] at h2
      by_cases c : j = i
      · rw [c]; exact e
      · exact skp_all d (i + 1) j (by omega) h2
