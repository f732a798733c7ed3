/-! what follows from a set -/
def sub (a b : Nat) : Prop := ∀ i, a.testBit i = true → b.testBit i = true
theorem sub_rf (a : Nat) : sub a a := fun _ h => h
theorem sub_tr {a b c : Nat} (h : sub a b) (h2 : sub b c) : sub a c := fun i q => h2 i (h i q)
theorem sub_an {a b : Nat} (h : sub a b) (h2 : sub b a) : a = b := by
  apply Nat.eq_of_testBit_eq
  intro i
  rw [Bool.eq_iff_iff]
  exact ⟨h i, h2 i⟩
theorem sub_or1 (a b : Nat) : sub a (a ||| b) := fun i h => by rw [Nat.testBit_or, h]; rfl
theorem sub_or2 (a b : Nat) : sub b (a ||| b) := fun i h => by rw [Nat.testBit_or, h, Bool.or_true]
theorem sub_or {a b c : Nat} (h : sub a c) (h2 : sub b c) : sub (a ||| b) c := fun i q => by
  rw [Nat.testBit_or, Bool.or_eq_true] at q
  exact q.elim (h i) (h2 i)
theorem rl1_sub (ρ : Nat → Nat → Nat) (r x : Nat) : sub x (rl1 ρ r x) := by
  unfold rl1
  split
  · exact sub_or1 _ _
  · exact sub_rf _
theorem rl1_mono {ρ : Nat → Nat → Nat} {r x y : Nat} (h : sub x y) : sub (rl1 ρ r x) (rl1 ρ r y) := by
  unfold rl1
  by_cases c : (x.testBit (ρ 5 r) && x.testBit (ρ 6 r)) = true
  · have c2 : (y.testBit (ρ 5 r) && y.testBit (ρ 6 r)) = true := by
      rw [Bool.and_eq_true] at c ⊢
      exact ⟨h _ c.1, h _ c.2⟩
    rw [if_pos c, if_pos c2]
    exact sub_or (sub_tr h (sub_or1 _ _)) (sub_or2 _ _)
  · rw [if_neg c]
    refine sub_tr h ?_
    split
    · exact sub_or1 _ _
    · exact sub_rf _
theorem rlN_sub (ρ : Nat → Nat → Nat) (x : Nat) : ∀ n, sub x (rlN ρ n x)
  | 0 => sub_rf _
  | n + 1 => sub_tr (rlN_sub ρ x n) (rl1_sub ρ n _)
theorem rlN_mono {ρ : Nat → Nat → Nat} {x y : Nat} (h : sub x y) : ∀ n, sub (rlN ρ n x) (rlN ρ n y)
  | 0 => h
  | n + 1 => rl1_mono (rlN_mono h n)
theorem clo_sub (ρ : Nat → Nat → Nat) : ∀ n x, sub x (clo ρ n x)
  | 0, _ => sub_rf _
  | n + 1, x => sub_tr (rlN_sub ρ x _) (clo_sub ρ n _)
theorem clo_mono {ρ : Nat → Nat → Nat} : ∀ n {x y : Nat}, sub x y → sub (clo ρ n x) (clo ρ n y)
  | 0, _, _, h => h
  | n + 1, _, _, h => clo_mono n (rlN_mono h _)
theorem clo_fix {ρ : Nat → Nat → Nat} {x : Nat} (h : rlP ρ x = x) : ∀ n, clo ρ n x = x
  | 0 => rfl
  | n + 1 => by
    show clo ρ n (rlP ρ x) = x
    rw [h]
    exact clo_fix h n
/-- a pass that adds something adds some rule's fact -/
def fcP (ρ : Nat → Nat → Nat) (x r : Nat) : Bool := x.testBit (ρ 7 r)
theorem rlN_add (ρ : Nat → Nat → Nat) (x : Nat) : ∀ n, rlN ρ n x = x ∨ ∃ r, r < n ∧ fcP ρ x r = false ∧ fcP ρ (rlN ρ n x) r = true
  | 0 => Or.inl rfl
  | n + 1 => by
    have up : sub (rlN ρ n x) (rlN ρ (n + 1) x) := rl1_sub ρ n _
    rcases rlN_add ρ x n with h | ⟨r, h1, h2, h3⟩
    · by_cases c : fcP ρ x n = true
      · refine Or.inl ?_
        show rl1 ρ n (rlN ρ n x) = x
        rw [h]
        unfold rl1
        split
        · refine sub_an (sub_or (sub_rf _) ?_) (sub_or1 _ _)
          intro i hi
          rw [Nat.testBit_two_pow] at hi
          have := of_decide_eq_true hi
          rw [← this]
          exact c
        · rfl
      · have c' : fcP ρ x n = false := by
          cases q : fcP ρ x n
          · rfl
          · exact absurd q c
        by_cases d : (x.testBit (ρ 5 n) && x.testBit (ρ 6 n)) = true
        · refine Or.inr ⟨n, by omega, c', ?_⟩
          show (rl1 ρ n (rlN ρ n x)).testBit (ρ 7 n) = true
          rw [h]
          unfold rl1
          rw [if_pos d]
          exact sub_or2 _ _ _ (by rw [Nat.testBit_two_pow]; exact decide_eq_true rfl)
        · refine Or.inl ?_
          show rl1 ρ n (rlN ρ n x) = x
          rw [h]
          unfold rl1
          rw [if_neg d]
    · exact Or.inr ⟨r, by omega, h2, up _ h3⟩
theorem ct_mono {P Q : Nat → Bool} : ∀ n, (∀ i, i < n → P i = true → Q i = true) → ct P n ≤ ct Q n
  | 0, _ => Nat.le_refl 0
  | n + 1, h => by
    have h1 := ct_mono n (fun i hi => h i (by omega))
    have h2 := h n (by omega)
    show ct P n + (P n).toNat ≤ ct Q n + (Q n).toNat
    cases hp : P n
    · have : (false : Bool).toNat = 0 := rfl
      rw [this]
      omega
    · rw [h2 hp]
      exact Nat.add_le_add_right h1 _
theorem ct_strict {P Q : Nat → Bool} {r : Nat} (hr : P r = false) (hq : Q r = true) : ∀ n, r < n → (∀ i, i < n → P i = true → Q i = true) → ct P n + 1 ≤ ct Q n
  | 0, h0, _ => by omega
  | n + 1, h0, h => by
    show ct P n + (P n).toNat + 1 ≤ ct Q n + (Q n).toNat
    by_cases e : r = n
    · subst e
      have h1 := ct_mono r (fun i hi => h i (by omega))
      rw [hr, hq]
      have z1 : (false : Bool).toNat = 0 := rfl
      have z2 : (true : Bool).toNat = 1 := rfl
      rw [z1, z2]
      omega
    · have h1 := ct_strict hr hq n (by omega) (fun i hi => h i (by omega))
      have h2 := h n (by omega)
      cases hp : P n
      · have : (false : Bool).toNat = 0 := rfl
        rw [this]
        omega
      · rw [h2 hp]
        have : (true : Bool).toNat = 1 := rfl
        rw [this]
        omega
theorem ct_all {P : Nat → Bool} : ∀ n, n ≤ ct P n → ∀ i, i < n → P i = true
  | 0, _, i, hi => by omega
  | n + 1, h, i, hi => by
    have h1 : n + 1 ≤ ct P n + (P n).toNat := h
    have h2 := ct_le P n
    cases hp : P n
    · rw [hp] at h1
      have : (false : Bool).toNat = 0 := rfl
      rw [this] at h1
      omega
    · rw [hp] at h1
      have : (true : Bool).toNat = 1 := rfl
      rw [this] at h1
      by_cases e : i = n
      · rw [e]; exact hp
      · exact ct_all n (by omega) i (by omega)
theorem rlN_all {ρ : Nat → Nat → Nat} {x : Nat} : ∀ n, (∀ r, r < n → fcP ρ x r = true) → rlN ρ n x = x := by
  intro n h
  rcases rlN_add ρ x n with e | ⟨r, h1, h2, h3⟩
  · exact e
  · rw [h r h1] at h2
    cases h2
theorem clo_go (ρ : Nat → Nat → Nat) : ∀ n x, rlP ρ (clo ρ n x) = clo ρ n x ∨ n + ct (fcP ρ x) (ρ 0 2) ≤ ct (fcP ρ (clo ρ n x)) (ρ 0 2)
  | 0, x => Or.inr (by rw [Nat.zero_add]; exact Nat.le_refl _)
  | n + 1, x => by
    show rlP ρ (clo ρ n (rlP ρ x)) = clo ρ n (rlP ρ x) ∨ n + 1 + ct (fcP ρ x) (ρ 0 2) ≤ ct (fcP ρ (clo ρ n (rlP ρ x))) (ρ 0 2)
    rcases rlN_add ρ x (ρ 0 2) with e | ⟨r, h1, h2, h3⟩
    · left
      have e2 : rlP ρ x = x := e
      rw [e2, clo_fix e2]
      exact e2
    · rcases clo_go ρ n (rlP ρ x) with q | q
      · exact Or.inl q
      · right
        have := ct_strict (P := fcP ρ x) (Q := fcP ρ (rlP ρ x)) h2 h3 (ρ 0 2) h1 (fun i _ hi => rlN_sub ρ x _ _ hi)
        omega
/-- a set with all that follows -/
def cl8 (ρ : Nat → Nat → Nat) (x : Nat) : Nat := clo ρ (ρ 0 2) x
theorem cl8_fix (ρ : Nat → Nat → Nat) (x : Nat) : rlP ρ (cl8 ρ x) = cl8 ρ x := by
  rcases clo_go ρ (ρ 0 2) x with h | h
  · exact h
  · exact rlN_all _ (ct_all _ (Nat.le_trans (Nat.le_add_right _ _) h))
theorem cl8_sub (ρ : Nat → Nat → Nat) (x : Nat) : sub x (cl8 ρ x) := clo_sub ρ _ x
theorem cl8_id {ρ : Nat → Nat → Nat} {x : Nat} (h : rlP ρ x = x) : cl8 ρ x = x := clo_fix h _
theorem cl8_least {ρ : Nat → Nat → Nat} {x y : Nat} (h : sub x y) (hy : rlP ρ y = y) : sub (cl8 ρ x) y := by
  have := clo_mono (ρ := ρ) (ρ 0 2) h
  rw [clo_fix hy] at this
  exact this
theorem rl1_lt {ρ : Nat → Nat → Nat} {r x F : Nat} (hx : x < 2 ^ F) (hr : ρ 7 r < F) : rl1 ρ r x < 2 ^ F := by
  unfold rl1
  split
  · exact Nat.or_lt_two_pow hx (Nat.pow_lt_pow_right (by decide) hr)
  · exact hx
theorem rlN_lt {ρ : Nat → Nat → Nat} {x F : Nat} (hx : x < 2 ^ F) : ∀ n, (∀ r, r < n → ρ 7 r < F) → rlN ρ n x < 2 ^ F
  | 0, _ => hx
  | n + 1, h => rl1_lt (rlN_lt hx n (fun r hr => h r (by omega))) (h n (by omega))
theorem clo_lt {ρ : Nat → Nat → Nat} {F : Nat} (h : ∀ r, r < ρ 0 2 → ρ 7 r < F) : ∀ n x, x < 2 ^ F → clo ρ n x < 2 ^ F
  | 0, _, hx => hx
  | n + 1, _, hx => clo_lt h n _ (rlN_lt hx _ h)
/-- what the rules' rows must hold -/
def RlOk (τ : Tw) : Prop := tF τ ≤ 16 ∧ tL τ ≤ 8 ∧ ∀ r, r < tL τ → tR τ 5 r < tF τ ∧ tR τ 6 r < tF τ ∧ tR τ 7 r < tF τ
theorem TwOk.rl {τ : Tw} (h : TwOk τ) : RlOk τ := ⟨h.1.1, h.1.2.2.1, h.2.2.2.1⟩
theorem RlOk.lt {τ : Tw} (h : RlOk τ) {x : Nat} (hx : x < 2 ^ tF τ) : cl8 τ.1 x < 2 ^ tF τ := clo_lt (fun r hr => (h.2.2 r hr).2.2) _ _ hx
theorem RlOk.b {τ : Tw} (h : RlOk τ) {x : Nat} (hx : x < 2 ^ tF τ) : x < 65536 := by
  have h2 : 2 ^ tF τ ≤ 2 ^ 16 := Nat.pow_le_pow_right (by decide) h.1
  have h3 : (2 : Nat) ^ 16 = 65536 := by decide
  omega
theorem need_iff (x a b : Nat) : x &&& (2 ^ a ||| 2 ^ b) = 2 ^ a ||| 2 ^ b ↔ (x.testBit a && x.testBit b) = true := by
  constructor
  · intro h
    have h1 : ∀ i, (x.testBit i && (decide (a = i) || decide (b = i))) = (decide (a = i) || decide (b = i)) := fun i => by
      have := congrArg (fun y => Nat.testBit y i) h
      simp only [Nat.testBit_and, Nat.testBit_or, Nat.testBit_two_pow] at this
      exact this
    have ha := h1 a
    have hb := h1 b
    simp at ha hb
    rw [ha, hb]; rfl
  · intro h
    rw [Bool.and_eq_true] at h
    apply Nat.eq_of_testBit_eq
    intro i
    rw [Nat.testBit_and, Nat.testBit_or, Nat.testBit_two_pow, Nat.testBit_two_pow]
    by_cases ca : a = i
    · subst ca
      rw [h.1, Bool.true_and]
    · by_cases cb : b = i
      · subst cb
        rw [h.2, Bool.true_and]
      · rw [decide_eq_false ca, decide_eq_false cb]
        simp
abbrev kk4 : Type := Nat → Int32 → Int32 → Int32 → Int32 → hS → Option (Int32 × hS)
theorem c_pass {s : hS} {T : Nat} {τ : Tw} (h : TLy s T) (hN : TwN s T τ) (hr : RlOk τ) (k4 : kk2) {x : Nat} (hx : x < 2 ^ tF τ) (l3 : Int32) : jL (f_X5_withWhatFollows_b18 k4) (fun _ _ _ _ _ _ => none) jF T (nI x) l3 (nI x) 0 s = if rlP τ.1 x = x then some (nI x, s) else k4 T (nI (rlP τ.1 x)) (l3 + 1) s := by
  have hb := hr.2.1
  refine jL_run (F := f_X5_withWhatFollows_b18 k4) (z := fun _ _ _ _ _ _ => none) (fun (k : kk4) i => k T (nI (rlN τ.1 i x)) l3 (nI x) (nI i) s) (tL τ) _ (fun i hi k => ?_) (fun k => ?_) jF 0 (Nat.zero_le _) (jF_lt (by omega))
  · show f_X5_withWhatFollows_b18 k4 k T _ _ _ _ s = _
    have hl : rlN τ.1 i x < 65536 := hr.b (rlN_lt hx i (fun r hq => (hr.2.2 r (by omega)).2.2))
    have r3 := hr.2.2 i hi
    have n3 := hN.2.2.2.1 i hi
    have f16 := hr.1
    unfold f_X5_withWhatFollows_b18 f_X5_withWhatFollows_b56
    refine bnd (gI_ok h.1) ?_
    rw [hN.1.2.2.1]
    refine ifn (nI_ge hi (by omega)) (bnd h.g12 (bnd (h.a5 (by omega)) (bnd h.g12 (bnd (h.a5 (by omega)) ?_))))
    rw [n3.1, bi_and]
    have h2 : (2 ^ tR τ 5 i ||| 2 ^ tR τ 6 i) < 2 ^ 16 := Nat.or_lt_two_pow (Nat.pow_lt_pow_right (by decide) (by omega)) (Nat.pow_lt_pow_right (by decide) (by omega))
    have h3 : rlN τ.1 i x &&& (2 ^ tR τ 5 i ||| 2 ^ tR τ 6 i) ≤ rlN τ.1 i x := Nat.and_le_left
    by_cases c : ((rlN τ.1 i x).testBit (tR τ 5 i) && (rlN τ.1 i x).testBit (tR τ 6 i)) = true
    · have e : rlN τ.1 (i + 1) x = rlN τ.1 i x ||| 2 ^ tR τ 7 i := if_pos c
      refine ifp (by rw [(need_iff _ _ _).mpr c]) (bnd h.g13 (bnd (h.a6 (by omega)) ?_))
      show k T (nI (rlN τ.1 i x) ||| hI s (T + 6) i) l3 (nI x) (nI i + 1) s = _
      rw [n3.2, bi_or, e, nI_1]
    · have e : rlN τ.1 (i + 1) x = rlN τ.1 i x := if_neg c
      refine ifn (fun q => c ((need_iff _ _ _).mp ((nI_eq (by omega) (by omega)).mp q))) ?_
      rw [e, nI_1]
  · show f_X5_withWhatFollows_b18 k4 k T _ _ _ _ s = _
    have hl : rlP τ.1 x < 65536 := hr.b (rlN_lt hx _ (fun r hq => (hr.2.2 r hq).2.2))
    have hx2 := hr.b hx
    unfold f_X5_withWhatFollows_b18
    refine bnd (gI_ok h.1) ?_
    rw [hN.1.2.2.1]
    refine ifp (nI_le (Nat.le_refl _) (by omega)) ?_
    by_cases c : rlP τ.1 x = x
    · rw [if_pos c]
      have c2 : rlN τ.1 (tL τ) x = x := c
      rw [c2]
      exact ifp rfl rfl
    · rw [if_neg c]
      exact ifn (fun q => c ((nI_eq (by omega) (by omega)).mp q)) rfl
theorem c_wwf_go {s : hS} {T : Nat} {τ : Tw} (h : TLy s T) (hN : TwN s T τ) (hr : RlOk τ) : ∀ fuel n x, x < 2 ^ tF τ → n ≤ tL τ → n < fuel → jL f_X5_withWhatFollows_b4 (fun _ _ _ _ => none) fuel T (nI x) (nI (tL τ - n)) s = some (nI (clo τ.1 n x), s)
  | 0, n, x, _, _, h2 => by omega
  | fuel + 1, 0, x, hx, _, _ => by
    have hb := hr.2.1
    show f_X5_withWhatFollows_b4 _ T (nI x) _ s = _
    unfold f_X5_withWhatFollows_b4
    refine bnd (gI_ok h.1) ?_
    rw [hN.1.2.2.1]
    exact ifp (nI_le (by omega) (by omega)) rfl
  | fuel + 1, n + 1, x, hx, h1, h2 => by
    have hb := hr.2.1
    show f_X5_withWhatFollows_b4 (jL f_X5_withWhatFollows_b4 (fun _ _ _ _ => none) fuel) T (nI x) _ s = _
    unfold f_X5_withWhatFollows_b4
    refine bnd (gI_ok h.1) ?_
    rw [hN.1.2.2.1]
    refine ifn (nI_ge (by omega) (by omega)) ?_
    rw [c_pass h hN hr _ hx]
    by_cases c : rlP τ.1 x = x
    · rw [if_pos c, clo_fix c]
    · rw [if_neg c, nI_1, show tL τ - (n + 1) + 1 = tL τ - n by omega]
      exact c_wwf_go h hN hr fuel n _ (rlN_lt hx _ (fun r hq => (hr.2.2 r hq).2.2)) (by omega) (by omega)
theorem c_wwf {s : hS} {T : Nat} {τ : Tw} (h : TLy s T) (hN : TwN s T τ) (hr : RlOk τ) {x : Nat} (hx : x < 2 ^ tF τ) : f_X5_withWhatFollows s T (nI x) = some (nI (cl8 τ.1 x), s) := by
  have hb := hr.2.1
  have := c_wwf_go h hN hr jF (tL τ) x hx (Nat.le_refl _) (by unfold jF; omega)
  rw [Nat.sub_self] at this
  exact this
theorem c_learn {s : hS} {T : Nat} {τ : Tw} (h : TLy s T) (hN : TwN s T τ) (hr : RlOk τ) {p m : Nat} (hp : p < 8) (hk : tR τ 3 p < 2 ^ tF τ) (hm : m < 2 ^ tF τ) : f_X5_learn s T (nI p) (nI m) = some ((), uI s (T + 3) p (nI (cl8 τ.1 (tR τ 3 p ||| m)))) := by
  unfold f_X5_learn
  refine bnd h.g10 (bnd h.g10 (bnd (h.a3 hp) ?_))
  rw [(hN.2.2.1 p hp).1, bi_or]
  exact bnd ((cV_ok h.1).trans (c_wwf h hN hr (Nat.or_lt_two_pow hk hm))) (bnd (h.s3 hp) rfl)
/-! the reference's way -/
abbrev kku3 : Type := Nat → Int32 → Int32 → Int32 → hS → Option (Unit × hS)
abbrev kku4 : Type := Nat → Int32 → Int32 → Int32 → Int32 → hS → Option (Unit × hS)
theorem rl1_bits (ρ : Nat → Nat → Nat) (r : Nat) {x : Nat} (hx : x < 65536) (ha : ρ 5 r < 16) (hb : ρ 6 r < 16) (hc : ρ 7 r < 16) : (nI x ||| ((((nI x >>> (nI (ρ 5 r) &&& 31)) &&& (nI x >>> (nI (ρ 6 r) &&& 31))) &&& (1 : Int32)) <<< (nI (ρ 7 r) &&& 31))) = nI (rl1 ρ r x) := by
  have e : (((nI x >>> (nI (ρ 5 r) &&& 31)) &&& (nI x >>> (nI (ρ 6 r) &&& 31))) &&& (1 : Int32)) = nI (x.testBit (ρ 5 r) && x.testBit (ρ 6 r)).toNat := by
    rw [bi_shr (by omega) (by omega), bi_shr (by omega) (by omega), bi_and, show (1 : Int32) = nI 1 from rfl, bi_and, Nat.and_one_is_mod]
    congr 1
    have h1 := Nat.and_mod_two_pow (a := x / 2 ^ ρ 5 r) (b := x / 2 ^ ρ 6 r) (n := 1)
    rw [Nat.pow_one, ← Nat.toNat_testBit, ← Nat.toNat_testBit] at h1
    rw [h1]
    cases x.testBit (ρ 5 r) <;> cases x.testBit (ρ 6 r) <;> rfl
  have hp : 2 ^ ρ 7 r < 2 ^ 16 := Nat.pow_lt_pow_right (by decide) hc
  rw [e]
  unfold rl1
  cases c : (x.testBit (ρ 5 r) && x.testBit (ρ 6 r))
  · rw [if_neg (by decide), bi_shl (by omega) (by show 0 * _ < _; rw [Nat.zero_mul]; decide)]
    show nI x ||| nI (0 * 2 ^ ρ 7 r) = nI x
    rw [Nat.zero_mul, bi_or, Nat.or_zero]
  · rw [if_pos rfl]
    show nI x ||| (nI 1 <<< (nI (ρ 7 r) &&& 31)) = _
    rw [bi_shl (by omega) (by rw [Nat.one_mul]; omega), Nat.one_mul, bi_or]
theorem m_pass {B : Nat} {s : hS} {τ : Tw} (L : Lay B s) (hM : TwM (hI s (B + 67)) τ) (hr : RlOk τ) (k11 : kku3) {x : Nat} (hx : x < 2 ^ tF τ) (l1 : Int32) : jL (f_X7_learns_b22 k11) (fun _ _ _ _ _ _ => none) jF (B + 66) l1 (nI x) (nI x) 0 s = k11 (B + 66) l1 (nI (rlP τ.1 x)) (if rlP τ.1 x = x then 0 else 1) s := by
  have hb := hr.2.1
  refine jL_run (F := f_X7_learns_b22 k11) (z := fun _ _ _ _ _ _ => none) (fun (k : kku4) i => k (B + 66) l1 (nI (rlN τ.1 i x)) (nI x) (nI i) s) (tL τ) _ (fun i hi k => ?_) (fun k => ?_) jF 0 (Nat.zero_le _) (jF_lt (by omega))
  · show f_X7_learns_b22 k11 k (B + 66) _ _ _ _ s = _
    have hl : rlN τ.1 i x < 65536 := hr.b (rlN_lt hx i (fun r hq => (hr.2.2 r (by omega)).2.2))
    have r3 := hr.2.2 i hi
    have n3 := hM.2.2.2.1 i hi
    have f16 := hr.1
    unfold f_X7_learns_b22
    refine bnd L.gn (bnd (L.an 4 rfl (by decide)) ?_)
    rw [hM.1.2.2.1]
    refine ifn (nI_ge hi (by omega)) ?_
    show ((gR s (B + 66) 7 0).bind fun a4 => (aI s a4 10 ((56 : Int32) + (3 : Int32) * nI i)).bind fun x5 => (gR s (B + 66) 7 0).bind fun a6 => (aI s a6 10 ((56 : Int32) + (3 : Int32) * nI i + (1 : Int32))).bind fun x7 => (gR s (B + 66) 7 0).bind fun a8 => (aI s a8 10 ((56 : Int32) + (3 : Int32) * nI i + (2 : Int32))).bind fun x9 => k (B + 66) l1 (nI (rlN τ.1 i x) ||| ((((nI (rlN τ.1 i x) >>> (x5 &&& 31)) &&& (nI (rlN τ.1 i x) >>> (x7 &&& 31))) &&& (1 : Int32)) <<< (x9 &&& 31))) (nI x) (nI i + 1) s) = _
    refine bnd L.gn (bnd (L.an (56 + 3 * i) (ixm 56 3 i) (by omega)) (bnd L.gn (bnd (L.an (57 + 3 * i) (ixe 56 3 i 1 (by omega)) (by omega)) (bnd L.gn (bnd (L.an (58 + 3 * i) (ixe 56 3 i 2 (by omega)) (by omega)) ?_)))))
    rw [n3.1, n3.2.1, n3.2.2, rl1_bits τ.1 i hl (Nat.lt_of_lt_of_le r3.1 f16) (Nat.lt_of_lt_of_le r3.2.1 f16) (Nat.lt_of_lt_of_le r3.2.2 f16), nI_1]
    rfl
  · show f_X7_learns_b22 k11 k (B + 66) _ _ _ _ s = _
    have hl : rlP τ.1 x < 65536 := hr.b (rlN_lt hx _ (fun r hq => (hr.2.2 r hq).2.2))
    have hx2 := hr.b hx
    unfold f_X7_learns_b22 f_X7_learns_b95
    refine bnd L.gn (bnd (L.an 4 rfl (by decide)) ?_)
    rw [hM.1.2.2.1]
    refine ifp (nI_le (Nat.le_refl _) (by omega)) ?_
    by_cases c : rlP τ.1 x = x
    · rw [if_pos c]
      exact ifp (congrArg nI c) rfl
    · rw [if_neg c]
      exact ifn (fun q => c ((nI_eq (by omega) (by omega)).mp q)) rfl
theorem m_learn_go {B : Nat} {s : hS} {τ : Tw} (L : Lay B s) (hM : TwM (hI s (B + 67)) τ) (hr : RlOk τ) {p : Nat} (hp : p < 8) : ∀ n fuel x, x < 2 ^ tF τ → rlP τ.1 (clo τ.1 n x) = clo τ.1 n x → n + 2 ≤ fuel → jL f_X7_learns_b11 (fun _ _ _ _ _ => none) fuel (B + 66) (nI p) (nI x) 1 s = some ((), uI s (B + 67) (40 + 2 * p) (nI (clo τ.1 n x))) := by
  have fin : ∀ fuel x, jL f_X7_learns_b11 (fun _ _ _ _ _ => none) (fuel + 1) (B + 66) (nI p) (nI x) 0 s = some ((), uI s (B + 67) (40 + 2 * p) (nI x)) := by
    intro fuel x
    show f_X7_learns_b11 _ (B + 66) (nI p) (nI x) 0 s = _
    unfold f_X7_learns_b11
    exact ifp rfl (bnd L.gn (bnd (L.sn (40 + 2 * p) (ixm 40 2 p) (by omega)) rfl))
  have fixd : ∀ fuel x, x < 2 ^ tF τ → rlP τ.1 x = x → jL f_X7_learns_b11 (fun _ _ _ _ _ => none) (fuel + 2) (B + 66) (nI p) (nI x) 1 s = some ((), uI s (B + 67) (40 + 2 * p) (nI x)) := by
    intro fuel x hx c
    show f_X7_learns_b11 (jL f_X7_learns_b11 (fun _ _ _ _ _ => none) (fuel + 1)) (B + 66) (nI p) (nI x) 1 s = _
    unfold f_X7_learns_b11
    refine ifn one_ne ?_
    rw [m_pass L hM hr _ hx, if_pos c, c]
    exact fin fuel x
  intro n
  induction n with
  | zero =>
    intro fuel x hx c hf
    obtain ⟨g, rfl⟩ : ∃ g, fuel = g + 2 := ⟨fuel - 2, by omega⟩
    exact fixd g x hx c
  | succ n ih =>
    intro fuel x hx c hf
    obtain ⟨g, rfl⟩ : ∃ g, fuel = g + 2 := ⟨fuel - 2, by omega⟩
    by_cases d : rlP τ.1 x = x
    · rw [clo_fix d]
      exact fixd g x hx d
    · show f_X7_learns_b11 (jL f_X7_learns_b11 (fun _ _ _ _ _ => none) (g + 1)) (B + 66) (nI p) (nI x) 1 s = _
      unfold f_X7_learns_b11
      refine ifn one_ne ?_
      rw [m_pass L hM hr _ hx, if_neg d]
      exact ih (g + 1) (rlP τ.1 x) (rlN_lt hx _ (fun r hq => (hr.2.2 r hq).2.2)) c (by omega)
theorem m_learn {B : Nat} {s : hS} {τ : Tw} (L : Lay B s) (hM : TwM (hI s (B + 67)) τ) (hr : RlOk τ) {p m : Nat} (hp : p < 8) (hk : tR τ 3 p < 2 ^ tF τ) (hm : m < 2 ^ tF τ) : f_X7_learns s (B + 66) (nI p) (nI m) = some ((), uI s (B + 67) (40 + 2 * p) (nI (cl8 τ.1 (tR τ 3 p ||| m)))) := by
  have hb := hr.2.1
  unfold f_X7_learns
  refine bnd ((cV_ok L.km).trans (m_kt L hM hp)) ?_
  show jL f_X7_learns_b11 (fun _ _ _ _ _ => none) jF (B + 66) (nI p) (nI (tR τ 3 p) ||| nI m) 1 s = _
  rw [bi_or]
  exact m_learn_go L hM hr hp (tL τ) jF _ (Nat.or_lt_two_pow hk hm) (cl8_fix τ.1 _) (by unfold jF; omega)
theorem TwOk.r3 {τ : Tw} (h : TwOk τ) (j w : Nat) (hw : w < 2 ^ tF τ) (hf : rlP τ.1 w = w) : TwOk (upT τ 3 j w) := by
  obtain ⟨q, w1, w2, w3, w4, w5⟩ := h
  have e : ∀ x, rlP (upT τ 3 j w).1 x = rlP τ.1 x := fun x => rlP_tf (by omega) x
  refine ⟨q, w1, fun p hp => ?_, w3, w4, w5⟩
  by_cases c : p = j
  · subst c
    have z : tR (upT τ 3 p w) 3 p = w := up_eq τ 3 p w
    rw [z, e]
    exact ⟨hw, (w2 p hp).2.1, hf⟩
  · have z : tR (upT τ 3 j w) 3 p = tR τ 3 p := up_ne (by omega)
    rw [z, e]
    exact w2 p hp
theorem TwOk.r4 {τ : Tw} (h : TwOk τ) (j w : Nat) (hw : w < 2 ^ tF τ) : TwOk (upT τ 4 j w) := by
  obtain ⟨q, w1, w2, w3, w4, w5⟩ := h
  have e : ∀ x, rlP (upT τ 4 j w).1 x = rlP τ.1 x := fun x => rlP_tf (by omega) x
  refine ⟨q, w1, fun p hp => ⟨(w2 p hp).1, ?_, ?_⟩, w3, w4, w5⟩
  · by_cases c : p = j
    · subst c
      have z : tR (upT τ 4 p w) 4 p = w := up_eq τ 4 p w
      rw [z]
      exact hw
    · have z : tR (upT τ 4 j w) 4 p = tR τ 4 p := up_ne (by omega)
      rw [z]
      exact (w2 p hp).2.1
  · rw [e]
    exact (w2 p hp).2.2
