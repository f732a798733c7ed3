/-! texts worked out -/
theorem aL_ok {s : hS} {a c n : Nat} (h : hK s a = (c, n)) : aL s a c = some (nI n) := by
  unfold aL
  rw [show s.2.2.1 a = (c, n) from h]
  exact if_pos rfl
theorem nI_nn {q : Nat} {m : Int32} (hq : q < 2 ^ 31) (hm : m < 0) : ¬ nI q = m := fun e => nI_pos hq (by rw [e]; exact hm)
theorem nI_m3 {q : Nat} (hq : q < 2 ^ 31) : (-3 : Int32) ≤ nI q := Int32.le_trans (by decide : (-3 : Int32) ≤ 0) (nI_pos' hq)
def notv (a : Int32) : Int32 := if a = 0 then 1 else 0
def bop (c a b : Int32) : Int32 := if c = -38 then (if a = 0 then 0 else if b = 0 then 0 else 1) else if c = -42 then a * b else if c = -43 then a + b else if c = -45 then a - b else if c = -47 then (if b = 0 then 0 else a / b) else if c = -60 then (if b ≤ a then 0 else 1) else if c = -61 then (if a = b then 1 else 0) else if c = -62 then (if a ≤ b then 0 else 1) else (if a = 0 then (if b = 0 then 0 else 1) else 1)
def leaf (c x y z : Int32) : Int32 := if 0 ≤ c then c else if c = -1 then x else if c = -2 then y else z
def sg9 : List Int32 := [-124, -38, -60, -61, -62, -43, -45, -42, -47]
theorem bop_38 (a b : Int32) : bop (-38) a b = (if a = 0 then 0 else if b = 0 then 0 else 1) := by
  unfold bop
  exact ifp rfl (rfl)
theorem bop_42 (a b : Int32) : bop (-42) a b = (a * b) := by
  unfold bop
  exact ifn (by decide) (ifp rfl (rfl))
theorem bop_43 (a b : Int32) : bop (-43) a b = (a + b) := by
  unfold bop
  exact ifn (by decide) (ifn (by decide) (ifp rfl (rfl)))
theorem bop_45 (a b : Int32) : bop (-45) a b = (a - b) := by
  unfold bop
  exact ifn (by decide) (ifn (by decide) (ifn (by decide) (ifp rfl (rfl))))
theorem bop_47 (a b : Int32) : bop (-47) a b = (if b = 0 then 0 else a / b) := by
  unfold bop
  exact ifn (by decide) (ifn (by decide) (ifn (by decide) (ifn (by decide) (ifp rfl (rfl)))))
theorem bop_60 (a b : Int32) : bop (-60) a b = (if b ≤ a then 0 else 1) := by
  unfold bop
  exact ifn (by decide) (ifn (by decide) (ifn (by decide) (ifn (by decide) (ifn (by decide) (ifp rfl (rfl))))))
theorem bop_61 (a b : Int32) : bop (-61) a b = (if a = b then 1 else 0) := by
  unfold bop
  exact ifn (by decide) (ifn (by decide) (ifn (by decide) (ifn (by decide) (ifn (by decide) (ifn (by decide) (ifp rfl (rfl)))))))
theorem bop_62 (a b : Int32) : bop (-62) a b = (if a ≤ b then 0 else 1) := by
  unfold bop
  exact ifn (by decide) (ifn (by decide) (ifn (by decide) (ifn (by decide) (ifn (by decide) (ifn (by decide) (ifn (by decide) (ifp rfl (rfl))))))))
theorem bop_124 (a b : Int32) : bop (-124) a b = (if a = 0 then (if b = 0 then 0 else 1) else 1) := by
  unfold bop
  exact ifn (by decide) (ifn (by decide) (ifn (by decide) (ifn (by decide) (ifn (by decide) (ifn (by decide) (ifn (by decide) (ifn (by decide) (rfl))))))))
theorem leaf_n {q : Nat} (hq : q < 2 ^ 31) (x y z : Int32) : leaf (nI q) x y z = nI q := by
  unfold leaf
  exact ifp (nI_pos' hq) rfl
theorem leaf_1 (x y z : Int32) : leaf (-1) x y z = x := by
  unfold leaf
  exact ifn (by decide) (ifp rfl rfl)
theorem leaf_2 (x y z : Int32) : leaf (-2) x y z = y := by
  unfold leaf
  exact ifn (by decide) (ifn (by decide) (ifp rfl rfl))
theorem leaf_3 (x y z : Int32) : leaf (-3) x y z = z := by
  unfold leaf
  exact ifn (by decide) (ifn (by decide) (ifn (by decide) rfl))
theorem cmap_n {q : Nat} (hq : q < 2 ^ 31) (key : Nat) : cmap key (nI q) = nI q := by
  unfold cmap
  exact ifp (nI_pos' hq) rfl
theorem cmap_1 (key : Nat) : cmap key (-1) = 10000 := by
  unfold cmap
  exact ifn (by decide) (ifp rfl rfl)
theorem cmap_2 (key : Nat) : cmap key (-2) = 10001 := by
  unfold cmap
  exact ifn (by decide) (ifn (by decide) (ifp rfl rfl))
theorem cmap_3 (key : Nat) : cmap key (-3) = if key = 0 then 10002 else 10001 := by
  unfold cmap
  exact ifn (by decide) (ifn (by decide) (ifn (by decide) (ifp rfl rfl)))
theorem cmap_124 (key : Nat) : cmap key (-124) = -1 := by
  unfold cmap
  exact ifn (by decide) (ifn (by decide) (ifn (by decide) (ifn (by decide) (ifp rfl rfl))))
theorem cmap_38 (key : Nat) : cmap key (-38) = -2 := by
  unfold cmap
  exact ifn (by decide) (ifn (by decide) (ifn (by decide) (ifn (by decide) (ifn (by decide) (ifp rfl rfl)))))
theorem cmap_60 (key : Nat) : cmap key (-60) = -3 := by
  unfold cmap
  exact ifn (by decide) (ifn (by decide) (ifn (by decide) (ifn (by decide) (ifn (by decide) (ifn (by decide) (ifp rfl rfl))))))
theorem cmap_61 (key : Nat) : cmap key (-61) = -4 := by
  unfold cmap
  exact ifn (by decide) (ifn (by decide) (ifn (by decide) (ifn (by decide) (ifn (by decide) (ifn (by decide) (ifn (by decide) (ifp rfl rfl)))))))
theorem cmap_62 (key : Nat) : cmap key (-62) = -5 := by
  unfold cmap
  exact ifn (by decide) (ifn (by decide) (ifn (by decide) (ifn (by decide) (ifn (by decide) (ifn (by decide) (ifn (by decide) (ifn (by decide) (ifp rfl rfl))))))))
theorem cmap_43 (key : Nat) : cmap key (-43) = -6 := by
  unfold cmap
  exact ifn (by decide) (ifn (by decide) (ifn (by decide) (ifn (by decide) (ifn (by decide) (ifn (by decide) (ifn (by decide) (ifn (by decide) (ifn (by decide) (ifp rfl rfl)))))))))
theorem cmap_45 (key : Nat) : cmap key (-45) = -7 := by
  unfold cmap
  exact ifn (by decide) (ifn (by decide) (ifn (by decide) (ifn (by decide) (ifn (by decide) (ifn (by decide) (ifn (by decide) (ifn (by decide) (ifn (by decide) (ifn (by decide) (ifp rfl rfl))))))))))
theorem cmap_42 (key : Nat) : cmap key (-42) = -8 := by
  unfold cmap
  exact ifn (by decide) (ifn (by decide) (ifn (by decide) (ifn (by decide) (ifn (by decide) (ifn (by decide) (ifn (by decide) (ifn (by decide) (ifn (by decide) (ifn (by decide) (ifn (by decide) (ifp rfl rfl)))))))))))
theorem cmap_47 (key : Nat) : cmap key (-47) = -9 := by
  unfold cmap
  exact ifn (by decide) (ifn (by decide) (ifn (by decide) (ifn (by decide) (ifn (by decide) (ifn (by decide) (ifn (by decide) (ifn (by decide) (ifn (by decide) (ifn (by decide) (ifn (by decide) (ifn (by decide) (ifp rfl rfl))))))))))))
theorem cmap_33 (key : Nat) : cmap key (-33) = -10 := by
  unfold cmap
  exact ifn (by decide) (ifn (by decide) (ifn (by decide) (ifn (by decide) (ifn (by decide) (ifn (by decide) (ifn (by decide) (ifn (by decide) (ifn (by decide) (ifn (by decide) (ifn (by decide) (ifn (by decide) (ifn (by decide) (rfl)))))))))))))
theorem cok9 {key : Nat} {c : Int32} (h : cok key c) (h3 : ¬ -3 ≤ c) (hn : c ≠ -33) : c ∈ sg9 := by
  rcases h with ⟨q, hq, rfl⟩ | rfl | ⟨rfl, -⟩ | ⟨rfl, -⟩ | h
  · exact absurd (nI_m3 (by omega)) h3
  · exact absurd (by decide) h3
  · exact absurd (by decide) h3
  · exact absurd (by decide) h3
  · have e : ([-124, -38, -60, -61, -62, -43, -45, -42, -47, -33] : List Int32) = sg9 ++ [-33] := rfl
    rw [e, List.mem_append] at h
    rcases h with h | h
    · exact h
    · exact absurd (List.mem_singleton.mp h) hn
theorem sg9_c {c : Int32} (h : c ∈ sg9) : c = -124 ∨ c = -38 ∨ c = -60 ∨ c = -61 ∨ c = -62 ∨ c = -43 ∨ c = -45 ∨ c = -42 ∨ c = -47 := by
  unfold sg9 at h
  simp only [List.mem_cons, List.not_mem_nil, or_false] at h
  exact h
theorem cok3 {key : Nat} {c : Int32} (h : cok key c) (h3 : -3 ≤ c) : (∃ q : Nat, q ≤ 9999 ∧ c = nI q) ∨ c = -1 ∨ (c = -2 ∧ key ≠ 1) ∨ (c = -3 ∧ key ≠ 2) := by
  rcases h with h | h | h | h | h
  · exact Or.inl h
  · exact Or.inr (Or.inl h)
  · exact Or.inr (Or.inr (Or.inl h))
  · exact Or.inr (Or.inr (Or.inr h))
  · simp only [List.mem_cons, List.not_mem_nil, or_false] at h
    rcases h with rfl | rfl | rfl | rfl | rfl | rfl | rfl | rfl | rfl | rfl <;> exact absurd h3 (by decide)
/-- how high the pile stands, and what lies on it -/
def hh (f : Nat → Int32) (k : Nat) : Nat := (rpn f k).getD 0
def puts (g : Nat → Int32) (k : Nat) (v : Int32) (i : Nat) : Int32 := if i = k then v else g i
def vl (f : Nat → Int32) (x y z : Int32) : Nat → Nat → Int32
  | 0 => fun _ => 0
  | k + 1 => if -3 ≤ f k then puts (vl f x y z k) (hh f k) (leaf (f k) x y z) else if f k = -33 then puts (vl f x y z k) (hh f k - 1) (notv (vl f x y z k (hh f k - 1))) else puts (vl f x y z k) (hh f k - 2) (bop (f k) (vl f x y z k (hh f k - 2)) (vl f x y z k (hh f k - 1)))
theorem rpn_no {f : Nat → Int32} {n : Nat} (h : rpn f n = none) : rpn f (n + 1) = none := by
  unfold rpn
  rw [h]
  rfl
theorem rpn_st {f : Nat → Int32} {n m q : Nat} (h : rpn f (n + 1) = some m) (hk : rpn f n = some q) : (-3 ≤ f n ∧ m = q + 1) ∨ (¬ -3 ≤ f n ∧ f n = -33 ∧ 1 ≤ q ∧ m = q) ∨ (¬ -3 ≤ f n ∧ f n ≠ -33 ∧ 2 ≤ q ∧ m = q - 1) := by
  unfold rpn at h
  rw [hk] at h
  have h' : (if -3 ≤ f n then some (q + 1) else if f n = -33 then (if 1 ≤ q then some q else none) else (if 2 ≤ q then some (q - 1) else none)) = some m := h
  by_cases c1 : -3 ≤ f n
  · rw [if_pos c1] at h'
    exact Or.inl ⟨c1, (Option.some.inj h').symm⟩
  · rw [if_neg c1] at h'
    by_cases c2 : f n = -33
    · rw [if_pos c2] at h'
      by_cases c3 : 1 ≤ q
      · rw [if_pos c3] at h'
        exact Or.inr (Or.inl ⟨c1, c2, c3, (Option.some.inj h').symm⟩)
      · rw [if_neg c3] at h'
        cases h'
    · rw [if_neg c2] at h'
      by_cases c3 : 2 ≤ q
      · rw [if_pos c3] at h'
        exact Or.inr (Or.inr ⟨c1, c2, c3, (Option.some.inj h').symm⟩)
      · rw [if_neg c3] at h'
        cases h'
theorem rpn_le {f : Nat → Int32} : ∀ k h, rpn f k = some h → h ≤ k
  | 0, h, e => by
    have : some 0 = some h := e
    have := Option.some.inj this
    omega
  | k + 1, h, e => by
    cases q : rpn f k with
    | none => rw [rpn_no q] at e; cases e
    | some w =>
      have := rpn_le k w q
      rcases rpn_st e q with h1 | h1 | h1 <;> omega
theorem rpn_hh {f : Nat → Int32} {n m : Nat} (h : rpn f n = some m) : hh f n = m := by
  unfold hh
  rw [h]
  rfl
theorem rpn_pre {f : Nat → Int32} : ∀ n m, rpn f n = some m → ∀ k, k ≤ n → rpn f k = some (hh f k)
  | n, m, h, k, hk => by
    by_cases e : k = n
    · subst e
      rw [rpn_hh h]
      exact h
    · cases n with
      | zero => omega
      | succ n =>
        cases q : rpn f n with
        | none => rw [rpn_no q] at h; cases h
        | some w => exact rpn_pre n w q k (by omega)
/-- one sign more -/
theorem vst {f : Nat → Int32} {n m k : Nat} (h : rpn f n = some m) (hk : k < n) (x y z : Int32) : hh f k ≤ k ∧ ((-3 ≤ f k ∧ hh f (k + 1) = hh f k + 1 ∧ vl f x y z (k + 1) = puts (vl f x y z k) (hh f k) (leaf (f k) x y z)) ∨ (f k = -33 ∧ ∃ q, hh f k = q + 1 ∧ hh f (k + 1) = q + 1 ∧ vl f x y z (k + 1) = puts (vl f x y z k) q (notv (vl f x y z k q))) ∨ (¬ -3 ≤ f k ∧ f k ≠ -33 ∧ ∃ q, hh f k = q + 2 ∧ hh f (k + 1) = q + 1 ∧ vl f x y z (k + 1) = puts (vl f x y z k) q (bop (f k) (vl f x y z k q) (vl f x y z k (q + 1))))) := by
  have e1 := rpn_pre n m h k (by omega)
  have e2 := rpn_pre n m h (k + 1) (by omega)
  refine ⟨rpn_le _ _ e1, ?_⟩
  have ev : vl f x y z (k + 1) = if -3 ≤ f k then puts (vl f x y z k) (hh f k) (leaf (f k) x y z) else if f k = -33 then puts (vl f x y z k) (hh f k - 1) (notv (vl f x y z k (hh f k - 1))) else puts (vl f x y z k) (hh f k - 2) (bop (f k) (vl f x y z k (hh f k - 2)) (vl f x y z k (hh f k - 1))) := rfl
  rcases rpn_st e2 e1 with ⟨c1, c2⟩ | ⟨c1, c2, c3, c4⟩ | ⟨c1, c2, c3, c4⟩
  · rw [if_pos c1] at ev
    exact Or.inl ⟨c1, c2, ev⟩
  · rw [if_neg c1, if_pos c2] at ev
    obtain ⟨q, hq⟩ : ∃ q, hh f k = q + 1 := ⟨hh f k - 1, by omega⟩
    rw [show hh f k - 1 = q by omega] at ev
    exact Or.inr (Or.inl ⟨c2, q, hq, by omega, ev⟩)
  · rw [if_neg c1, if_neg c2] at ev
    obtain ⟨q, hq⟩ : ∃ q, hh f k = q + 2 := ⟨hh f k - 2, by omega⟩
    rw [show hh f k - 2 = q by omega, show hh f k - 1 = q + 1 by omega] at ev
    exact Or.inr (Or.inr ⟨c1, c2, q, hq, by omega, ev⟩)
/-! the class's machine -/
abbrev kv : Type := Nat → Int32 → Int32 → Int32 → Int32 → Int32 → hS → Option (Int32 × hS)
def TxK (x : hS) (a n : Nat) : Prop := (hK x a = (10, n) ∧ hK x (a + 1) = (4, 4) ∧ hK x (a + 2) = (10, n)) ∧ hR x (a + 1) 2 = some a ∧ hR x (a + 1) 3 = some (a + 2)
theorem c_push {x : hS} {a n i h key : Nat} {i1 i2 i3 : Int32} (T : TxK x a n) (hn : n ≤ 96) (hi : i < n) (hh : h ≤ i) (hc : cok key (hI x a i)) (h3 : -3 ≤ hI x a i) (k : kv) : f_X4_valueFor_b6 k (a + 1) i1 i2 i3 (nI h) (nI i) x = k (a + 1) i1 i2 i3 (nI (h + 1)) (nI (i + 1)) (uI x (a + 2) h (leaf (hI x a i) i1 i2 i3)) := by
  obtain ⟨⟨K0, K1, K2⟩, R2, R3⟩ := T
  unfold f_X4_valueFor_b6 f_X4_valueFor_b64 f_X4_valueFor_b84 f_X4_valueFor_b480
  refine bnd (gR_ok K1 R2) (bnd (aL_ok K0) (ifn (nI_ge hi (by omega)) (bnd (gR_ok K1 R2) (bnd (aI_ok i K0 rfl hi (by omega)) (ifn (Int32.not_lt.mpr h3) (bnd (gR_ok K1 R3) (bnd (aL_ok K2) (ifn (nI_ge (by omega) (by omega)) ?_))))))))
  have fin : ∀ v, ((sI x (a + 2) 10 (nI h) v).bind fun s1 => k (a + 1) i1 i2 i3 (nI h + 1) (nI i + 1) s1) = k (a + 1) i1 i2 i3 (nI (h + 1)) (nI (i + 1)) (uI x (a + 2) h v) := fun v => by
    rw [nI_1, nI_1]
    exact bnd (sI_ok h K2 rfl (by omega) (by omega)) rfl
  rcases cok3 hc h3 with ⟨q, hq, e⟩ | e | ⟨e, -⟩ | ⟨e, -⟩
  · rw [e, leaf_n (by omega)]
    exact ifn (nI_nn (by omega) (by decide)) (ifn (nI_nn (by omega) (by decide)) (bnd (gR_ok K1 R3) (ifn (nI_pos (by omega)) (fin _))))
  · rw [e, leaf_1]
    exact ifp rfl (bnd (gR_ok K1 R3) (ifp (by decide) (fin _)))
  · rw [e, leaf_2]
    exact ifn (by decide) (ifp rfl (bnd (gR_ok K1 R3) (ifp (by decide) (fin _))))
  · rw [e, leaf_3]
    exact ifn (by decide) (ifn (by decide) (bnd (gR_ok K1 R3) (ifp (by decide) (fin _))))
theorem c_not {x : hS} {a n i m : Nat} {i1 i2 i3 : Int32} (T : TxK x a n) (hn : n ≤ 96) (hi : i < n) (hm : m + 1 ≤ i) (e : hI x a i = -33) (k : kv) : f_X4_valueFor_b6 k (a + 1) i1 i2 i3 (nI (m + 1)) (nI i) x = k (a + 1) i1 i2 i3 (nI (m + 1)) (nI (i + 1)) (uI x (a + 2) m (notv (hI x (a + 2) m))) := by
  obtain ⟨⟨K0, K1, K2⟩, R2, R3⟩ := T
  unfold f_X4_valueFor_b6 f_X4_valueFor_b128 f_X4_valueFor_b480
  refine bnd (gR_ok K1 R2) (bnd (aL_ok K0) (ifn (nI_ge hi (by omega)) (bnd (gR_ok K1 R2) (bnd (aI_ok i K0 rfl hi (by omega)) ?_))))
  rw [e]
  refine ifp (by decide) (ifp rfl (ifn (nI_nle (by omega) (by omega)) (bnd (gR_ok K1 R3) (bnd (gR_ok K1 R3) (bnd (aI_ok m K2 (nI_pred m) (by omega) (by omega)) ?_)))))
  have fin : ∀ v, ((sI x (a + 2) 10 (nI (m + 1) - 1) v).bind fun s1 => k (a + 1) i1 i2 i3 (nI (m + 1)) (nI i + 1) s1) = k (a + 1) i1 i2 i3 (nI (m + 1)) (nI (i + 1)) (uI x (a + 2) m v) := fun v => by
    rw [nI_1]
    exact bnd (sI_ok m K2 (nI_pred m) (by omega) (by omega)) rfl
  unfold notv
  by_cases z : hI x (a + 2) m = 0
  · rw [if_pos z, if_pos z]
    exact fin 1
  · rw [if_neg z, if_neg z]
    exact fin 0
theorem c_bin {x : hS} {a n i m : Nat} {i1 i2 i3 : Int32} (T : TxK x a n) (hn : n ≤ 96) (hi : i < n) (hm : m + 2 ≤ i) (h3 : ¬ -3 ≤ hI x a i) (h33 : hI x a i ≠ -33) (h9 : hI x a i ∈ sg9) (k : kv) : f_X4_valueFor_b6 k (a + 1) i1 i2 i3 (nI (m + 2)) (nI i) x = k (a + 1) i1 i2 i3 (nI (m + 1)) (nI (i + 1)) (uI x (a + 2) m (bop (hI x a i) (hI x (a + 2) m) (hI x (a + 2) (m + 1)))) := by
  obtain ⟨⟨K0, K1, K2⟩, R2, R3⟩ := T
  have e1 : nI (m + 2) + (-1) = nI (m + 1) := pk_m1 (m + 1)
  have e2 : nI (m + 2) + (-1) - 1 = nI m := by rw [e1]; exact nI_pred m
  unfold f_X4_valueFor_b6 f_X4_valueFor_b456 f_X4_valueFor_b474 f_X4_valueFor_b479 f_X4_valueFor_b451 f_X4_valueFor_b452 f_X4_valueFor_b353 f_X4_valueFor_b377 f_X4_valueFor_b401 f_X4_valueFor_b425 f_X4_valueFor_b480
  refine bnd (gR_ok K1 R2) (bnd (aL_ok K0) (ifn (nI_ge hi (by omega)) (bnd (gR_ok K1 R2) (bnd (aI_ok i K0 rfl hi (by omega)) (ifp (Int32.not_le.mp h3) (ifn h33 (ifp (nI_le (a := 2) (by omega) (by omega)) (bnd (gR_ok K1 R3) (bnd (aI_ok m K2 e2 (by omega) (by omega)) (bnd (gR_ok K1 R3) (bnd (aI_ok (m + 1) K2 e1 (by omega) (by omega)) ?_)))))))))))
  have fin : ∀ v, ((sI x (a + 2) 10 (nI (m + 2) + (-1) - 1) v).bind fun s1 => k (a + 1) i1 i2 i3 (nI (m + 2) + (-1)) (nI i + 1) s1) = k (a + 1) i1 i2 i3 (nI (m + 1)) (nI (i + 1)) (uI x (a + 2) m v) := fun v => by
    rw [nI_1, e1]
    exact bnd (sI_ok m K2 (nI_pred m) (by omega) (by omega)) rfl
  have g3 : gR x (a + 1) 4 3 = some (a + 2) := gR_ok K1 R3
  unfold nmv
  generalize hI x a i = c at h9
  generalize hI x (a + 2) m = A
  generalize hI x (a + 2) (m + 1) = Z
  rcases sg9_c h9 with rfl | rfl | rfl | rfl | rfl | rfl | rfl | rfl | rfl
  · rw [bop_124]
    refine ifn (by decide) (ifn (by decide) (ifn (by decide) (ifn (by decide) (ifn (by decide) (ifn (by decide) (ifn (by decide) (ifn (by decide) (bnd g3 ?_))))))))
    by_cases z : A = 0
    · rw [if_pos z, if_pos z]
      by_cases z2 : Z = 0
      · rw [if_pos z2, if_pos z2]
        exact fin _
      · rw [if_neg z2, if_neg z2]
        exact fin _
    · rw [if_neg z, if_neg z]
      exact fin _
  · rw [bop_38]
    refine ifp rfl (bnd g3 ?_)
    by_cases z : A = 0
    · rw [if_pos z, if_pos z]
      exact fin _
    · rw [if_neg z, if_neg z]
      by_cases z2 : Z = 0
      · rw [if_pos z2, if_pos z2]
        exact fin _
      · rw [if_neg z2, if_neg z2]
        exact fin _
  · rw [bop_60]
    refine ifn (by decide) (ifn (by decide) (ifn (by decide) (ifn (by decide) (ifn (by decide) (ifp rfl (bnd g3 ?_))))))
    by_cases z : Z ≤ A
    · rw [if_pos z, if_pos z]
      exact fin _
    · rw [if_neg z, if_neg z]
      exact fin _
  · rw [bop_61]
    refine ifn (by decide) (ifn (by decide) (ifn (by decide) (ifn (by decide) (ifn (by decide) (ifn (by decide) (ifp rfl (bnd g3 ?_)))))))
    by_cases z : A = Z
    · rw [if_pos z, if_pos z]
      exact fin _
    · rw [if_neg z, if_neg z]
      exact fin _
  · rw [bop_62]
    refine ifn (by decide) (ifn (by decide) (ifn (by decide) (ifn (by decide) (ifn (by decide) (ifn (by decide) (ifn (by decide) (ifp rfl (bnd g3 ?_))))))))
    by_cases z : A ≤ Z
    · rw [if_pos z, if_pos z]
      exact fin _
    · rw [if_neg z, if_neg z]
      exact fin _
  · rw [bop_43]
    refine ifn (by decide) (ifn (by decide) (ifp rfl (bnd g3 ?_)))
    exact fin _
  · rw [bop_45]
    refine ifn (by decide) (ifn (by decide) (ifn (by decide) (ifp rfl (bnd g3 ?_))))
    exact fin _
  · rw [bop_42]
    refine ifn (by decide) (ifp rfl (bnd g3 ?_))
    exact fin _
  · rw [bop_47]
    refine ifn (by decide) (ifn (by decide) (ifn (by decide) (ifn (by decide) (ifp rfl (bnd g3 ?_)))))
    by_cases z : Z = 0
    · rw [if_pos z, if_pos z]
      exact fin _
    · rw [if_neg z, if_neg z, if_neg z]
      exact fin _
theorem c_val {s : hS} {a : Nat} {x : Nat × Int32 × Nat × (Nat → Int32)} (hc : TxC s a x) (hx : TxOk x) (i1 i2 i3 : Int32) : ∃ s', f_X4_valueFor s (a + 1) i1 i2 i3 = some (vl x.2.2.2 i1 i2 i3 x.2.2.1 0, s') ∧ Sx (fun b => b = a + 2) s s' := by
  obtain ⟨⟨a1, a2, a3⟩, ⟨b1, b2⟩, -, d⟩ := hc
  obtain ⟨-, hn, hck, hr⟩ := hx
  have K : ∀ y, Sx (fun b => b = a + 2) s y → TxK y a x.2.2.1 := fun y hy => ⟨⟨(hy.2.1 _).trans a1, (hy.2.1 _).trans a2, (hy.2.1 _).trans a3⟩, (hy.2.2.1 _ _).trans b1, (hy.2.2.1 _ _).trans b2⟩
  have D : ∀ y, Sx (fun b => b = a + 2) s y → ∀ k, k < x.2.2.1 → hI y a k = x.2.2.2 k := fun y hy k hk => (hy.2.2.2 a (by omega) k).trans (d k hk)
  refine jL_ex (F := f_X4_valueFor_b6) (z := fun _ _ _ _ _ _ _ => none) (fun (k : kv) i (y : hS) => k (a + 1) i1 i2 i3 (nI (hh x.2.2.2 i)) (nI i) y) x.2.2.1 (fun i y => Sx (fun b => b = a + 2) s y ∧ ∀ j, j < hh x.2.2.2 i → hI y (a + 2) j = vl x.2.2.2 i1 i2 i3 i j) (fun r => ∃ s', r = some (vl x.2.2.2 i1 i2 i3 x.2.2.1 0, s') ∧ Sx (fun b => b = a + 2) s s') (fun i hi y hy k => Or.inl ?_) (fun y hy k => ?_) jF 0 s (Nat.zero_le _) (jF_lt (by omega)) ⟨Sx.rf _ s, fun j hj => absurd hj (Nat.not_lt_zero j)⟩
  · obtain ⟨hS1, hv⟩ := hy
    have ec := D y hS1 i hi
    obtain ⟨hle, st⟩ := vst hr hi i1 i2 i3
    have ps : ∀ (q : Nat) (v : Int32) (m : Nat), (∀ j, j < m → j ≠ q → hI y (a + 2) j = vl x.2.2.2 i1 i2 i3 i j) → ∀ j, j < m → hI (uI y (a + 2) q v) (a + 2) j = puts (vl x.2.2.2 i1 i2 i3 i) q v j := fun q v m hm j hj => by
      unfold puts
      by_cases e : j = q
      · rw [if_pos e, e, uI_eq]
      · rw [if_neg e, uI_ne (by omega)]
        exact hm j hj e
    rcases st with ⟨c1, c2, c3⟩ | ⟨c1, q, c2, c3, c4⟩ | ⟨c1, c5, q, c2, c3, c4⟩
    · refine ⟨uI y (a + 2) (hh x.2.2.2 i) (leaf (hI y a i) i1 i2 i3), ⟨hS1.tr (Sx.u _ _ _ _ rfl), ?_⟩, ?_⟩
      · rw [c2, c3, ec]
        exact ps _ _ _ (fun j hj hq => hv j (by omega))
      · rw [c2]
        exact c_push (K y hS1) hn hi hle (by rw [ec]; exact hck i hi) (by rw [ec]; exact c1) k
    · refine ⟨uI y (a + 2) q (notv (hI y (a + 2) q)), ⟨hS1.tr (Sx.u _ _ _ _ rfl), ?_⟩, ?_⟩
      · rw [c3, c4, hv q (by omega)]
        exact ps _ _ _ (fun j hj hq => hv j (by omega))
      · rw [c2, c3]
        exact c_not (K y hS1) hn hi (by omega) (by rw [ec]; exact c1) k
    · refine ⟨uI y (a + 2) q (bop (hI y a i) (hI y (a + 2) q) (hI y (a + 2) (q + 1))), ⟨hS1.tr (Sx.u _ _ _ _ rfl), ?_⟩, ?_⟩
      · rw [c3, c4, hv q (by omega), hv (q + 1) (by omega), ec]
        exact ps _ _ _ (fun j hj hq => hv j (by omega))
      · rw [c2, c3]
        exact c_bin (K y hS1) hn hi (by omega) (by rw [ec]; exact c1) (by rw [ec]; exact c5) (by rw [ec]; exact cok9 (hck i hi) c1 c5) k
  · obtain ⟨hS1, hv⟩ := hy
    have h1 := rpn_hh hr
    have h2 := rpn_le _ _ hr
    obtain ⟨⟨K0, K1, K2⟩, R2, R3⟩ := K y hS1
    refine ⟨y, ?_, hS1⟩
    show f_X4_valueFor_b6 k (a + 1) i1 i2 i3 (nI (hh x.2.2.2 x.2.2.1)) (nI x.2.2.1) y = _
    rw [h1]
    unfold f_X4_valueFor_b6
    refine bnd (gR_ok K1 R2) (bnd (aL_ok K0) (ifp (nI_le (Nat.le_refl _) (by omega)) (ifn (by decide) (bnd (gR_ok K1 R3) (bnd (aI_ok 0 K2 rfl (by omega) (by omega)) ?_)))))
    rw [hv 0 (by omega)]
/-! the reference's machine -/
abbrev kw5 : Type := Nat → Int32 → Int32 → Int32 → Int32 → hS → Option (Int32 × hS)
theorem Lay.k78 {B : Nat} {s : hS} (L : Lay B s) : hK s (B + 78) = (10, 96) := L.k 78 10 96 rfl
theorem Lay.k79 {B : Nat} {s : hS} (L : Lay B s) : hK s (B + 79) = (10, 4) := L.k 79 10 4 rfl
theorem Lay.m22 {B : Nat} {s : hS} (L : Lay B s) : gR s (B + 66) 7 22 = some (B + 78) := L.gm 22 78 96 (by decide)
theorem Lay.m23 {B : Nat} {s : hS} (L : Lay B s) : gR s (B + 66) 7 23 = some (B + 79) := L.gm 23 79 4 (by decide)
def FaOk (x : hS) (B key : Nat) (i1 i2 i3 : Int32) : Prop := hI x (B + 79) 0 = i1 ∧ (key ≠ 1 → hI x (B + 79) 1 = i2) ∧ (key = 0 → hI x (B + 79) 2 = i3) ∧ (key = 1 → hI x (B + 79) 1 = i3)
theorem m_push {B : Nat} {x : hS} {t n i h key : Nat} {c i1 i2 i3 : Int32} (L : Lay B x) (ht : t < 14) (hn : n ≤ 96) (hi : i < n) (hh : h ≤ i) (ec : hI x (B + 67) (132 + 96 * t + i) = cmap key c) (hk3 : key < 3) (hc : cok key c) (h3 : -3 ≤ c) (hF : FaOk x B key i1 i2 i3) (k : kw5) : f_X7_worksOut_b21 k (B + 66) (nI t) (nI h) (nI n) (nI i) x = k (B + 66) (nI t) (nI (h + 1)) (nI n) (nI (i + 1)) (uI x (B + 78) h (leaf c i1 i2 i3)) := by
  unfold f_X7_worksOut_b21 f_X7_worksOut_b79 f_X7_worksOut_b150
  refine ifn (nI_ge hi (by omega)) (bnd L.gn (bnd (L.an (132 + 96 * t + i) (ixe 132 96 t i rfl) (by omega)) ?_))
  rw [ec]
  have fin : ∀ v, ((sI x (B + 78) 10 (nI h) v).bind fun s1 => k (B + 66) (nI t) (nI h + 1) (nI n) (nI i + 1) s1) = k (B + 66) (nI t) (nI (h + 1)) (nI n) (nI (i + 1)) (uI x (B + 78) h v) := fun v => by
    rw [nI_1, nI_1]
    exact bnd (sI_ok h L.k78 rfl (by omega) (by omega)) rfl
  rcases cok3 hc h3 with ⟨q, hq, rfl⟩ | rfl | ⟨rfl, e⟩ | ⟨rfl, e⟩
  · rw [leaf_n (by omega), cmap_n (by omega)]
    exact ifn (nI_pos (by omega)) (bnd L.m22 (ifn (nI_ge (b := 10000) (by omega) (by omega)) (fin _)))
  · rw [leaf_1, cmap_1]
    refine ifn (by decide) (bnd L.m22 (ifp (by decide) (bnd L.m23 (bnd (aI_ok 0 L.k79 (by decide) (by omega) (by omega)) ?_))))
    rw [hF.1]
    exact fin _
  · rw [leaf_2, cmap_2]
    refine ifn (by decide) (bnd L.m22 (ifp (by decide) (bnd L.m23 (bnd (aI_ok 1 L.k79 (by decide) (by omega) (by omega)) ?_))))
    rw [hF.2.1 e]
    exact fin _
  · rw [leaf_3, cmap_3]
    by_cases k0 : key = 0
    · rw [if_pos k0]
      refine ifn (by decide) (bnd L.m22 (ifp (by decide) (bnd L.m23 (bnd (aI_ok 2 L.k79 (by decide) (by omega) (by omega)) ?_))))
      rw [hF.2.2.1 k0]
      exact fin _
    · rw [if_neg k0]
      refine ifn (by decide) (bnd L.m22 (ifp (by decide) (bnd L.m23 (bnd (aI_ok 1 L.k79 (by decide) (by omega) (by omega)) ?_))))
      rw [hF.2.2.2 (by omega)]
      exact fin _
theorem m_not {B : Nat} {x : hS} {t n i m key : Nat} (L : Lay B x) (ht : t < 14) (hn : n ≤ 96) (hi : i < n) (hm : m + 1 ≤ i) (ec : hI x (B + 67) (132 + 96 * t + i) = cmap key (-33)) (k : kw5) : f_X7_worksOut_b21 k (B + 66) (nI t) (nI (m + 1)) (nI n) (nI i) x = k (B + 66) (nI t) (nI (m + 1)) (nI n) (nI (i + 1)) (uI x (B + 78) m (notv (hI x (B + 78) m))) := by
  unfold f_X7_worksOut_b21 f_X7_worksOut_b116 f_X7_worksOut_b150
  refine ifn (nI_ge hi (by omega)) (bnd L.gn (bnd (L.an (132 + 96 * t + i) (ixe 132 96 t i rfl) (by omega)) ?_))
  rw [ec, cmap_33]
  refine ifp (by decide) (ifp rfl (bnd L.m22 (bnd L.m22 (bnd (aI_ok m L.k78 (nI_pred m) (by omega) (by omega)) ?_))))
  have fin : ∀ v, ((sI x (B + 78) 10 (nI (m + 1) - 1) v).bind fun s1 => k (B + 66) (nI t) (nI (m + 1)) (nI n) (nI i + 1) s1) = k (B + 66) (nI t) (nI (m + 1)) (nI n) (nI (i + 1)) (uI x (B + 78) m v) := fun v => by
    rw [nI_1]
    exact bnd (sI_ok m L.k78 (nI_pred m) (by omega) (by omega)) rfl
  unfold notv
  by_cases z : hI x (B + 78) m = 0
  · rw [if_pos z, if_pos z]
    exact fin 1
  · rw [if_neg z, if_neg z]
    exact fin 0
theorem two_ok (s : hS) {c : Int32} (h : c ∈ sg9) (key : Nat) (A Z : Int32) : f_X7_two s (cmap key c) A Z = some (bop c A Z, s) ∧ cmap key c < 0 ∧ ¬ cmap key c = -10 := by
  rcases sg9_c h with rfl | rfl | rfl | rfl | rfl | rfl | rfl | rfl | rfl
  · rw [cmap_124, bop_124]
    refine ⟨?_, by decide, by decide⟩
    unfold f_X7_two f_X7_two_b56
    refine ifn (by decide) (ifn (by decide) (ifn (by decide) (ifn (by decide) (ifn (by decide) (ifn (by decide) (ifn (by decide) (ifp rfl (?_))))))))
    by_cases z : A = 0
    · rw [if_pos z, if_pos z]
      by_cases z2 : Z = 0
      · rw [if_pos z2, if_pos z2]
      · rw [if_neg z2, if_neg z2]
    · rw [if_neg z, if_neg z]
  · rw [cmap_38, bop_38]
    refine ⟨?_, by decide, by decide⟩
    unfold f_X7_two
    refine ifn (by decide) (ifn (by decide) (ifn (by decide) (ifn (by decide) (ifn (by decide) (ifn (by decide) (ifp rfl (?_)))))))
    by_cases z : A = 0
    · rw [if_pos z, if_pos z]
    · rw [if_neg z, if_neg z]
      by_cases z2 : Z = 0
      · rw [if_pos z2, if_pos z2]
      · rw [if_neg z2, if_neg z2]
  · rw [cmap_60, bop_60]
    refine ⟨?_, by decide, by decide⟩
    unfold f_X7_two
    refine ifn (by decide) (ifn (by decide) (ifn (by decide) (ifn (by decide) (ifn (by decide) (ifp rfl (?_))))))
    by_cases z : Z ≤ A
    · rw [if_pos z, if_pos z]
    · rw [if_neg z, if_neg z]
  · rw [cmap_61, bop_61]
    refine ⟨?_, by decide, by decide⟩
    unfold f_X7_two
    refine ifn (by decide) (ifn (by decide) (ifn (by decide) (ifn (by decide) (ifp rfl (?_)))))
    by_cases z : A = Z
    · rw [if_pos z, if_pos z]
    · rw [if_neg z, if_neg z]
  · rw [cmap_62, bop_62]
    refine ⟨?_, by decide, by decide⟩
    unfold f_X7_two
    refine ifn (by decide) (ifn (by decide) (ifn (by decide) (ifp rfl (?_))))
    by_cases z : A ≤ Z
    · rw [if_pos z, if_pos z]
    · rw [if_neg z, if_neg z]
  · rw [cmap_43, bop_43]
    refine ⟨?_, by decide, by decide⟩
    unfold f_X7_two
    exact ifn (by decide) (ifn (by decide) (ifp rfl (rfl)))
  · rw [cmap_45, bop_45]
    refine ⟨?_, by decide, by decide⟩
    unfold f_X7_two
    exact ifn (by decide) (ifp rfl (rfl))
  · rw [cmap_42, bop_42]
    refine ⟨?_, by decide, by decide⟩
    unfold f_X7_two
    exact ifp rfl (rfl)
  · rw [cmap_47, bop_47]
    refine ⟨?_, by decide, by decide⟩
    unfold f_X7_two
    refine ifn (by decide) (ifn (by decide) (ifn (by decide) (ifn (by decide) (ifn (by decide) (ifn (by decide) (ifn (by decide) (ifn (by decide) (?_))))))))
    by_cases z : Z = 0
    · rw [if_pos z, if_pos z]
    · rw [if_neg z, if_neg z, if_neg z]
theorem m_bin {B : Nat} {x : hS} {t n i m key : Nat} {c : Int32} (L : Lay B x) (ht : t < 14) (hn : n ≤ 96) (hi : i < n) (hm : m + 2 ≤ i) (ec : hI x (B + 67) (132 + 96 * t + i) = cmap key c) (h9 : c ∈ sg9) (k : kw5) : f_X7_worksOut_b21 k (B + 66) (nI t) (nI (m + 2)) (nI n) (nI i) x = k (B + 66) (nI t) (nI (m + 1)) (nI n) (nI (i + 1)) (uI x (B + 78) m (bop c (hI x (B + 78) m) (hI x (B + 78) (m + 1)))) := by
  have e1 : nI (m + 2) + (-1) = nI (m + 1) := pk_m1 (m + 1)
  have e2 : nI (m + 2) + (-1) - 1 = nI m := by rw [e1]; exact nI_pred m
  obtain ⟨t1, t2, t3⟩ := two_ok x h9 key (hI x (B + 78) m) (hI x (B + 78) (m + 1))
  unfold f_X7_worksOut_b21 f_X7_worksOut_b150
  refine ifn (nI_ge hi (by omega)) (bnd L.gn (bnd (L.an (132 + 96 * t + i) (ixe 132 96 t i rfl) (by omega)) ?_))
  rw [ec]
  refine ifp t2 (ifn t3 (bnd L.m22 (bnd L.m22 (bnd (aI_ok m L.k78 e2 (by omega) (by omega)) (bnd L.m22 (bnd (aI_ok (m + 1) L.k78 e1 (by omega) (by omega)) (bnd t1 (bnd (sI_ok m L.k78 e2 (by omega) (by omega)) ?_))))))))
  rw [nI_1, e1]
theorem m_val {B : Nat} {s : hS} {τ : Tw} (L : Lay B s) (hM : TwM (hI s (B + 67)) τ) (hok : TwOk τ) {t : Nat} (ht : t < tX τ) {i1 i2 i3 : Int32} (hF : FaOk s B (τ.2.2 t).1 i1 i2 i3) : ∃ s', f_X7_worksOut s (B + 66) (nI t) = some (vl (τ.2.2 t).2.2.2 i1 i2 i3 (τ.2.2 t).2.2.1 0, s') ∧ Sx (fun b => b = B + 78) s s' := by
  have t14 := hok.1.2.2.2.2.1
  have m6 := hM.2.2.2.2.2 t ht
  obtain ⟨hk3, hn, hck, hr⟩ := hok.2.2.2.2.2 t ht
  generalize τ.2.2 t = x at hF m6 hk3 hn hck hr
  have D : ∀ y, Sx (fun b => b = B + 78) s y → ∀ k, k < x.2.2.1 → hI y (B + 67) (132 + 96 * t + k) = cmap x.1 (x.2.2.2 k) := fun y hy k hk => (hy.2.2.2 _ (by omega) _).trans (m6.2.2 k hk)
  have Fa : ∀ y, Sx (fun b => b = B + 78) s y → FaOk y B x.1 i1 i2 i3 := fun y hy => ⟨(hy.2.2.2 _ (by omega) _).trans hF.1, fun e => (hy.2.2.2 _ (by omega) _).trans (hF.2.1 e), fun e => (hy.2.2.2 _ (by omega) _).trans (hF.2.2.1 e), fun e => (hy.2.2.2 _ (by omega) _).trans (hF.2.2.2 e)⟩
  have lp : ∃ s', jL f_X7_worksOut_b21 (fun _ _ _ _ _ _ => none) jF (B + 66) (nI t) 0 (nI x.2.2.1) 0 s = some (vl x.2.2.2 i1 i2 i3 x.2.2.1 0, s') ∧ Sx (fun b => b = B + 78) s s' := by
    refine jL_ex (F := f_X7_worksOut_b21) (z := fun _ _ _ _ _ _ => none) (fun (k : kw5) i (y : hS) => k (B + 66) (nI t) (nI (hh x.2.2.2 i)) (nI x.2.2.1) (nI i) y) x.2.2.1 (fun i y => Sx (fun b => b = B + 78) s y ∧ ∀ j, j < hh x.2.2.2 i → hI y (B + 78) j = vl x.2.2.2 i1 i2 i3 i j) (fun r => ∃ s', r = some (vl x.2.2.2 i1 i2 i3 x.2.2.1 0, s') ∧ Sx (fun b => b = B + 78) s s') (fun i hi y hy k => Or.inl ?_) (fun y hy k => ?_) jF 0 s (Nat.zero_le _) (jF_lt (by omega)) ⟨Sx.rf _ s, fun j hj => absurd hj (Nat.not_lt_zero j)⟩
    · obtain ⟨hS1, hv⟩ := hy
      have ec := D y hS1 i hi
      have Ly := L.sx hS1
      obtain ⟨hle, st⟩ := vst hr hi i1 i2 i3
      have ps : ∀ (q : Nat) (v : Int32) (m : Nat), (∀ j, j < m → j ≠ q → hI y (B + 78) j = vl x.2.2.2 i1 i2 i3 i j) → ∀ j, j < m → hI (uI y (B + 78) q v) (B + 78) j = puts (vl x.2.2.2 i1 i2 i3 i) q v j := fun q v m hm j hj => by
        unfold puts
        by_cases e : j = q
        · rw [if_pos e, e, uI_eq]
        · rw [if_neg e, uI_ne (by omega)]
          exact hm j hj e
      rcases st with ⟨c1, c2, c3⟩ | ⟨c1, q, c2, c3, c4⟩ | ⟨c1, c5, q, c2, c3, c4⟩
      · refine ⟨uI y (B + 78) (hh x.2.2.2 i) (leaf (x.2.2.2 i) i1 i2 i3), ⟨hS1.tr (Sx.u _ _ _ _ rfl), ?_⟩, ?_⟩
        · rw [c2, c3]
          exact ps _ _ _ (fun j hj hq => hv j (by omega))
        · rw [c2]
          exact m_push Ly (by omega) hn hi hle ec hk3 (hck i hi) c1 (Fa y hS1) k
      · refine ⟨uI y (B + 78) q (notv (hI y (B + 78) q)), ⟨hS1.tr (Sx.u _ _ _ _ rfl), ?_⟩, ?_⟩
        · rw [c3, c4, hv q (by omega)]
          exact ps _ _ _ (fun j hj hq => hv j (by omega))
        · rw [c2, c3]
          exact m_not Ly (by omega) hn hi (by omega) (by rw [← c1]; exact ec) k
      · refine ⟨uI y (B + 78) q (bop (x.2.2.2 i) (hI y (B + 78) q) (hI y (B + 78) (q + 1))), ⟨hS1.tr (Sx.u _ _ _ _ rfl), ?_⟩, ?_⟩
        · rw [c3, c4, hv q (by omega), hv (q + 1) (by omega)]
          exact ps _ _ _ (fun j hj hq => hv j (by omega))
        · rw [c2, c3]
          exact m_bin Ly (by omega) hn hi (by omega) ec (cok9 (hck i hi) c1 c5) k
    · obtain ⟨hS1, hv⟩ := hy
      have Ly := L.sx hS1
      have h1 := rpn_hh hr
      refine ⟨y, ?_, hS1⟩
      show f_X7_worksOut_b21 k (B + 66) (nI t) (nI (hh x.2.2.2 x.2.2.1)) (nI x.2.2.1) (nI x.2.2.1) y = _
      rw [h1]
      unfold f_X7_worksOut_b21
      refine ifp (nI_le (Nat.le_refl _) (by omega)) (bnd Ly.m22 (bnd (aI_ok 0 Ly.k78 rfl (by omega) (by omega)) ?_))
      rw [hv 0 (by omega)]
  obtain ⟨s', e1, e2⟩ := lp
  refine ⟨s', ?_, e2⟩
  unfold f_X7_worksOut
  refine bnd L.gn (bnd (L.an (104 + 2 * t) (ixm 104 2 t) (by omega)) (ifn (by decide) ?_))
  rw [m6.1]
  have er : nI (1000 * x.1 + x.2.2.1) - nI (1000 * x.1 + x.2.2.1) / (1000 : Int32) * (1000 : Int32) = nI x.2.2.1 := by
    rw [show (1000 : Int32) = nI 1000 from rfl, pk_rem (by omega) (by decide) (by decide), show (1000 * x.1 + x.2.2.1) % 1000 = x.2.2.1 by omega]
  unfold nmv
  rw [er]
  exact e1
