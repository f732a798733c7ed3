/-! the best of some -/
def btr (v : Nat → Nat) (g : Bool) (n : Nat) : Option Nat → Bool
  | none => true
  | some m => if g then decide (v m < v n) else decide (v n < v m)
def bb (S : Nat → Bool) (v : Nat → Nat) (g : Bool) (lim : Nat) : Nat → Option Nat
  | 0 => none
  | n + 1 => if (S n && decide (v n ≤ lim) && btr v g n (bb S v g lim n)) = true then some n else bb S v g lim n
def bv (v : Nat → Nat) : Option Nat → Int32
  | none => 0
  | some m => nI (v m)
theorem bb_t {S : Nat → Bool} {v : Nat → Nat} {g : Bool} {lim n : Nat} (h1 : S n = true) (h2 : v n ≤ lim) (h3 : btr v g n (bb S v g lim n) = true) : bb S v g lim (n + 1) = some n := by
  unfold bb
  rw [h1, decide_eq_true h2, h3]
  rfl
theorem bb_f1 {S : Nat → Bool} {v : Nat → Nat} {g : Bool} {lim n : Nat} (h1 : S n = false) : bb S v g lim (n + 1) = bb S v g lim n := by
  conv => lhs; unfold bb
  rw [h1]
  rfl
theorem bb_f2 {S : Nat → Bool} {v : Nat → Nat} {g : Bool} {lim n : Nat} (h1 : lim < v n) : bb S v g lim (n + 1) = bb S v g lim n := by
  conv => lhs; unfold bb
  rw [decide_eq_false (by omega : ¬ v n ≤ lim), Bool.and_false]
  rfl
theorem bb_f3 {S : Nat → Bool} {v : Nat → Nat} {g : Bool} {lim n : Nat} (h1 : btr v g n (bb S v g lim n) = false) : bb S v g lim (n + 1) = bb S v g lim n := by
  conv => lhs; unfold bb
  rw [h1, Bool.and_false]
  rfl
theorem bb_lt {S : Nat → Bool} {v : Nat → Nat} {g : Bool} {lim m : Nat} : ∀ n, bb S v g lim n = some m → m < n ∧ S m = true
  | 0, h => by cases h
  | n + 1, h => by
    by_cases c : (S n && decide (v n ≤ lim) && btr v g n (bb S v g lim n)) = true
    · have e : bb S v g lim (n + 1) = some n := if_pos c
      rw [e] at h
      have := Option.some.inj h
      subst this
      rw [Bool.and_eq_true, Bool.and_eq_true] at c
      exact ⟨by omega, c.1.1⟩
    · have e : bb S v g lim (n + 1) = bb S v g lim n := if_neg c
      rw [e] at h
      have := bb_lt n h
      exact ⟨by omega, this.2⟩
theorem bb_congr {S S' : Nat → Bool} {v : Nat → Nat} {g : Bool} {lim : Nat} : ∀ n, (∀ i, i < n → S i = S' i) → bb S v g lim n = bb S' v g lim n
  | 0, _ => rfl
  | n + 1, h => by
    have ih := bb_congr (v := v) (g := g) (lim := lim) n (fun i hi => h i (by omega))
    show (if (S n && decide (v n ≤ lim) && btr v g n (bb S v g lim n)) = true then some n else bb S v g lim n) = (if (S' n && decide (v n ≤ lim) && btr v g n (bb S' v g lim n)) = true then some n else bb S' v g lim n)
    rw [ih, h n (by omega)]
theorem ltI_m {m : Nat} (hm : m < 2 ^ 31) : ¬ ltI (some m) = -1 ∧ ¬ ltI (some m) < 0 ∧ 0 ≤ ltI (some m) := ⟨nI_nn hm (by decide), nI_pos hm, nI_pos' hm⟩
abbrev kp7 : Type := Nat → Int32 → Int32 → Int32 → Int32 → Int32 → Int32 → Int32 → hS → Option (Int32 × hS)
abbrev kp8 : Type := Nat → Int32 → Int32 → Int32 → Int32 → Int32 → Int32 → Int32 → Int32 → hS → Option (Int32 × hS)
theorem p70 {S : Nat → Bool} {v : Nat → Nat} {g : Bool} {lim i T : Nat} {l1 l2 l3 t0 : Int32} {y : hS} (k : kp7) (h1 : S i = true) (hi : i < 2 ^ 30) (hl : lim < 2 ^ 31) (hv : v i < 2 ^ 31) (ht : ∀ m, bb S v g lim i = some m → t0 = bI (btr v g i (bb S v g lim i))) : f_X5_pick_b70 k T l1 l2 l3 (nI lim) (ltI (bb S v g lim i)) (bv v (bb S v g lim i)) (nI i) (nI (v i)) t0 y = k T l1 l2 l3 (nI lim) (ltI (bb S v g lim (i + 1))) (bv v (bb S v g lim (i + 1))) (nI (i + 1)) y := by
  unfold f_X5_pick_b70 f_X5_pick_b90 f_X5_pick_b98
  by_cases c : lim < v i
  · refine ifp (nI_lt c hv) ?_
    rw [bb_f2 c, nI_1]
  · refine ifn (nI_nlt (by omega) hl) ?_
    cases e : bb S v g lim i with
    | none =>
      rw [bb_t h1 (by omega) (by rw [e]; rfl)]
      refine ifp rfl ?_
      rw [nI_1]
      rfl
    | some m =>
      have hm := (bb_lt _ e).1
      refine ifn (ltI_m (by omega)).1 ?_
      have ht' := ht m e
      cases q : btr v g i (bb S v g lim i)
      · rw [q] at ht'
        refine ifp ht' ?_
        rw [bb_f3 q, e, nI_1]
      · rw [q] at ht'
        refine ifn (by rw [ht']; exact one_ne) ?_
        rw [bb_t h1 (by omega) q, nI_1]
        rfl
theorem c_pick {B nt T : Nat} {s : hS} {τ : Tw} (h : CT B nt T s τ) {set p lim : Nat} (g : Bool) (hset : set < 65536) (hp : p < tP τ) (hl : lim < 2 ^ 31) : ∃ s', f_X5_pick s T (nI set) (nI p) (bI g) (nI lim) = some (ltI (bb (fun f => set.testBit f) (fun f => prc τ f p) g lim (tF τ)), s') ∧ Sx (PX B) s s' := by
  have hok := h.2.2.1
  have b1 := hok.1.1
  refine jL_ex (F := f_X5_pick_b9) (z := fun _ _ _ _ _ _ _ _ _ => none) (fun (k : kp7) i (y : hS) => k T (nI set) (nI p) (bI g) (nI lim) (ltI (bb (fun f => set.testBit f) (fun f => prc τ f p) g lim i)) (bv (fun f => prc τ f p) (bb (fun f => set.testBit f) (fun f => prc τ f p) g lim i)) (nI i) y) (tF τ) (fun i y => Sx (PX B) s y) (fun r => ∃ s', r = some (ltI (bb (fun f => set.testBit f) (fun f => prc τ f p) g lim (tF τ)), s') ∧ Sx (PX B) s s') (fun i hi y hy k => Or.inl ?_) (fun y hy k => ?_) jF 0 s (Nat.zero_le _) (jF_lt (by omega)) (Sx.rf _ s)
  · have hy' := h.px hy
    show ∃ x', Sx (PX B) s x' ∧ f_X5_pick_b9 k T (nI set) (nI p) (bI g) (nI lim) (ltI (bb (fun f => set.testBit f) (fun f => prc τ f p) g lim i)) (bv (fun f => prc τ f p) (bb (fun f => set.testBit f) (fun f => prc τ f p) g lim i)) (nI i) y = _
    cases hb : set.testBit i
    · refine ⟨y, hy, ?_⟩
      unfold f_X5_pick_b9 f_X5_pick_b98
      refine bnd (gI_ok hy'.1.1) ?_
      rw [hy'.2.1.1.1.1]
      refine ifn (nI_ge hi (by omega)) ?_
      rw [bi_bit (by omega) (by omega), hb]
      refine ifp rfl ?_
      rw [nI_1]
      show _ = k T (nI set) (nI p) (bI g) (nI lim) (ltI (bb (fun f => set.testBit f) (fun f => prc τ f p) g lim (i + 1))) (bv (fun f => prc τ f p) (bb (fun f => set.testBit f) (fun f => prc τ f p) g lim (i + 1))) (nI (i + 1)) y
      rw [bb_f1 (S := fun f => set.testBit f) hb]
    · obtain ⟨y', k1, x1⟩ := c_prc hy' hi hp
      refine ⟨y', hy.tr x1, ?_⟩
      have pl := prc_le τ i p
      unfold f_X5_pick_b9
      refine bnd (gI_ok hy'.1.1) ?_
      rw [hy'.2.1.1.1.1]
      refine ifn (nI_ge hi (by omega)) ?_
      rw [bi_bit (by omega) (by omega), hb]
      refine ifn one_ne (bnd ((cV_ok hy'.1.1).trans k1) ?_)
      have fin := fun t0 => p70 (S := fun f => set.testBit f) (v := fun f => prc τ f p) (g := g) (lim := lim) (i := i) (T := T) (l1 := nI set) (l2 := nI p) (l3 := bI g) (t0 := t0) (y := y') k hb (by omega) hl (by show prc τ i p < 2 ^ 31; omega)
      cases g
      · refine ifp rfl ?_
        cases e : bb (fun f => set.testBit f) (fun f => prc τ f p) false lim i with
        | none =>
          rw [e] at fin
          exact ifp (nI_pos' (by omega)) (fin 0 (fun m hm => by cases hm))
        | some m =>
          rw [e] at fin
          have pm := prc_le τ m p
          by_cases c : prc τ m p ≤ prc τ i p
          · refine ifp (nI_le (a := prc τ m p) (b := prc τ i p) c (by omega)) (fin 0 (fun m' hm => ?_))
            show (0 : Int32) = bI (decide (prc τ i p < prc τ m p))
            rw [decide_eq_false (by omega)]
            rfl
          · refine ifn (nI_ge (a := prc τ i p) (b := prc τ m p) (by omega) (by omega)) (fin 1 (fun m' hm => ?_))
            show (1 : Int32) = bI (decide (prc τ i p < prc τ m p))
            rw [decide_eq_true (by omega)]
            rfl
      · refine ifn one_ne ?_
        cases e : bb (fun f => set.testBit f) (fun f => prc τ f p) true lim i with
        | none =>
          rw [e] at fin
          by_cases c : nI (prc τ i p) ≤ bv (fun f => prc τ f p) none
          · exact ifp c (fin 0 (fun m hm => by cases hm))
          · exact ifn c (fin 1 (fun m hm => by cases hm))
        | some m =>
          rw [e] at fin
          have pm := prc_le τ m p
          by_cases c : prc τ i p ≤ prc τ m p
          · refine ifp (nI_le (a := prc τ i p) (b := prc τ m p) c (by omega)) (fin 0 (fun m' hm => ?_))
            show (0 : Int32) = bI (decide (prc τ m p < prc τ i p))
            rw [decide_eq_false (by omega)]
            rfl
          · refine ifn (nI_ge (a := prc τ m p) (b := prc τ i p) (by omega) (by omega)) (fin 1 (fun m' hm => ?_))
            show (1 : Int32) = bI (decide (prc τ m p < prc τ i p))
            rw [decide_eq_true (by omega)]
            rfl
  · have hy' := h.px hy
    refine ⟨y, ?_, hy⟩
    show f_X5_pick_b9 k T _ _ _ _ _ _ (nI (tF τ)) y = _
    unfold f_X5_pick_b9
    refine bnd (gI_ok hy'.1.1) ?_
    rw [hy'.2.1.1.1.1]
    exact ifp (nI_le (Nat.le_refl _) (by omega)) rfl
/-- whom a fact can go to: fresh, known by one, not by the other -/
def cS (τ : Tw) (a b f : Nat) : Bool := pfr τ f && pkn τ f a && !pkn τ f b
theorem b90 {S : Nat → Bool} {v : Nat → Nat} {g : Bool} {lim i A : Nat} {l1 l2 l3 l4 t0 : Int32} {y : hS} (k : kp8) (h1 : S i = true) (hi : i < 2 ^ 30) (hl : lim < 2 ^ 31) (hv : v i < 2 ^ 31) (ht : t0 = bI (btr v g i (bb S v g lim i))) : f_X7_best_b90 k A l1 l2 l3 l4 (nI lim) (ltI (bb S v g lim i)) (bv v (bb S v g lim i)) (nI i) (nI (v i)) t0 y = k A l1 l2 l3 l4 (nI lim) (ltI (bb S v g lim (i + 1))) (bv v (bb S v g lim (i + 1))) (nI (i + 1)) y := by
  unfold f_X7_best_b90 f_X7_best_b109 f_X7_best_b111 f_X7_best_b127 f_X7_best_b129
  have ne : ¬ ltI (bb S v g lim i) = nI i := by
    cases e : bb S v g lim i with
    | none => exact fun q => nI_nn (m := -1) (by omega) (by decide) q.symm
    | some m =>
      have hm := (bb_lt _ e).1
      exact fun q => by
        have := (nI_eq (by omega) (by omega)).mp (show nI m = nI i from q)
        omega
  by_cases c : lim < v i
  · refine ifp (nI_lt c hv) (ifn ne ?_)
    rw [bb_f2 c, nI_1]
  · refine ifn (nI_nlt (by omega) hl) ?_
    cases q : btr v g i (bb S v g lim i)
    · rw [q] at ht
      refine ifp ht (ifn ne ?_)
      rw [bb_f3 q, nI_1]
    · rw [q] at ht
      refine ifn (by rw [ht]; exact one_ne) (ifp rfl ?_)
      rw [bb_t h1 (by omega) q, nI_1]
      rfl
theorem m_best {B : Nat} {s : hS} {τ : Tw} (h : MT B s τ) {a b p lim : Nat} (g : Bool) (ha : a < tP τ) (hb : b < tP τ) (hp : p < tP τ) (hl : lim < 2 ^ 31) : ∃ s', f_X7_best s (B + 66) (nI a) (nI b) (nI p) (bI g) (nI lim) = some (ltI (bb (cS τ a b) (fun f => prc τ f p) g lim (tF τ)), s') ∧ Sx (WX B) s s' := by
  have hok := h.2.2
  have b1 := hok.1.1
  refine jL_ex (F := f_X7_best_b9) (z := fun _ _ _ _ _ _ _ _ _ _ => none) (fun (k : kp8) i (y : hS) => k (B + 66) (nI a) (nI b) (nI p) (bI g) (nI lim) (ltI (bb (cS τ a b) (fun f => prc τ f p) g lim i)) (bv (fun f => prc τ f p) (bb (cS τ a b) (fun f => prc τ f p) g lim i)) (nI i) y) (tF τ) (fun i y => Sx (WX B) s y) (fun r => ∃ s', r = some (ltI (bb (cS τ a b) (fun f => prc τ f p) g lim (tF τ)), s') ∧ Sx (WX B) s s') (fun i hi y hy k => Or.inl ?_) (fun y hy k => ?_) jF 0 s (Nat.zero_le _) (jF_lt (by omega)) (Sx.rf _ s)
  · have hy' := h.wx hy
    show ∃ x', Sx (WX B) s x' ∧ f_X7_best_b9 k (B + 66) (nI a) (nI b) (nI p) (bI g) (nI lim) (ltI (bb (cS τ a b) (fun f => prc τ f p) g lim i)) (bv (fun f => prc τ f p) (bb (cS τ a b) (fun f => prc τ f p) g lim i)) (nI i) y = _
    have skip : cS τ a b i = false → f_X7_best_b129 k (B + 66) (nI a) (nI b) (nI p) (bI g) (nI lim) (ltI (bb (cS τ a b) (fun f => prc τ f p) g lim i)) (bv (fun f => prc τ f p) (bb (cS τ a b) (fun f => prc τ f p) g lim i)) (nI i) y = k (B + 66) (nI a) (nI b) (nI p) (bI g) (nI lim) (ltI (bb (cS τ a b) (fun f => prc τ f p) g lim (i + 1))) (bv (fun f => prc τ f p) (bb (cS τ a b) (fun f => prc τ f p) g lim (i + 1))) (nI (i + 1)) y := by
      intro q
      unfold f_X7_best_b129
      rw [bb_f1 q, nI_1]
    have pre : ∀ r, (if bI (pfr τ i) = 0 then f_X7_best_b129 k (B + 66) (nI a) (nI b) (nI p) (bI g) (nI lim) (ltI (bb (cS τ a b) (fun f => prc τ f p) g lim i)) (bv (fun f => prc τ f p) (bb (cS τ a b) (fun f => prc τ f p) g lim i)) (nI i) y else (cV y (B + 66) 7 (f_X7_doesKnow y (B + 66) (nI a) (nI i))).bind fun p4 => if p4.1 = 0 then f_X7_best_b129 k (B + 66) (nI a) (nI b) (nI p) (bI g) (nI lim) (ltI (bb (cS τ a b) (fun f => prc τ f p) g lim i)) (bv (fun f => prc τ f p) (bb (cS τ a b) (fun f => prc τ f p) g lim i)) (nI i) p4.2 else (cV p4.2 (B + 66) 7 (f_X7_doesKnow p4.2 (B + 66) (nI b) (nI i))).bind fun p5 => if p5.1 = 0 then (cV p5.2 (B + 66) 7 (f_X7_priceOf p5.2 (B + 66) (nI i) (nI p))).bind fun p6 => if ltI (bb (cS τ a b) (fun f => prc τ f p) g lim i) < 0 then f_X7_best_b85 k (B + 66) (nI a) (nI b) (nI p) (bI g) (nI lim) (ltI (bb (cS τ a b) (fun f => prc τ f p) g lim i)) (bv (fun f => prc τ f p) (bb (cS τ a b) (fun f => prc τ f p) g lim i)) (nI i) p6.1 p6.2 else if bI g = 0 then if bv (fun f => prc τ f p) (bb (cS τ a b) (fun f => prc τ f p) g lim i) ≤ p6.1 then f_X7_best_b89 k (B + 66) (nI a) (nI b) (nI p) (bI g) (nI lim) (ltI (bb (cS τ a b) (fun f => prc τ f p) g lim i)) (bv (fun f => prc τ f p) (bb (cS τ a b) (fun f => prc τ f p) g lim i)) (nI i) p6.1 p6.2 else f_X7_best_b85 k (B + 66) (nI a) (nI b) (nI p) (bI g) (nI lim) (ltI (bb (cS τ a b) (fun f => prc τ f p) g lim i)) (bv (fun f => prc τ f p) (bb (cS τ a b) (fun f => prc τ f p) g lim i)) (nI i) p6.1 p6.2 else if p6.1 ≤ bv (fun f => prc τ f p) (bb (cS τ a b) (fun f => prc τ f p) g lim i) then f_X7_best_b89 k (B + 66) (nI a) (nI b) (nI p) (bI g) (nI lim) (ltI (bb (cS τ a b) (fun f => prc τ f p) g lim i)) (bv (fun f => prc τ f p) (bb (cS τ a b) (fun f => prc τ f p) g lim i)) (nI i) p6.1 p6.2 else f_X7_best_b85 k (B + 66) (nI a) (nI b) (nI p) (bI g) (nI lim) (ltI (bb (cS τ a b) (fun f => prc τ f p) g lim i)) (bv (fun f => prc τ f p) (bb (cS τ a b) (fun f => prc τ f p) g lim i)) (nI i) p6.1 p6.2 else f_X7_best_b129 k (B + 66) (nI a) (nI b) (nI p) (bI g) (nI lim) (ltI (bb (cS τ a b) (fun f => prc τ f p) g lim i)) (bv (fun f => prc τ f p) (bb (cS τ a b) (fun f => prc τ f p) g lim i)) (nI i) p5.2) = r → f_X7_best_b9 k (B + 66) (nI a) (nI b) (nI p) (bI g) (nI lim) (ltI (bb (cS τ a b) (fun f => prc τ f p) g lim i)) (bv (fun f => prc τ f p) (bb (cS τ a b) (fun f => prc τ f p) g lim i)) (nI i) y = r := by
      intro r hr
      unfold f_X7_best_b9
      refine bnd hy'.1.gn (bnd (hy'.1.an 1 rfl (by decide)) ?_)
      rw [hy'.2.1.1.1]
      exact ifn (nI_ge hi (by omega)) (bnd ((cV_ok hy'.1.km).trans (m_fr1 hy'.1 hy'.2.1 hok hi)) hr)
    cases q1 : pfr τ i
    · refine ⟨y, hy, pre _ ?_⟩
      rw [q1]
      exact ifp rfl (skip (by unfold cS; rw [q1]; rfl))
    cases q2 : pkn τ i a
    · refine ⟨y, hy, pre _ ?_⟩
      rw [q1]
      exact ifn one_ne (bnd ((cV_ok hy'.1.km).trans (m_kn hy'.1 hy'.2.1 hok ha (by omega))) (ifp (by rw [q2]; rfl) (skip (by unfold cS; rw [q1, q2]; rfl))))
    cases q3 : pkn τ i b
    · have hc : cS τ a b i = true := by unfold cS; rw [q1, q2, q3]; rfl
      obtain ⟨y', k1, x1⟩ := m_prc hy' hi hp
      refine ⟨y', hy.tr x1, pre _ ?_⟩
      have pl := prc_le τ i p
      rw [q1]
      refine ifn one_ne (bnd ((cV_ok hy'.1.km).trans (m_kn hy'.1 hy'.2.1 hok ha (by omega))) (ifn (by rw [q2]; exact one_ne) (bnd ((cV_ok hy'.1.km).trans (m_kn hy'.1 hy'.2.1 hok hb (by omega))) (ifp (by rw [q3]; rfl) (bnd ((cV_ok hy'.1.km).trans k1) ?_)))))
      have fin := fun t0 => b90 (S := cS τ a b) (v := fun f => prc τ f p) (g := g) (lim := lim) (i := i) (A := B + 66) (l1 := nI a) (l2 := nI b) (l3 := nI p) (l4 := bI g) (t0 := t0) (y := y') k hc (by omega) hl (by show prc τ i p < 2 ^ 31; omega)
      unfold f_X7_best_b85 f_X7_best_b89
      cases e : bb (cS τ a b) (fun f => prc τ f p) g lim i with
      | none =>
        rw [e] at fin
        exact ifp (by decide) (fin 1 rfl)
      | some m =>
        rw [e] at fin
        have hm := (bb_lt _ e).1
        have pm := prc_le τ m p
        refine ifn (ltI_m (by omega)).2.1 ?_
        cases g
        · refine ifp rfl ?_
          by_cases c : prc τ m p ≤ prc τ i p
          · refine ifp (nI_le (a := prc τ m p) (b := prc τ i p) c (by omega)) (fin 0 ?_)
            show (0 : Int32) = bI (decide (prc τ i p < prc τ m p))
            rw [decide_eq_false (by omega)]
            rfl
          · refine ifn (nI_ge (a := prc τ i p) (b := prc τ m p) (by omega) (by omega)) (fin 1 ?_)
            show (1 : Int32) = bI (decide (prc τ i p < prc τ m p))
            rw [decide_eq_true (by omega)]
            rfl
        · refine ifn one_ne ?_
          by_cases c : prc τ i p ≤ prc τ m p
          · refine ifp (nI_le (a := prc τ i p) (b := prc τ m p) c (by omega)) (fin 0 ?_)
            show (0 : Int32) = bI (decide (prc τ m p < prc τ i p))
            rw [decide_eq_false (by omega)]
            rfl
          · refine ifn (nI_ge (a := prc τ m p) (b := prc τ i p) (by omega) (by omega)) (fin 1 ?_)
            show (1 : Int32) = bI (decide (prc τ m p < prc τ i p))
            rw [decide_eq_true (by omega)]
            rfl
    · refine ⟨y, hy, pre _ ?_⟩
      rw [q1]
      exact ifn one_ne (bnd ((cV_ok hy'.1.km).trans (m_kn hy'.1 hy'.2.1 hok ha (by omega))) (ifn (by rw [q2]; exact one_ne) (bnd ((cV_ok hy'.1.km).trans (m_kn hy'.1 hy'.2.1 hok hb (by omega))) (ifn (by rw [q3]; exact one_ne) (skip (by unfold cS; rw [q1, q2, q3]; rfl))))))
  · have hy' := h.wx hy
    refine ⟨y, ?_, hy⟩
    show f_X7_best_b9 k (B + 66) _ _ _ _ _ _ _ (nI (tF τ)) y = _
    unfold f_X7_best_b9
    refine bnd hy'.1.gn (bnd (hy'.1.an 1 rfl (by decide)) ?_)
    rw [hy'.2.1.1.1]
    exact ifp (nI_le (Nat.le_refl _) (by omega)) rfl
/-- what one gives, what it gets -/
def gvn (τ : Tw) (kind p q : Nat) : Option Nat := if kind = 4 then none else bb (cS τ p q) (fun f => prc τ f q) (decide (kind = 2)) 999 (tF τ)
def gtL (τ : Tw) (p q : Nat) (lim : Nat) : Option Nat := bb (cS τ q p) (fun f => prc τ f p) true lim (tF τ)
def gtO (τ : Tw) (p q : Nat) : Option Nat → Option Nat
  | none => none
  | some g => gtL τ p q (prc τ g q)
def got (τ : Tw) (kind p q : Nat) : Option Nat := if kind = 1 ∨ kind = 3 then gtO τ p q (gvn τ kind p q) else gtL τ p q 999
theorem gvn_lt {τ : Tw} {kind p q m : Nat} (h : gvn τ kind p q = some m) : m < tF τ := by
  unfold gvn at h
  by_cases c : kind = 4
  · rw [if_pos c] at h
    cases h
  · rw [if_neg c] at h
    exact (bb_lt _ h).1
theorem got_lt {τ : Tw} {kind p q m : Nat} (h : got τ kind p q = some m) : m < tF τ := by
  unfold got at h
  by_cases c : kind = 1 ∨ kind = 3
  · rw [if_pos c] at h
    cases e : gvn τ kind p q with
    | none => rw [e] at h; cases h
    | some g => rw [e] at h; exact (bb_lt _ h).1
  · rw [if_neg c] at h
    exact (bb_lt _ h).1
theorem cS_set {τ : Tw} (hok : TwOk τ) (a b : Nat) : dif (frs τ &&& tR τ 3 a) (tR τ 3 b) < 65536 ∧ ∀ f, f < tF τ → (dif (frs τ &&& tR τ 3 a) (tR τ 3 b)).testBit f = cS τ a b f := by
  refine ⟨Nat.lt_of_le_of_lt (Nat.le_trans (dif_le _ _) Nat.and_le_left) (frs_lt hok), fun f hf => ?_⟩
  unfold cS frs pkn
  rw [dif_tb, Nat.testBit_and, sb_tb, decide_eq_true hf, Bool.true_and]
theorem c_pickS {B nt T : Nat} {s : hS} {τ : Tw} (h : CT B nt T s τ) {a b p lim : Nat} (g : Bool) (hp : p < tP τ) (hl : lim < 2 ^ 31) : ∃ s', f_X5_pick s T (nI (dif (frs τ &&& tR τ 3 a) (tR τ 3 b))) (nI p) (bI g) (nI lim) = some (ltI (bb (cS τ a b) (fun f => prc τ f p) g lim (tF τ)), s') ∧ Sx (PX B) s s' := by
  have hs := cS_set h.2.2.1 a b
  obtain ⟨s', k1, x1⟩ := c_pick h g hs.1 hp hl
  refine ⟨s', ?_, x1⟩
  rw [k1, bb_congr (S' := cS τ a b) (tF τ) hs.2]
theorem okI (b : Bool) : (if b = true then (1 : Int32) else 0) = bI b := by cases b <;> rfl
theorem c_gvn {B nt T : Nat} {s : hS} {τ : Tw} (h : CT B nt T s τ) {kind p q : Nat} (hk : kind < 6) (hp : p < tP τ) (hq : q < tP τ) : ∃ s', f_X5_givenOf s T (nI kind) (nI p) (nI q) = some (ltI (gvn τ kind p q), s') ∧ Sx (PX B) s s' := by
  have hok := h.2.2.1
  have hN := h.2.1.1
  have b2 := hok.1.2.1
  by_cases c : kind = 4
  · refine ⟨s, ?_, Sx.rf _ s⟩
    unfold f_X5_givenOf gvn
    subst c
    exact bnd (kind6 s 4 4 (by decide) (by decide)) (ifn one_ne rfl)
  · obtain ⟨s', k1, x1⟩ := c_pickS h (a := p) (b := q) (p := q) (lim := 999) (decide (kind = 2)) hq (by decide)
    refine ⟨s', ?_, x1⟩
    unfold f_X5_givenOf gvn
    rw [if_neg c]
    have o4 : okk kind 4 = false := by
      unfold okk
      have : kind = 0 ∨ kind = 1 ∨ kind = 2 ∨ kind = 3 ∨ kind = 5 := by omega
      rcases this with rfl | rfl | rfl | rfl | rfl <;> rfl
    have o2 : okk kind 2 = decide (kind = 2) := by
      unfold okk
      have : kind = 0 ∨ kind = 1 ∨ kind = 2 ∨ kind = 3 ∨ kind = 5 := by omega
      rcases this with rfl | rfl | rfl | rfl | rfl <;> rfl
    refine bnd (kind6 s kind 4 hk (by decide)) (ifp (by rw [o4]; rfl) (bnd ((cV_ok h.1.1).trans (c_frs h.1 hN hok)) (bnd h.1.g10 (bnd (h.1.a3 (by omega)) (bnd h.1.g10 (bnd (h.1.a3 (by omega)) ?_))))))
    rw [(hN.2.2.1 p (by omega)).1, (hN.2.2.1 q (by omega)).1]
    unfold nmv
    rw [bi_and, bi_dif]
    refine bnd (kind6 s kind 2 hk (by decide)) ?_
    rw [okI, o2]
    exact bnd ((cV_ok h.1.1).trans k1) rfl
theorem m_gvn {B : Nat} {s : hS} {τ : Tw} (h : MT B s τ) {kind p q : Nat} (hk : kind < 6) (hp : p < tP τ) (hq : q < tP τ) : ∃ s', f_X7_givenBy s (B + 66) (nI kind) (nI p) (nI q) = some (ltI (gvn τ kind p q), s') ∧ Sx (WX B) s s' := by
  by_cases c : kind = 4
  · refine ⟨s, ?_, Sx.rf _ s⟩
    unfold f_X7_givenBy gvn
    subst c
    exact ifp rfl rfl
  · obtain ⟨s', k1, x1⟩ := m_best h (a := p) (b := q) (p := q) (lim := 999) (decide (kind = 2)) hp hq hq (by decide)
    refine ⟨s', ?_, x1⟩
    unfold f_X7_givenBy f_X7_givenBy_b23 gvn
    rw [if_neg c]
    refine ifn (fun e => c ((nI_eq (b := 4) (by omega) (by decide)).mp e)) ?_
    by_cases c2 : kind = 2
    · rw [decide_eq_true c2] at k1 ⊢
      exact ifp (by rw [c2]; rfl) (bnd ((cV_ok h.1.km).trans k1) rfl)
    · rw [decide_eq_false c2] at k1 ⊢
      exact ifn (fun e => c2 ((nI_eq (b := 2) (by omega) (by decide)).mp e)) (bnd ((cV_ok h.1.km).trans k1) rfl)
theorem c_gtL {B nt T : Nat} {s : hS} {τ : Tw} (h : CT B nt T s τ) {p q lim : Nat} (hp : p < tP τ) (hq : q < tP τ) (hl : lim < 2 ^ 31) : ∃ s', f_X5_gotOf_b30 T (nI p) (nI q) (nI lim) s = some (ltI (gtL τ p q lim), s') ∧ Sx (PX B) s s' := by
  have hok := h.2.2.1
  have hN := h.2.1.1
  have b2 := hok.1.2.1
  obtain ⟨s', k1, x1⟩ := c_pickS h (a := q) (b := p) (p := p) (lim := lim) true hp hl
  refine ⟨s', ?_, x1⟩
  unfold f_X5_gotOf_b30 gtL
  refine bnd ((cV_ok h.1.1).trans (c_frs h.1 hN hok)) (bnd h.1.g10 (bnd (h.1.a3 (by omega)) (bnd h.1.g10 (bnd (h.1.a3 (by omega)) ?_))))
  rw [(hN.2.2.1 p (by omega)).1, (hN.2.2.1 q (by omega)).1]
  unfold nmv
  rw [bi_and, bi_dif]
  exact bnd ((cV_ok h.1.1).trans k1) rfl
theorem c_got {B nt T : Nat} {s : hS} {τ : Tw} (h : CT B nt T s τ) {kind p q : Nat} (hk : kind < 6) (hp : p < tP τ) (hq : q < tP τ) : ∃ s', f_X5_gotOf s T (nI kind) (nI p) (nI q) (ltI (gvn τ kind p q)) = some (ltI (got τ kind p q), s') ∧ Sx (PX B) s s' := by
  have hok := h.2.2.1
  have b1 := hok.1.1
  by_cases c : kind = 1 ∨ kind = 3
  · have o1 : okk kind 1 = true := by
      rcases c with rfl | rfl <;> rfl
    cases e : gvn τ kind p q with
    | none =>
      refine ⟨s, ?_, Sx.rf _ s⟩
      unfold f_X5_gotOf got
      rw [if_pos c, e]
      exact bnd (kind6 s kind 1 hk (by decide)) (ifn (by rw [o1]; exact one_ne) (ifp rfl rfl))
    | some g =>
      have hg := gvn_lt e
      have pl := prc_le τ g q
      obtain ⟨s1, k1, x1⟩ := c_prc h hg hq
      obtain ⟨s2, k2, x2⟩ := c_gtL (h.px x1) (lim := prc τ g q) hp hq (by omega)
      refine ⟨s2, ?_, x1.tr x2⟩
      unfold f_X5_gotOf got
      rw [if_pos c, e]
      exact bnd (kind6 s kind 1 hk (by decide)) (ifn (by rw [o1]; exact one_ne) (ifn (ltI_m (by omega)).1 (bnd ((cV_ok h.1.1).trans k1) k2)))
  · have o1 : okk kind 1 = false := by
      have : kind = 0 ∨ kind = 2 ∨ kind = 4 ∨ kind = 5 := by omega
      rcases this with rfl | rfl | rfl | rfl <;> rfl
    obtain ⟨s2, k2, x2⟩ := c_gtL h (lim := 999) hp hq (by decide)
    refine ⟨s2, ?_, x2⟩
    unfold f_X5_gotOf got
    rw [if_neg c]
    exact bnd (kind6 s kind 1 hk (by decide)) (ifp (by rw [o1]; rfl) k2)
theorem m_got {B : Nat} {s : hS} {τ : Tw} (h : MT B s τ) {kind p q : Nat} (hk : kind < 6) (hp : p < tP τ) (hq : q < tP τ) : ∃ s', f_X7_gotBy s (B + 66) (nI kind) (nI p) (nI q) = some (ltI (got τ kind p q), s') ∧ Sx (WX B) s s' := by
  have hok := h.2.2
  have b1 := hok.1.1
  by_cases c : kind = 1 ∨ kind = 3
  · obtain ⟨s1, k1, x1⟩ := m_gvn h hk hp hq
    have h1 := h.wx x1
    have go : ∀ r, f_X7_gotBy_b22 (B + 66) (nI kind) (nI p) (nI q) s = r → f_X7_gotBy s (B + 66) (nI kind) (nI p) (nI q) = r := by
      intro r hr
      unfold f_X7_gotBy
      rcases c with rfl | rfl
      · exact ifp rfl hr
      · exact ifn (by decide) (ifp rfl hr)
    cases e : gvn τ kind p q with
    | none =>
      refine ⟨s1, go _ ?_, x1⟩
      unfold f_X7_gotBy_b22 got
      rw [if_pos c, e]
      rw [e] at k1
      exact bnd ((cV_ok h.1.km).trans k1) (ifn (show ¬ (0 : Int32) ≤ ltI none by decide) rfl)
    | some g =>
      have hg := gvn_lt e
      have pl := prc_le τ g q
      obtain ⟨s2, k2, x2⟩ := m_prc h1 hg hq
      have h2 := h1.wx x2
      obtain ⟨s3, k3, x3⟩ := m_best h2 (a := q) (b := p) (p := p) (lim := prc τ g q) true hq hp hp (by omega)
      refine ⟨s3, go _ ?_, (x1.tr x2).tr x3⟩
      unfold f_X7_gotBy_b22 got
      rw [if_pos c, e]
      rw [e] at k1
      exact bnd ((cV_ok h.1.km).trans k1) (ifp (ltI_m (by omega)).2.2 (bnd ((cV_ok h1.1.km).trans k2) (bnd ((cV_ok h2.1.km).trans k3) rfl)))
  · obtain ⟨s3, k3, x3⟩ := m_best h (a := q) (b := p) (p := p) (lim := 999) true hq hp hp (by decide)
    refine ⟨s3, ?_, x3⟩
    unfold f_X7_gotBy got
    rw [if_neg c]
    exact ifn (fun e => c (Or.inl ((nI_eq (b := 1) (by omega) (by decide)).mp e))) (ifn (fun e => c (Or.inr ((nI_eq (b := 3) (by omega) (by decide)).mp e))) (bnd ((cV_ok h.1.km).trans k3) rfl))
/-- whether it goes, and its worth -/
def gos (τ : Tw) (kind p q : Nat) : Bool := (got τ kind p q).isSome && ((gvn τ kind p q).isSome || decide (kind = 4))
def prO (τ : Tw) (p : Nat) : Option Nat → Nat
  | none => 0
  | some f => prc τ f p
def wth (τ : Tw) (kind p q : Nat) : Int32 :=
  if kind = 5 then nI (pop (tR τ 3 p) 16 + pop (tR τ 3 q) 16) else if kind = 1 then nI (prO τ p (got τ kind p q)) - nI (prO τ q (gvn τ kind p q)) + 10 else if kind = 2 then nI (prO τ p (got τ kind p q)) - nI (prO τ q (gvn τ kind p q)) - 5 else if kind = 3 then 2 * (nI (prO τ p (got τ kind p q)) - nI (prO τ q (gvn τ kind p q)) + 10) else if kind = 4 then nI (prO τ p (got τ kind p q)) - nI (prO τ q (gvn τ kind p q)) - 2 else nI (prO τ p (got τ kind p q)) - nI (prO τ q (gvn τ kind p q))
theorem i_53 (x : Int32) : x - 5 + 3 = x - 2 := by
  rw [Int32.sub_eq_add_neg, Int32.sub_eq_add_neg, Int32.add_assoc]
  rfl
theorem c_w56 {B nt T : Nat} {s : hS} {τ : Tw} (h : CT B nt T s τ) {kind p q : Nat} (hk : kind < 6) (hp : p < tP τ) (hq : q < tP τ) : f_X5_worthOf_b56 T (nI kind) (nI p) (nI q) (nI (prO τ p (got τ kind p q))) (nI (prO τ q (gvn τ kind p q))) s = some (wth τ kind p q, s) := by
  have hok := h.2.2.1
  have hN := h.2.1.1
  have b2 := hok.1.2.1
  have w1 := (hok.p3 hp).1
  have w2 := (hok.p3 hq).1
  unfold f_X5_worthOf_b56
  have : kind = 0 ∨ kind = 1 ∨ kind = 2 ∨ kind = 3 ∨ kind = 4 ∨ kind = 5 := by omega
  rcases this with rfl | rfl | rfl | rfl | rfl | rfl
  · exact ifn (by decide) (ifn (by decide) (ifn (by decide) (ifn (by decide) (ifn (by decide) rfl))))
  · exact ifp rfl rfl
  · exact ifn (by decide) (ifp rfl rfl)
  · exact ifn (by decide) (ifn (by decide) (ifp rfl rfl))
  · refine ifn (by decide) (ifn (by decide) (ifn (by decide) (ifp rfl ?_)))
    rw [i_53]
    rfl
  · refine ifn (by decide) (ifn (by decide) (ifn (by decide) (ifn (by decide) (ifp rfl (bnd h.1.g10 (bnd (h.1.a3 (by omega)) ?_))))))
    rw [(hN.2.2.1 p (by omega)).1]
    refine bnd (bc s w1) (bnd h.1.g10 (bnd (h.1.a3 (by omega)) ?_))
    rw [(hN.2.2.1 q (by omega)).1]
    refine bnd (bc s w2) ?_
    show some (nI (pop (tR τ 3 p) 16) + nI (pop (tR τ 3 q) 16), s) = _
    rw [nI_add]
    rfl
theorem c_wth {B nt T : Nat} {s : hS} {τ : Tw} (h : CT B nt T s τ) {kind p q : Nat} (hk : kind < 6) (hp : p < tP τ) (hq : q < tP τ) : ∃ s', f_X5_worthOf s T (nI kind) (nI p) (nI q) = some (wth τ kind p q, s') ∧ Sx (PX B) s s' := by
  have hok := h.2.2.1
  have b1 := hok.1.1
  obtain ⟨s1, k1, x1⟩ := c_gvn h hk hp hq
  have h1 := h.px x1
  obtain ⟨s2, k2, x2⟩ := c_got h1 hk hp hq
  have h2 := h1.px x2
  have tail : ∀ s3, CT B nt T s3 τ → ∃ s', f_X5_worthOf_b37 T (nI kind) (nI p) (nI q) (ltI (gvn τ kind p q)) (nI (prO τ p (got τ kind p q))) s3 = some (wth τ kind p q, s') ∧ Sx (PX B) s3 s' := by
    intro s3 h3
    unfold f_X5_worthOf_b37
    cases e : gvn τ kind p q with
    | none =>
      have := c_w56 h3 hk hp hq
      rw [e] at this
      exact ⟨s3, ifp rfl this, Sx.rf _ s3⟩
    | some g =>
      have hg := gvn_lt e
      obtain ⟨s4, k4, x4⟩ := c_prc h3 hg hq
      have := c_w56 (h3.px x4) hk hp hq
      rw [e] at this
      exact ⟨s4, ifn (ltI_m (by omega)).1 (bnd ((cV_ok h3.1.1).trans k4) this), x4⟩
  unfold f_X5_worthOf
  cases e : got τ kind p q with
  | none =>
    obtain ⟨s4, k4, x4⟩ := tail s2 h2
    rw [e] at k4 k2
    exact ⟨s4, bnd ((cV_ok h.1.1).trans k1) (bnd ((cV_ok h1.1.1).trans k2) (ifp rfl k4)), (x1.tr x2).tr x4⟩
  | some g =>
    have hg := got_lt e
    obtain ⟨s3, k3, x3⟩ := c_prc h2 hg hp
    obtain ⟨s4, k4, x4⟩ := tail s3 (h2.px x3)
    rw [e] at k4 k2
    exact ⟨s4, bnd ((cV_ok h.1.1).trans k1) (bnd ((cV_ok h1.1.1).trans k2) (ifn (ltI_m (by omega)).1 (bnd ((cV_ok h2.1.1).trans k3) k4))), ((x1.tr x2).tr x3).tr x4⟩
theorem m_w50 {B : Nat} {s : hS} {τ : Tw} (h : MT B s τ) {kind p q : Nat} (hk : kind < 6) (hp : p < tP τ) (hq : q < tP τ) : f_X7_worthBy_b50 (B + 66) (nI kind) (nI p) (nI q) (nI (prO τ p (got τ kind p q))) (nI (prO τ q (gvn τ kind p q))) s = some (wth τ kind p q, s) := by
  have hok := h.2.2
  have b2 := hok.1.2.1
  have w1 := (hok.p3 hp).1
  have w2 := (hok.p3 hq).1
  unfold f_X7_worthBy_b50 nmv
  have : kind = 0 ∨ kind = 1 ∨ kind = 2 ∨ kind = 3 ∨ kind = 4 ∨ kind = 5 := by omega
  rcases this with rfl | rfl | rfl | rfl | rfl | rfl
  · exact ifn (by decide) (ifn (by decide) (ifn (by decide) (ifn (by decide) (ifn (by decide) rfl))))
  · exact ifp rfl rfl
  · exact ifn (by decide) (ifp rfl rfl)
  · exact ifn (by decide) (ifn (by decide) (ifp rfl rfl))
  · exact ifn (by decide) (ifn (by decide) (ifn (by decide) (ifp rfl rfl)))
  · refine ifn (by decide) (ifn (by decide) (ifn (by decide) (ifn (by decide) (ifp rfl (bnd ((cV_ok h.1.km).trans (m_kt h.1 h.2.1 (by omega))) (bnd (m_bits s w1) (bnd ((cV_ok h.1.km).trans (m_kt h.1 h.2.1 (by omega))) (bnd (m_bits s w2) ?_))))))))
    show some (nI (pop (tR τ 3 p) 16) + nI (pop (tR τ 3 q) 16), s) = _
    rw [nI_add]
    rfl
theorem m_wth {B : Nat} {s : hS} {τ : Tw} (h : MT B s τ) {kind p q : Nat} (hk : kind < 6) (hp : p < tP τ) (hq : q < tP τ) : ∃ s', f_X7_worthBy s (B + 66) (nI kind) (nI p) (nI q) = some (wth τ kind p q, s') ∧ Sx (WX B) s s' := by
  have hok := h.2.2
  have b1 := hok.1.1
  obtain ⟨s1, k1, x1⟩ := m_gvn h hk hp hq
  have h1 := h.wx x1
  obtain ⟨s2, k2, x2⟩ := m_got h1 hk hp hq
  have h2 := h1.wx x2
  have tail : ∀ s3, MT B s3 τ → ∃ s', f_X7_worthBy_b34 (B + 66) (nI kind) (nI p) (nI q) (ltI (gvn τ kind p q)) (nI (prO τ p (got τ kind p q))) s3 = some (wth τ kind p q, s') ∧ Sx (WX B) s3 s' := by
    intro s3 h3
    unfold f_X7_worthBy_b34
    cases e : gvn τ kind p q with
    | none =>
      have := m_w50 h3 hk hp hq
      rw [e] at this
      exact ⟨s3, ifn (by decide) this, Sx.rf _ s3⟩
    | some g =>
      have hg := gvn_lt e
      obtain ⟨s4, k4, x4⟩ := m_prc h3 hg hq
      have := m_w50 (h3.wx x4) hk hp hq
      rw [e] at this
      exact ⟨s4, ifp (ltI_m (by omega)).2.2 (bnd ((cV_ok h3.1.km).trans k4) this), x4⟩
  unfold f_X7_worthBy
  cases e : got τ kind p q with
  | none =>
    obtain ⟨s4, k4, x4⟩ := tail s2 h2
    rw [e] at k4 k2
    exact ⟨s4, bnd ((cV_ok h.1.km).trans k1) (bnd ((cV_ok h1.1.km).trans k2) (ifn (show ¬ (0 : Int32) ≤ ltI none by decide) k4)), (x1.tr x2).tr x4⟩
  | some g =>
    have hg := got_lt e
    obtain ⟨s3, k3, x3⟩ := m_prc h2 hg hp
    obtain ⟨s4, k4, x4⟩ := tail s3 (h2.wx x3)
    rw [e] at k4 k2
    exact ⟨s4, bnd ((cV_ok h.1.km).trans k1) (bnd ((cV_ok h1.1.km).trans k2) (ifp (ltI_m (by omega)).2.2 (bnd ((cV_ok h2.1.km).trans k3) k4))), ((x1.tr x2).tr x3).tr x4⟩
