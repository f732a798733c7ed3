/-- a number held between two -/
def cl (lo hi : Nat) (x : Int32) : Nat := if x < nI lo then lo else if nI hi < x then hi else x.toNatClampNeg
theorem cl_cases (lo hi : Nat) (hl : lo ≤ hi) (hh : hi + 1 < 2 ^ 31) (x : Int32) : (x < nI lo ∧ cl lo hi x = lo) ∨ (nI hi < x ∧ ¬ x < nI lo ∧ cl lo hi x = hi) ∨ ∃ k : Nat, lo ≤ k ∧ k ≤ hi ∧ x = nI k ∧ cl lo hi x = k := by
  unfold cl
  by_cases h1 : x < nI lo
  · rw [if_pos h1]; exact Or.inl ⟨h1, rfl⟩
  · rw [if_neg h1]
    by_cases h2 : nI hi < x
    · rw [if_pos h2]; exact Or.inr (Or.inl ⟨h2, h1, rfl⟩)
    · rw [if_neg h2]
      rcases rng x hi hh with (h | h) | ⟨k, hk, rfl⟩
      · exact absurd (fa_tr h (nI_pos' (by omega))) h1
      · exact absurd h h2
      · refine Or.inr (Or.inr ⟨k, ?_, hk, rfl, nI_clamp (by omega)⟩)
        apply Nat.ge_of_not_lt
        intro q
        exact h1 (nI_lt q (by omega))
theorem cl_b (lo hi : Nat) (hl : lo ≤ hi) (hh : hi + 1 < 2 ^ 31) (x : Int32) : lo ≤ cl lo hi x ∧ cl lo hi x ≤ hi := by
  rcases cl_cases lo hi hl hh x with ⟨-, e⟩ | ⟨-, -, e⟩ | ⟨k, h1, h2, -, e⟩ <;> rw [e] <;> omega
theorem c_held (s : hS) (lo hi : Nat) (hl : lo ≤ hi) (hh : hi + 1 < 2 ^ 31) (x : Int32) : f_X6_held s x (nI lo) (nI hi) = some (nI (cl lo hi x), s) := by
  unfold f_X6_held
  rcases cl_cases lo hi hl hh x with ⟨h, e⟩ | ⟨h, h2, e⟩ | ⟨k, h1, h2, rfl, e⟩
  · have q : x < nI hi := fa_tr h (nI_le hl (by omega))
    have q2 : ¬ nI lo < x := fun z => absurd (fa_tr z (Int32.le_of_lt h)) (nI_nlt (Nat.le_refl _) (by omega))
    rw [e, if_pos q, if_neg q2]
  · have q : ¬ x < nI hi := fun z => absurd (fa_tr h (Int32.le_of_lt z)) (nI_nlt (Nat.le_refl _) (by omega))
    rw [e, if_neg q]
    by_cases c : lo < hi
    · rw [if_pos (nI_lt c (by omega))]
    · have : lo = hi := by omega
      subst this
      rw [if_neg (nI_nlt (Nat.le_refl _) (by omega))]
  · rw [e]
    have q : (if nI k < nI hi then nI k else nI hi) = nI k := by
      by_cases c : k < hi
      · rw [if_pos (nI_lt c (by omega))]
      · have : k = hi := by omega
        subst this
        rw [if_neg (nI_nlt (Nat.le_refl _) (by omega))]
    rw [q]
    by_cases c : lo < k
    · rw [if_pos (nI_lt c (by omega))]
    · have : k = lo := by omega
      subst this
      rw [if_neg (nI_nlt (Nat.le_refl _) (by omega))]
theorem m_within (s : hS) (lo hi : Nat) (hl : lo ≤ hi) (hh : hi + 1 < 2 ^ 31) (x : Int32) : f_X7_within s x (nI lo) (nI hi) = some (nI (cl lo hi x), s) := by
  unfold f_X7_within
  rcases cl_cases lo hi hl hh x with ⟨h, e⟩ | ⟨h, h2, e⟩ | ⟨k, h1, h2, rfl, e⟩
  · rw [e]; exact ifn (Int32.not_le.mpr h) rfl
  · rw [e]; exact ifp (Int32.not_lt.mp h2) (ifn (Int32.not_le.mpr h) rfl)
  · rw [e]; exact ifp (nI_le h1 (by omega)) (ifp (nI_le h2 (by omega)) rfl)
theorem up_same {τ : Tw} {r k w : Nat} (h : τ.1 r k = w) : upT τ r k w = τ := by
  have e : (fun a i => if a = r ∧ i = k then w else τ.1 a i) = τ.1 := by
    funext a i
    by_cases c : a = r ∧ i = k
    · rw [if_pos c, c.1, c.2, h]
    · rw [if_neg c]
  show (_, τ.2.1, τ.2.2) = τ
  rw [e]
/-- worths put one after the other -/
def pt (τ : Tw) (w : Nat → Nat) : Nat → Tw
  | 0 => τ
  | n + 1 => upT (pt τ w n) 1 n (w n)
def pc (τ : Tw) (w : Nat → Nat) : Nat → Nat
  | 0 => 0
  | n + 1 => pc τ w n + (if w n = tR τ 1 n then 0 else 1)
theorem pt_o (τ : Tw) (w : Nat → Nat) : ∀ n a k, (a ≠ 1 ∨ n ≤ k) → (pt τ w n).1 a k = τ.1 a k
  | 0, _, _, _ => rfl
  | n + 1, a, k, h => by
    show (upT (pt τ w n) 1 n (w n)).1 a k = _
    rw [up_ne (by omega), pt_o τ w n a k (by omega)]
theorem pt_2 (τ : Tw) (w : Nat → Nat) : ∀ n, (pt τ w n).2 = τ.2
  | 0 => rfl
  | n + 1 => pt_2 τ w n
theorem pt_ok {τ : Tw} (h : TwOk τ) (w : Nat → Nat) : ∀ n, (∀ k, k < n → w k ≤ 99) → TwOk (pt τ w n)
  | 0, _ => h
  | n + 1, hw => (pt_ok h w n (fun k hk => hw k (by omega))).r1 n (w n) (hw n (by omega))
theorem c_pour {B : Nat} {s : hS} {τ : Tw} (L : Lay B s) (hN : TwN s (B + 1) τ) (hok : TwOk τ) {j n : Nat} (hj : j < 4) (hn : n ≤ 24) (hz : hI s (B + 40 + 2 * j) 1 = nI n) (w : Nat → Nat) (hw : ∀ k, k < n → k < tF τ → w k = if hI s (B + 41 + 2 * j) k = -1000000005 then tR τ 1 k else cl 0 99 (hI s (B + 41 + 2 * j) k)) : ∃ s1, f_X5_takeWorths s (B + 1) (B + 40 + 2 * j) = some (nI (pc τ w (min n (tF τ))), s1) ∧ Sx (fun a => a = B + 2) s s1 ∧ TwN s1 (B + 1) (pt τ w (min n (tF τ))) := by
  have b1 := hok.1.1
  refine jL_ex (F := f_X5_takeWorths_b4) (z := fun _ _ _ _ _ => none) (fun (k : Nat → Nat → Int32 → Int32 → hS → Option (Int32 × hS)) i (x : hS) => k (B + 1) (B + 40 + 2 * j) (nI (pc τ w i)) (nI i) x) (min n (tF τ)) (fun i x => Sx (fun a => a = B + 2) s x ∧ TwN x (B + 1) (pt τ w i)) (fun r => ∃ s1, r = some (nI (pc τ w (min n (tF τ))), s1) ∧ Sx (fun a => a = B + 2) s s1 ∧ TwN s1 (B + 1) (pt τ w (min n (tF τ)))) (fun i hi x hx k => Or.inl ?_) (fun x hx k => ?_) jF 0 s (Nat.zero_le _) (jF_lt (by omega)) ⟨Sx.rf _ s, hN⟩
  · obtain ⟨hSx, hT⟩ := hx
    have Lx := L.sx hSx
    have T1 := Lx.tly 1 (Or.inl rfl)
    have e0 : hI x (B + 1) 0 = nI (tF τ) := hT.1.1.trans (by rw [show tF (pt τ w i) = tF τ from pt_o τ w i 0 0 (by omega)])
    have e1 : hI x (B + 40 + 2 * j) 1 = nI n := (hSx.2.2.2 _ (by omega) _).trans hz
    have e2 : hI x (B + 41 + 2 * j) i = hI s (B + 41 + 2 * j) i := hSx.2.2.2 _ (by omega) _
    have e3 : hI x (B + 1 + 1) i = nI (tR τ 1 i) := (hT.2.1 i (by omega)).1.trans (by rw [show tR (pt τ w i) 1 i = tR τ 1 i from pt_o τ w i 1 i (by omega)])
    have ww := hw i (by omega) (by omega)
    have wb := (hok.2.1 i (by omega)).1
    have pre : ∀ {r : Option (Int32 × hS)}, (if hI s (B + 41 + 2 * j) i = (-1000000005 : Int32) then f_X5_takeWorths_b70 k (B + 1) (B + 40 + 2 * j) (nI (pc τ w i)) (nI i) x else (f_X6_held x (hI s (B + 41 + 2 * j) i) (0 : Int32) (99 : Int32)).bind fun p5 => (gR p5.2 (B + 1) 5 8).bind fun a6 => (aI p5.2 a6 10 (nI i)).bind fun x7 => if p5.1 = x7 then f_X5_takeWorths_b70 k (B + 1) (B + 40 + 2 * j) (nI (pc τ w i)) (nI i) p5.2 else (gR p5.2 (B + 1) 5 8).bind fun a8 => (sI p5.2 a8 10 (nI i) p5.1).bind fun s9 => f_X5_takeWorths_b70 k (B + 1) (B + 40 + 2 * j) ((nI (pc τ w i)) + (1 : Int32)) (nI i) s9) = r → f_X5_takeWorths_b4 k (B + 1) (B + 40 + 2 * j) (nI (pc τ w i)) (nI i) x = r := by
      intro r hr
      unfold f_X5_takeWorths_b4
      refine bnd (gI_ok T1.1) ?_
      rw [e0]
      refine ifn (nI_ge (by omega) (by omega)) (bnd (gI_ok (Lx.hk hj)) ?_)
      rw [e1]
      refine ifn (nI_ge (by omega) (by omega)) (bnd (gR_ok (Lx.hk hj) (Lx.hr1 hj)) (bnd (aI_ok i (Lx.hk1 hj) rfl (by omega) (by decide)) ?_))
      rw [e2]
      exact hr
    have keep : w i = tR τ 1 i → pc τ w (i + 1) = pc τ w i ∧ pt τ w (i + 1) = pt τ w i := by
      intro q
      refine ⟨?_, up_same (by rw [pt_o τ w i 1 i (by omega)]; exact q.symm)⟩
      show pc τ w i + _ = _
      rw [if_pos q]; rfl
    by_cases c : hI s (B + 41 + 2 * j) i = -1000000005
    · rw [if_pos c] at ww
      refine ⟨x, ⟨hSx, by rw [(keep ww).2]; exact hT⟩, ?_⟩
      show f_X5_takeWorths_b4 k (B + 1) (B + 40 + 2 * j) (nI (pc τ w i)) (nI i) x = _
      refine pre (ifp c ?_)
      show k (B + 1) (B + 40 + 2 * j) (nI (pc τ w i)) (nI i + 1) x = _
      rw [nI_1, (keep ww).1]
    · rw [if_neg c] at ww
      have hh := c_held x 0 99 (by decide) (by decide) (hI s (B + 41 + 2 * j) i)
      have hb := (cl_b 0 99 (by decide) (by decide) (hI s (B + 41 + 2 * j) i)).2
      by_cases c2 : w i = tR τ 1 i
      · refine ⟨x, ⟨hSx, by rw [(keep c2).2]; exact hT⟩, ?_⟩
        show f_X5_takeWorths_b4 k (B + 1) (B + 40 + 2 * j) (nI (pc τ w i)) (nI i) x = _
        refine pre (ifn c (bnd hh (bnd T1.g8 (bnd (T1.a1 (by omega)) ?_))))
        rw [e3, ← ww, c2]
        refine ifp rfl ?_
        show k (B + 1) (B + 40 + 2 * j) (nI (pc τ w i)) (nI i + 1) x = _
        rw [nI_1, (keep c2).1]
      · have e4 : pc τ w (i + 1) = pc τ w i + 1 := by
          show pc τ w i + _ = _
          rw [if_neg c2]
        refine ⟨uI x (B + 1 + 1) i (nI (w i)), ⟨hSx.tr (Sx.u x (B + 1 + 1) i (nI (w i)) rfl), hT.w 1 i (w i) (by unfold wok; omega)⟩, ?_⟩
        show f_X5_takeWorths_b4 k (B + 1) (B + 40 + 2 * j) (nI (pc τ w i)) (nI i) x = _
        refine pre (ifn c (bnd hh (bnd T1.g8 (bnd (T1.a1 (by omega)) ?_))))
        rw [e3, ← ww]
        refine ifn (fun q => c2 ((nI_eq (by omega) (by omega)).mp q)) (bnd T1.g8 (bnd (T1.s1 (by omega)) ?_))
        show k (B + 1) (B + 40 + 2 * j) (nI (pc τ w i) + 1) (nI i + 1) _ = _
        rw [nI_1, nI_1, e4]
  · obtain ⟨hSx, hT⟩ := hx
    have Lx := L.sx hSx
    have T1 := Lx.tly 1 (Or.inl rfl)
    have e0 : hI x (B + 1) 0 = nI (tF τ) := hT.1.1.trans (by rw [show tF (pt τ w (min n (tF τ))) = tF τ from pt_o τ w _ 0 0 (by omega)])
    have e1 : hI x (B + 40 + 2 * j) 1 = nI n := (hSx.2.2.2 _ (by omega) _).trans hz
    refine ⟨x, ?_, hSx, hT⟩
    show f_X5_takeWorths_b4 k (B + 1) (B + 40 + 2 * j) _ (nI (min n (tF τ))) x = _
    unfold f_X5_takeWorths_b4
    refine bnd (gI_ok T1.1) ?_
    rw [e0]
    by_cases c : tF τ ≤ n
    · exact ifp (nI_le (by omega) (by omega)) rfl
    · refine ifn (nI_ge (by omega) (by omega)) (bnd (gI_ok (Lx.hk hj)) ?_)
      rw [e1]
      exact ifp (nI_le (by omega) (by omega)) rfl
theorem m_pour {B : Nat} {s : hS} {τ : Tw} (L : Lay B s) (hM : TwM (hI s (B + 67)) τ) (hok : TwOk τ) {j n : Nat} (hj : j < 4) (hn : n ≤ 24) (hz : hI s (B + 81) j = nI n) (w : Nat → Nat) (hw : ∀ k, k < n → k < tF τ → w k = if hI s (B + 82) (24 * j + k) = -1000000005 then tR τ 1 k else cl 0 99 (hI s (B + 82) (24 * j + k))) : ∃ s1, jL f_X7_pour_b27 (fun _ _ _ _ _ => none) jF (B + 66) (nI j) 0 0 s = some (nI (pc τ w (min n (tF τ))), s1) ∧ Sx (fun a => a = B + 67) s s1 ∧ TwM (hI s1 (B + 67)) (pt τ w (min n (tF τ))) := by
  have b1 := hok.1.1
  refine jL_ex (F := f_X7_pour_b27) (z := fun _ _ _ _ _ => none) (fun (k : kk3) i (x : hS) => k (B + 66) (nI j) (nI (pc τ w i)) (nI i) x) (min n (tF τ)) (fun i x => Sx (fun a => a = B + 67) s x ∧ TwM (hI x (B + 67)) (pt τ w i)) (fun r => ∃ s1, r = some (nI (pc τ w (min n (tF τ))), s1) ∧ Sx (fun a => a = B + 67) s s1 ∧ TwM (hI s1 (B + 67)) (pt τ w (min n (tF τ)))) (fun i hi x hx k => Or.inl ?_) (fun x hx k => ?_) jF 0 s (Nat.zero_le _) (jF_lt (by omega)) ⟨Sx.rf _ s, hM⟩
  · obtain ⟨hSx, hT⟩ := hx
    have Lx := L.sx hSx
    have e0 : hI x (B + 67) 1 = nI (tF τ) := hT.1.1.trans (by rw [show tF (pt τ w i) = tF τ from pt_o τ w i 0 0 (by omega)])
    have e1 : hI x (B + 81) j = nI n := (hSx.2.2.2 _ (by omega) _).trans hz
    have e2 : hI x (B + 82) (24 * j + i) = hI s (B + 82) (24 * j + i) := hSx.2.2.2 _ (by omega) _
    have e3 : hI x (B + 67) (8 + 2 * i) = nI (tR τ 1 i) := (hT.2.1 i (by omega)).1.trans (by rw [show tR (pt τ w i) 1 i = tR τ 1 i from pt_o τ w i 1 i (by omega)])
    have ww := hw i (by omega) (by omega)
    have wb := (hok.2.1 i (by omega)).1
    have h3 : TwM (hI (uI x (B + 67) (8 + 2 * i) (nI (w i))) (B + 67)) (pt τ w (i + 1)) := by
      refine hT.w (by rw [show tL (pt τ w i) = tL τ from pt_o τ w i 0 2 (by omega)]; exact hok.1.2.2.1) 1 i (w i) (by unfold wok; omega) (fun q => ?_)
      show _ = if q = 8 + 2 * i then nI (w i) else hI x (B + 67) q
      by_cases c : q = 8 + 2 * i
      · subst c
        rw [uI_eq, if_pos rfl]
      · rw [uI_ne (by omega), if_neg c]
    refine ⟨uI x (B + 67) (8 + 2 * i) (nI (w i)), ⟨hSx.tr (Sx.u x (B + 67) (8 + 2 * i) (nI (w i)) rfl), h3⟩, ?_⟩
    have tail : w i ≤ 99 → f_X7_pour_b83 k (B + 66) (nI j) (nI (pc τ w i)) (nI i) (nI (w i)) x = k (B + 66) (nI j) (nI (pc τ w (i + 1))) (nI (i + 1)) (uI x (B + 67) (8 + 2 * i) (nI (w i))) := by
      intro wle
      unfold f_X7_pour_b83 f_X7_pour_b108
      refine bnd ((cV_ok Lx.km).trans (X7_bec Lx (8 + 2 * i) (ixm 8 2 i) (by omega))) ?_
      rw [e3]
      by_cases c2 : w i = tR τ 1 i
      · refine ifp (by rw [c2]) ?_
        show k (B + 66) (nI j) (nI (pc τ w i) + nI 0) (nI i + 1) _ = _
        rw [nI_1, nI_add, show pc τ w (i + 1) = pc τ w i + 0 from by show pc τ w i + _ = _; rw [if_pos c2]]
      · refine ifn (fun q => c2 ((nI_eq (by omega) (by omega)).mp q.symm)) ?_
        show k (B + 66) (nI j) (nI (pc τ w i) + nI 1) (nI i + 1) _ = _
        rw [nI_1, nI_add, show pc τ w (i + 1) = pc τ w i + 1 from by show pc τ w i + _ = _; rw [if_neg c2]]
    show f_X7_pour_b27 k (B + 66) (nI j) (nI (pc τ w i)) (nI i) x = _
    unfold f_X7_pour_b27
    refine bnd Lx.m25 (bnd (aI_ok j Lx.k81 rfl hj (by decide)) ?_)
    rw [e1]
    refine ifn (nI_ge (by omega) (by omega)) (bnd Lx.gn (bnd (Lx.an 1 rfl (by decide)) ?_))
    rw [e0]
    refine ifn (nI_ge (by omega) (by omega)) (bnd Lx.m26 (bnd (aI_ok (24 * j + i) Lx.k82 (ix24 j i) (by omega) (by decide)) ?_))
    rw [e2]
    by_cases c : hI s (B + 82) (24 * j + i) = -1000000005
    · rw [if_pos c] at ww
      have hwo : f_X7_worthOf x (B + 66) (nI i) = some (nI (w i), x) := by
        rw [m_wo Lx hT (by omega), ww, show tR (pt τ w i) 1 i = tR τ 1 i from pt_o τ w i 1 i (by omega)]
      exact ifp c (bnd ((cV_ok Lx.km).trans hwo) (tail (by omega)))
    · rw [if_neg c] at ww
      have hb := (cl_b 0 99 (by decide) (by decide) (hI s (B + 82) (24 * j + i))).2
      refine ifn c (bnd (m_within x 0 99 (by decide) (by decide) _) ?_)
      rw [← ww]
      exact tail (by omega)
  · obtain ⟨hSx, hT⟩ := hx
    have Lx := L.sx hSx
    have e0 : hI x (B + 67) 1 = nI (tF τ) := hT.1.1.trans (by rw [show tF (pt τ w (min n (tF τ))) = tF τ from pt_o τ w _ 0 0 (by omega)])
    have e1 : hI x (B + 81) j = nI n := (hSx.2.2.2 _ (by omega) _).trans hz
    refine ⟨x, ?_, hSx, hT⟩
    show f_X7_pour_b27 k (B + 66) (nI j) _ (nI (min n (tF τ))) x = _
    unfold f_X7_pour_b27
    refine bnd Lx.m25 (bnd (aI_ok j Lx.k81 rfl hj (by decide)) ?_)
    rw [e1]
    by_cases c : n ≤ tF τ
    · exact ifp (nI_le (by omega) (by omega)) rfl
    · refine ifn (nI_ge (by omega) (by omega)) (bnd Lx.gn (bnd (Lx.an 1 rfl (by decide)) ?_))
      rw [e0]
      exact ifp (nI_le (by omega) (by omega)) rfl
theorem stp_pour (B : Nat) (a0 : Int32) : StpC B (fun s => f_X6_pour s B a0) (fun s => f_X7_pour s (B + 66) a0) := by
  refine stp_set fun s nt τ h => ?_
  have L := h.1
  have hok := h.2.2.1
  have bad : (a0 < 0 ∨ nI 4 ≤ a0) → ∃ v s1 s2, f_X6_pour s B a0 = some (v, s1) ∧ f_X7_pour s1 (B + 66) a0 = some (v, s2) ∧ Lay B s1 ∧ Inv B s2 ∧ s2.1 = s.1 ∧ s2.2.1 = s.2.1 := by
    intro hb
    refine set_same (g6 := fun s => f_X6_pour s B a0) (g7 := fun s => f_X7_pour s (B + 66) a0) (v := -1000000001) h ?_ ?_
    · show f_X6_pour s B a0 = _
      unfold f_X6_pour
      exact bnd (noH_out hb) (ifn one_ne rfl)
    · show f_X7_pour s (B + 66) a0 = _
      unfold f_X7_pour
      exact bnd (isH_out hb) (ifp rfl rfl)
  rcases pk_ix a0 (n := 4) (by decide) with hb | hb | ⟨i, hi, rfl⟩
  · exact bad (Or.inl hb)
  · exact bad (Or.inr hb)
  obtain ⟨⟨g1, g2⟩, g3, ⟨n, hn, g4⟩, g5⟩ := h.2.2.2.2.2.2.2.1 i hi
  rw [g4] at g2
  have aRs := aR_ok i L.k39 rfl hi (by decide) (L.hr hi)
  rcases sort3 g3 with ⟨q1, q2, q3⟩ | ⟨q1, q2, q3, q4⟩
  · refine set_same (g6 := fun s => f_X6_pour s B (nI i)) (g7 := fun s => f_X7_pour s (B + 66) (nI i)) (v := -1000000011) h ?_ ?_
    · show f_X6_pour s B (nI i) = _
      unfold f_X6_pour
      refine bnd (noH_in hi) (ifp rfl (bnd L.gsh (bnd aRs (bnd (gI_ok (L.hk hi)) ?_))))
      rw [g1]
      exact ifp q1 rfl
    · show f_X7_pour s (B + 66) (nI i) = _
      unfold f_X7_pour
      exact bnd (isH_in hi) (ifn one_ne (bnd L.m24 (bnd (aI_ok i L.k80 rfl hi (by decide)) (ifn q2 rfl))))
  · have hw : ∃ w : Nat → Nat, ∀ k, w k = if hI s (B + 82) (24 * i + k) = -1000000005 then tR τ 1 k else cl 0 99 (hI s (B + 82) (24 * i + k)) := ⟨_, fun _ => rfl⟩
    obtain ⟨w, hw⟩ := hw
    obtain ⟨s1, c1, x1, n1⟩ := c_pour L h.2.2.2.1.1 hok hi hn g2 w (fun k hk _ => by rw [hw k, g5 k (by omega)])
    have L1 := L.sx x1
    have e67 : hI s1 (B + 67) = hI s (B + 67) := funext fun k => x1.2.2.2 _ (by omega) k
    obtain ⟨s2, c2, x2, n2⟩ := m_pour L1 (by rw [e67]; exact h.2.2.2.2.1) hok hi hn ((x1.2.2.2 _ (by omega) _).trans g4) w (fun k hk _ => by rw [hw k, x1.2.2.2 _ (by omega)])
    refine ⟨nI (pc τ w (min n (tF τ))), s1, s2, ?_, ?_, L1, ?_, x2.1.1.trans x1.1.1, x2.1.2.trans x1.1.2⟩
    · show f_X6_pour s B (nI i) = _
      unfold f_X6_pour
      refine bnd (noH_in hi) (ifp rfl (bnd L.gsh (bnd aRs (bnd (gI_ok (L.hk hi)) ?_))))
      rw [g1]
      exact ifn q1 (bnd L.gt (bnd L.gsh (bnd aRs (bnd ((cV_ok L.kt).trans c1) rfl))))
    · show f_X7_pour s1 (B + 66) (nI i) = _
      unfold f_X7_pour
      refine bnd (isH_in hi) (ifn one_ne (bnd L1.m24 (bnd (aI_ok i L1.k80 rfl hi (by decide)) ?_)))
      rw [x1.2.2.2 _ (by omega)]
      exact ifp q2 c2
    · have X : Sx (FrP B) s s2 := (x1.mono (fun a ha => by rw [ha]; exact FrP.i (by decide))).tr (x2.mono (fun a ha => by rw [ha]; exact FrP.i (by decide)))
      refine (h.town X ?_ (by rw [pt_2]) (pt_ok hok w _ (fun k hk => ?_)) (TwN.keep (B := B) n1 (fun r hr k => x2.2.2.2 _ (by omega) k)) n2).inv
      · exact pt_o τ w _ 0 4 (by omega)
      · rw [hw k]
        split
        · exact (hok.2.1 k (by omega)).1
        · exact (cl_b 0 99 (by decide) (by decide) _).2
theorem rd_go {B : Nat} {s : hS} {τ : Tw} (L : Lay B s) (hN : TwN s (B + 1) τ) (hM : TwM (hI s (B + 67)) τ) (hok : TwOk τ) {j n : Nat} (hj : j < 4) (hn : n ≤ 24) (hz : hI s (B + 40 + 2 * j) 1 = nI n) (hz2 : hI s (B + 81) j = nI n) (hc : ∀ k, k < 24 → hI s (B + 41 + 2 * j) k = hI s (B + 82) (24 * j + k)) : ∀ fuel i, i ≤ n → n < fuel + i → ∃ v, jL f_X5_firstOtherwise_b2 (fun _ _ _ _ => none) fuel (B + 1) (B + 40 + 2 * j) (nI i) s = some (v, s) ∧ jL f_X7_reads_b25 (fun _ _ _ _ => none) fuel (B + 66) (nI j) (nI i) s = some (noneOr v, s)
  | 0, i, h1, h2 => by omega
  | fuel + 1, i, h1, h2 => by
    have T1 := L.tly 1 (Or.inl rfl)
    have b8 := hok.1.2.1
    have nn : ∀ q : Nat, q < 100 → noneOr (nI q) = nI q := fun q hq => if_neg (fun e => by
      have z : ¬ nI q < 0 := nI_pos (by omega)
      rw [e] at z
      exact z (by decide))
    show ∃ v, f_X5_firstOtherwise_b2 (jL f_X5_firstOtherwise_b2 (fun _ _ _ _ => none) fuel) (B + 1) (B + 40 + 2 * j) (nI i) s = some (v, s) ∧ f_X7_reads_b25 (jL f_X7_reads_b25 (fun _ _ _ _ => none) fuel) (B + 66) (nI j) (nI i) s = some (noneOr v, s)
    unfold f_X5_firstOtherwise_b2 f_X7_reads_b25 f_X5_firstOtherwise_b46 f_X7_reads_b75
    by_cases c : i = n
    · subst c
      refine ⟨-1, bnd (gI_ok (L.hk hj)) ?_, bnd L.m25 (bnd (aI_ok j L.k81 rfl hj (by decide)) ?_)⟩
      · rw [hz]; exact ifp (nI_le (Nat.le_refl _) (by omega)) rfl
      · rw [hz2]; exact ifp (nI_le (Nat.le_refl _) (by omega)) rfl
    have cp : ∀ {r : Option (Int32 × hS)}, (if hI s (B + 82) (24 * j + i) = (-1000000005 : Int32) then jL f_X5_firstOtherwise_b2 (fun _ _ _ _ => none) fuel (B + 1) (B + 40 + 2 * j) (nI i + 1) s else (gI s (B + 1) 5 1).bind fun x4 => if x4 ≤ nI i then some (nI i, s) else (gR s (B + 1) 5 10).bind fun a5 => (aI s a5 10 (nI i)).bind fun x6 => (f_J6_bitCount_0f7a4 s x6).bind fun p7 => if hI s (B + 82) (24 * j + i) = p7.1 then jL f_X5_firstOtherwise_b2 (fun _ _ _ _ => none) fuel (B + 1) (B + 40 + 2 * j) (nI i + 1) p7.2 else some (nI i, p7.2)) = r → ((gI s (B + 40 + 2 * j) 1 1).bind fun x1 => if x1 ≤ nI i then some ((-1 : Int32), s) else (gR s (B + 40 + 2 * j) 1 2).bind fun a2 => (aI s a2 10 (nI i)).bind fun x3 => if x3 = (-1000000005 : Int32) then jL f_X5_firstOtherwise_b2 (fun _ _ _ _ => none) fuel (B + 1) (B + 40 + 2 * j) (nI i + 1) s else (gI s (B + 1) 5 1).bind fun x4 => if x4 ≤ nI i then some (nI i, s) else (gR s (B + 1) 5 10).bind fun a5 => (aI s a5 10 (nI i)).bind fun x6 => (f_J6_bitCount_0f7a4 s x6).bind fun p7 => if x3 = p7.1 then jL f_X5_firstOtherwise_b2 (fun _ _ _ _ => none) fuel (B + 1) (B + 40 + 2 * j) (nI i + 1) p7.2 else some (nI i, p7.2)) = r := by
      intro r hr
      refine bnd (gI_ok (L.hk hj)) ?_
      rw [hz]
      refine ifn (nI_ge (by omega) (by omega)) (bnd (gR_ok (L.hk hj) (L.hr1 hj)) (bnd (aI_ok i (L.hk1 hj) rfl (by omega) (by decide)) ?_))
      rw [hc i (by omega)]
      exact hr
    have mp : ∀ {g : Int32 → Option (Int32 × hS)} {r : Option (Int32 × hS)}, g (hI s (B + 82) (24 * j + i)) = r → ((gR s (B + 66) 7 25).bind fun a1 => (aI s a1 10 (nI j)).bind fun x2 => if x2 ≤ nI i then some ((-1000000005 : Int32), s) else (gR s (B + 66) 7 26).bind fun a3 => (aI s a3 10 (((24 : Int32) * nI j) + nI i)).bind g) = r := by
      intro g r hr
      refine bnd L.m25 (bnd (aI_ok j L.k81 rfl hj (by decide)) ?_)
      rw [hz2]
      exact ifn (nI_ge (by omega) (by omega)) (bnd L.m26 (bnd (aI_ok (24 * j + i) L.k82 (ix24 j i) (by omega) (by decide)) hr))
    obtain ⟨v, ih1, ih2⟩ := rd_go L hN hM hok hj hn hz hz2 hc fuel (i + 1) (by omega) (by omega)
    rw [← nI_1] at ih1 ih2
    by_cases z : hI s (B + 82) (24 * j + i) = -1000000005
    · exact ⟨v, cp (ifp z ih1), mp (ifp z ih2)⟩
    · by_cases p : i < tP τ
      · have b2 := (hok.p3 p).1
        have cq : ∀ {r : Option (Int32 × hS)}, (if hI s (B + 82) (24 * j + i) = nI (pop (tR τ 3 i) 16) then jL f_X5_firstOtherwise_b2 (fun _ _ _ _ => none) fuel (B + 1) (B + 40 + 2 * j) (nI i + 1) s else some (nI i, s)) = r → ((gI s (B + 1) 5 1).bind fun x4 => if x4 ≤ nI i then some (nI i, s) else (gR s (B + 1) 5 10).bind fun a5 => (aI s a5 10 (nI i)).bind fun x6 => (f_J6_bitCount_0f7a4 s x6).bind fun p7 => if hI s (B + 82) (24 * j + i) = p7.1 then jL f_X5_firstOtherwise_b2 (fun _ _ _ _ => none) fuel (B + 1) (B + 40 + 2 * j) (nI i + 1) p7.2 else some (nI i, p7.2)) = r := by
          intro r hr
          refine bnd (gI_ok L.kt) ?_
          rw [hN.1.2.1]
          refine ifn (nI_ge p (by omega)) (bnd T1.g10 (bnd (T1.a3 (by omega)) ?_))
          rw [(hN.2.2.1 i (by omega)).1]
          exact bnd (bc s b2) hr
        by_cases e : hI s (B + 82) (24 * j + i) = nI (pop (tR τ 3 i) 16)
        · exact ⟨v, cp (ifn z (cq (ifp e ih1))), mp (ifn z (bnd ((cV_ok L.km).trans (isP_in L hM hok p)) (ifn one_ne (bnd ((cV_ok L.km).trans (m_kt L hM (by omega))) (bnd (m_bits s b2) (ifp e ih2))))))⟩
        · refine ⟨nI i, cp (ifn z (cq (ifn e rfl))), mp (ifn z (bnd ((cV_ok L.km).trans (isP_in L hM hok p)) (ifn one_ne (bnd ((cV_ok L.km).trans (m_kt L hM (by omega))) (bnd (m_bits s b2) (ifn e ?_))))))⟩
          rw [nn i (by omega)]
      · refine ⟨nI i, cp (ifn z (bnd (gI_ok L.kt) ?_)), mp (ifn z (bnd ((cV_ok L.km).trans (isP_out L hM hok (Or.inr (nI_le (by omega) (by omega))))) (ifp rfl ?_)))⟩
        · rw [hN.1.2.1]
          exact ifp (nI_le (by omega) (by omega)) rfl
        · rw [nn i (by omega)]
theorem stp_reads (B : Nat) (a0 : Int32) : StpC B (fun s => f_X6_reads s B a0) (fun s => f_X7_reads s (B + 66) a0) := by
  refine stp_same fun s nt τ h => ?_
  have L := h.1
  have bad : (a0 < 0 ∨ nI 4 ≤ a0) → ∃ v, f_X6_reads s B a0 = some (v, s) ∧ f_X7_reads s (B + 66) a0 = some (v, s) := by
    intro hb
    refine ⟨-1000000001, ?_, ?_⟩
    · unfold f_X6_reads
      exact bnd (noH_out hb) (ifn one_ne rfl)
    · unfold f_X7_reads
      exact bnd (isH_out hb) (ifp rfl rfl)
  rcases pk_ix a0 (n := 4) (by decide) with hb | hb | ⟨i, hi, rfl⟩
  · exact bad (Or.inl hb)
  · exact bad (Or.inr hb)
  obtain ⟨⟨g1, g2⟩, g3, ⟨n, hn, g4⟩, g5⟩ := h.2.2.2.2.2.2.2.1 i hi
  rw [g4] at g2
  have aRs := aR_ok i L.k39 rfl hi (by decide) (L.hr hi)
  show ∃ v, f_X6_reads s B (nI i) = some (v, s) ∧ f_X7_reads s (B + 66) (nI i) = some (v, s)
  unfold f_X6_reads f_X7_reads
  rcases sort3 g3 with ⟨q1, q2, q3⟩ | ⟨q1, q2, q3, q4⟩
  · refine ⟨-1000000011, bnd (noH_in hi) (ifp rfl (bnd L.gsh (bnd aRs (bnd (gI_ok (L.hk hi)) ?_)))), bnd (isH_in hi) (ifn one_ne (bnd L.m24 (bnd (aI_ok i L.k80 rfl hi (by decide)) (ifn q2 rfl))))⟩
    rw [g1]
    exact ifp q1 rfl
  · obtain ⟨v, c1, c2⟩ := rd_go L h.2.2.2.1.1 h.2.2.2.2.1 h.2.2.1 hi hn g2 g4 g5 jF 0 (by omega) (by unfold jF; omega)
    refine ⟨noneOr v, bnd (noH_in hi) (ifp rfl (bnd L.gsh (bnd aRs (bnd (gI_ok (L.hk hi)) ?_)))), bnd (isH_in hi) (ifn one_ne (bnd L.m24 (bnd (aI_ok i L.k80 rfl hi (by decide)) (ifp q2 c2))))⟩
    rw [g1]
    exact ifn q1 (bnd L.gt (bnd L.gsh (bnd aRs (bnd ((cV_ok L.kt).trans c1) (bnd (c_orNone s v) rfl)))))
