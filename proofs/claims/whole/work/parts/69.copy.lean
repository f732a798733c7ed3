theorem ifc {α : Type} {c : Prop} [Decidable c] {a b a' b' : α} (h1 : c → a = a') (h2 : ¬ c → b = b') : (if c then a else b) = (if c then a' else b') := by
  by_cases h : c
  · rw [if_pos h, if_pos h, h1 h]
  · rw [if_neg h, if_neg h, h2 h]
theorem sub_neg {n m : Nat} (hn : n ≤ 24) (hm : m < 2 ^ 31) (h : n < m) : nI n - nI m < 0 := by
  rw [Int32.lt_iff_toInt_lt, Int32.toInt_sub, nI_toInt (by omega), nI_toInt hm, show (0 : Int32).toInt = 0 from by decide]
  have e : ((n : Int) - (m : Int)).bmod (2 ^ 32) = (n : Int) - m := Int.bmod_eq_of_le (by omega) (by omega)
  rw [e]
  omega
theorem sub_lt {n m p : Nat} (hn : n ≤ 24) (hm : m < 2 ^ 31) (hp : p < 2 ^ 31) : (nI n - nI m < nI p) ↔ ¬ p + m ≤ n := by
  by_cases c : m ≤ n
  · rw [pk_sub c, nI_ltI (by omega) hp]
    omega
  · exact ⟨fun _ => by omega, fun _ => fa_tr (sub_neg hn hm (by omega)) (nI_pos' hp)⟩
theorem nr_in {s : hS} {a n p m : Nat} (hk : hK s a = (1, 3)) (hn : hI s a 1 = nI n) (h24 : n ≤ 24) (h : p + m ≤ n) : f_X1_hasNoRow s a (nI p) (nI m) = some (0, s) := by
  unfold f_X1_hasNoRow
  refine ifn (nI_pos (by omega)) (ifn (nI_pos (by omega)) (bnd (gI_ok hk) ?_))
  rw [hn]
  refine ifn (nI_nlt (by omega) (by omega)) (bnd (gI_ok hk) ?_)
  rw [hn, pk_sub (by omega)]
  exact ifp (nI_le (by omega) (by omega)) rfl
theorem nr_out {s : hS} {a n : Nat} {i j : Int32} (hk : hK s a = (1, 3)) (hn : hI s a 1 = nI n) (h24 : n ≤ 24) (h : ∀ p m : Nat, i = nI p → j = nI m → ¬ p + m ≤ n) : f_X1_hasNoRow s a i j = some (1, s) := by
  unfold f_X1_hasNoRow f_X1_hasNoRow_b26
  by_cases h1 : i < 0
  · exact ifp h1 rfl
  refine ifn h1 ?_
  by_cases h2 : j < 0
  · exact ifp h2 rfl
  refine ifn h2 (bnd (gI_ok hk) ?_)
  obtain ⟨p, hp, rfl⟩ := nI_of h1
  obtain ⟨m, hm, rfl⟩ := nI_of h2
  have hh := h p m rfl rfl
  rw [hn]
  by_cases c : n < m
  · exact ifp (nI_lt c hm) rfl
  · refine ifn (nI_nlt (by omega) (by omega)) (bnd (gI_ok hk) ?_)
    rw [hn, pk_sub (by omega)]
    exact ifn (nI_ge (by omega) hp) rfl
theorem Lay.k87 {B : Nat} {s : hS} (L : Lay B s) : hK s (B + 87) = (10, 24) := L.k 87 10 24 rfl
theorem Lay.m31 {B : Nat} {s : hS} (L : Lay B s) : gR s (B + 66) 7 31 = some (B + 87) := L.gm 31 87 24 (by decide)
theorem ix24b (a k p : Nat) : nI 24 * nI a + nI k + nI p = nI (24 * a + k + p) := by rw [pk_mul, nI_add, nI_add]
theorem c_cpy {B : Nat} {s : hS} (L : Lay B s) {i j p q m : Nat} (hi : i < 4) (hj : j < 4) (hp : p + m ≤ 24) (hq : q + m ≤ 24) : ∃ s1, hcpy s (B + 41 + 2 * i) (nI p) (B + 41 + 2 * j) (nI q) (nI m) = some s1 ∧ Wx (fun a k => a = B + 41 + 2 * j ∧ q ≤ k ∧ k < q + m) s s1 ∧ ∀ k, k < m → hI s1 (B + 41 + 2 * j) (q + k) = hI s (B + 41 + 2 * i) (p + k) := by
  have k1 : s.2.2.1 (B + 41 + 2 * i) = (10, 24) := L.hk1 hi
  have k2 : s.2.2.1 (B + 41 + 2 * j) = (10, 24) := L.hk1 hj
  refine ⟨(s.1, s.2.1, s.2.2.1, fun b => if b = B + 41 + 2 * j then va_cpy (s.2.2.2.1 (B + 41 + 2 * i)) (s.2.2.2.1 (B + 41 + 2 * j)) p q m else s.2.2.2.1 b, s.2.2.2.2), ?_, ⟨⟨rfl, rfl⟩, fun _ => rfl, fun _ _ => rfl, fun a k hw => ?_⟩, fun k hk => ?_⟩
  · unfold hcpy
    rw [nI_clamp (by omega), nI_clamp (by omega), nI_clamp (by omega), if_pos]
    refine ⟨⟨by rw [k1], by rw [k2]⟩, ⟨nI_pos (by omega), nI_pos (by omega), nI_pos (by omega)⟩, ?_, ?_⟩
    · rw [k1]; exact hp
    · rw [k2]; exact hq
  · show (if a = B + 41 + 2 * j then va_cpy (s.2.2.2.1 (B + 41 + 2 * i)) (s.2.2.2.1 (B + 41 + 2 * j)) p q m else s.2.2.2.1 a) k = s.2.2.2.1 a k
    by_cases c : a = B + 41 + 2 * j
    · rw [if_pos c, c]
      exact pk_cpy_out (by omega)
    · rw [if_neg c]
  · show (if B + 41 + 2 * j = B + 41 + 2 * j then va_cpy (s.2.2.2.1 (B + 41 + 2 * i)) (s.2.2.2.1 (B + 41 + 2 * j)) p q m else s.2.2.2.1 (B + 41 + 2 * j)) (q + k) = s.2.2.2.1 (B + 41 + 2 * i) (p + k)
    rw [if_pos rfl, pk_cpy_in (by omega) (by omega), Nat.add_sub_cancel_left]
theorem m_cpy {B : Nat} {s : hS} (L : Lay B s) {i j p q m : Nat} (hi : i < 4) (hj : j < 4) (hp : p + m ≤ 24) (hq : q + m ≤ 24) : ∃ s2, jL f_X7_copy_b105 (fun _ _ _ _ _ _ _ _ => none) jF (B + 66) (nI i) (nI p) (nI j) (nI q) (nI m) 0 s = some (nI m, s2) ∧ Wx (fun a k => a = B + 87 ∨ (a = B + 82 ∧ 24 * j + q ≤ k ∧ k < 24 * j + q + m)) s s2 ∧ ∀ k, k < m → hI s2 (B + 82) (24 * j + q + k) = hI s (B + 82) (24 * i + p + k) := by
  have l2 : ∀ t : hS, Lay B t → jL f_X7_copy_b142 (fun _ _ _ _ _ _ => none) jF (B + 66) (nI j) (nI q) (nI m) 0 t = some (nI m, wr t (B + 82) (24 * j + q) (fun k => hI t (B + 87) k) m) := by
    intro t Lt
    refine jL_run (F := f_X7_copy_b142) (z := fun _ _ _ _ _ _ => none) (fun (k : Nat → Int32 → Int32 → Int32 → Int32 → hS → Option (Int32 × hS)) u => k (B + 66) (nI j) (nI q) (nI m) (nI u) (wr t (B + 82) (24 * j + q) (fun k => hI t (B + 87) k) u)) m _ (fun u hu k => ?_) (fun k => ?_) jF 0 (Nat.zero_le _) (jF_lt (by omega))
    · have Lw := Lt.wr (B + 82) (24 * j + q) (fun k => hI t (B + 87) k) u
      show f_X7_copy_b142 k _ _ _ _ _ _ = _
      unfold f_X7_copy_b142
      refine ifn (nI_ge hu (by omega)) (bnd Lw.m26 (bnd Lw.m31 (bnd (aI_ok u Lw.k87 rfl (by omega) (by decide)) ?_)))
      rw [wr_ne (by omega)]
      refine bnd (sI_ok (24 * j + q + u) Lw.k82 (ix24b j q u) (by omega) (by decide)) ?_
      rw [nI_1]
      rfl
    · show f_X7_copy_b142 k _ _ _ _ _ _ = _
      unfold f_X7_copy_b142
      exact ifp (nI_le (Nat.le_refl _) (by omega)) rfl
  have l1 : jL f_X7_copy_b105 (fun _ _ _ _ _ _ _ _ => none) jF (B + 66) (nI i) (nI p) (nI j) (nI q) (nI m) 0 s = some (nI m, wr (wr s (B + 87) 0 (fun k => hI s (B + 82) (24 * i + p + k)) m) (B + 82) (24 * j + q) (fun k => hI (wr s (B + 87) 0 (fun k => hI s (B + 82) (24 * i + p + k)) m) (B + 87) k) m) := by
    refine jL_run (F := f_X7_copy_b105) (z := fun _ _ _ _ _ _ _ _ => none) (fun (k : Nat → Int32 → Int32 → Int32 → Int32 → Int32 → Int32 → hS → Option (Int32 × hS)) u => k (B + 66) (nI i) (nI p) (nI j) (nI q) (nI m) (nI u) (wr s (B + 87) 0 (fun k => hI s (B + 82) (24 * i + p + k)) u)) m _ (fun u hu k => ?_) (fun k => ?_) jF 0 (Nat.zero_le _) (jF_lt (by omega))
    · have Lw := L.wr (B + 87) 0 (fun k => hI s (B + 82) (24 * i + p + k)) u
      show f_X7_copy_b105 k _ _ _ _ _ _ _ _ = _
      unfold f_X7_copy_b105
      refine ifn (nI_ge hu (by omega)) (bnd Lw.m31 (bnd Lw.m26 (bnd (aI_ok (24 * i + p + u) Lw.k82 (ix24b i p u) (by omega) (by decide)) ?_)))
      rw [wr_ne (by omega)]
      refine bnd (sI_ok u Lw.k87 rfl (by omega) (by decide)) ?_
      rw [nI_1]
      show _ = k _ _ _ _ _ _ _ (uI _ _ (0 + u) _)
      rw [Nat.zero_add]
    · have Lw := L.wr (B + 87) 0 (fun k => hI s (B + 82) (24 * i + p + k)) m
      show f_X7_copy_b105 k _ _ _ _ _ _ _ _ = _
      unfold f_X7_copy_b105
      exact ifp (nI_le (Nat.le_refl _) (by omega)) (l2 _ Lw)
  refine ⟨_, l1, Wx.wr (Wx.wr (Wx.rf _ s) (fun k _ => Or.inl rfl)) (fun k hk => Or.inr ⟨rfl, by omega, by omega⟩), fun k hk => ?_⟩
  rw [wr_in _ _ _ _ _ _ hk, wr_I, if_pos ⟨rfl, by omega, by omega⟩, Nat.sub_zero]
theorem stp_copy (B : Nat) (a0 a1 a2 a3 a4 : Int32) : StpC B (fun s => f_X6_copy s B a0 a1 a2 a3 a4) (fun s => f_X7_copy s (B + 66) a0 a1 a2 a3 a4) := by
  refine stp_set fun s nt τ h => ?_
  have L := h.1
  have same : ∀ v, f_X6_copy s B a0 a1 a2 a3 a4 = some (v, s) → f_X7_copy s (B + 66) a0 a1 a2 a3 a4 = some (v, s) → ∃ v s1 s2, f_X6_copy s B a0 a1 a2 a3 a4 = some (v, s1) ∧ f_X7_copy s1 (B + 66) a0 a1 a2 a3 a4 = some (v, s2) ∧ Lay B s1 ∧ Inv B s2 ∧ s2.1 = s.1 ∧ s2.2.1 = s.2.1 := fun v h6 h7 => ⟨v, s, s, h6, h7, L, h.inv, rfl, rfl⟩
  show ∃ v s1 s2, f_X6_copy s B a0 a1 a2 a3 a4 = some (v, s1) ∧ f_X7_copy s1 (B + 66) a0 a1 a2 a3 a4 = some (v, s2) ∧ Lay B s1 ∧ Inv B s2 ∧ s2.1 = s.1 ∧ s2.2.1 = s.2.1
  have bad : (a0 < 0 ∨ nI 4 ≤ a0) → ∃ v s1 s2, f_X6_copy s B a0 a1 a2 a3 a4 = some (v, s1) ∧ f_X7_copy s1 (B + 66) a0 a1 a2 a3 a4 = some (v, s2) ∧ Lay B s1 ∧ Inv B s2 ∧ s2.1 = s.1 ∧ s2.2.1 = s.2.1 := by
    intro hb
    refine same (-1000000001) ?_ ?_
    · unfold f_X6_copy
      exact bnd (noH_out hb) (ifn one_ne rfl)
    · unfold f_X7_copy
      exact bnd (isH_out hb) (ifp rfl rfl)
  rcases pk_ix a0 (n := 4) (by decide) with hb | hb | ⟨i, hi, rfl⟩
  · exact bad (Or.inl hb)
  · exact bad (Or.inr hb)
  have bad2 : (a2 < 0 ∨ nI 4 ≤ a2) → ∃ v s1 s2, f_X6_copy s B (nI i) a1 a2 a3 a4 = some (v, s1) ∧ f_X7_copy s1 (B + 66) (nI i) a1 a2 a3 a4 = some (v, s2) ∧ Lay B s1 ∧ Inv B s2 ∧ s2.1 = s.1 ∧ s2.2.1 = s.2.1 := by
    intro hb
    refine same (-1000000001) ?_ ?_
    · unfold f_X6_copy
      exact bnd (noH_in hi) (ifp rfl (bnd (noH_out hb) (ifn one_ne rfl)))
    · unfold f_X7_copy
      exact bnd (isH_in hi) (ifn one_ne (bnd (isH_out hb) (ifp rfl rfl)))
  rcases pk_ix a2 (n := 4) (by decide) with hb | hb | ⟨j, hj, rfl⟩
  · exact bad2 (Or.inl hb)
  · exact bad2 (Or.inr hb)
  clear bad bad2
  obtain ⟨⟨g1, g2⟩, g3, ⟨n, hn, g4⟩, g5⟩ := h.2.2.2.2.2.2.2.1 i hi
  rw [g4] at g2
  obtain ⟨⟨u1, u2⟩, u3, ⟨n', hn', u4⟩, u5⟩ := h.2.2.2.2.2.2.2.1 j hj
  rw [u4] at u2
  have aRs := aR_ok i L.k39 rfl hi (by decide) (L.hr hi)
  have aRt := aR_ok j L.k39 rfl hj (by decide) (L.hr hj)
  have cpre : ∀ {r : Option (Int32 × hS)}, (if hI s (B + 80) i = (-1 : Int32) then some ((-1000000011 : Int32), s) else if hI s (B + 80) j = (-1 : Int32) then some ((-1000000011 : Int32), s) else if hI s (B + 80) i = hI s (B + 80) j then (cV s (B + 40 + 2 * i) 1 (f_X1_hasNoRow s (B + 40 + 2 * i) a1 a4)).bind fun p11 => if p11.1 = 0 then (cV p11.2 (B + 40 + 2 * j) 1 (f_X1_hasNoRow p11.2 (B + 40 + 2 * j) a3 a4)).bind fun p12 => if p12.1 = 0 then (gR p12.2 (B + 40 + 2 * i) 1 2).bind fun a13 => (gR p12.2 (B + 40 + 2 * j) 1 2).bind fun a14 => (hcpy p12.2 a13 a1 a14 a3 a4).bind fun s15 => some (a4, s15) else some ((-1000000013 : Int32), p12.2) else some ((-1000000013 : Int32), p11.2) else some ((-1000000012 : Int32), s)) = r → f_X6_copy s B (nI i) a1 (nI j) a3 a4 = r := by
    intro r hr
    unfold f_X6_copy
    refine bnd (noH_in hi) (ifp rfl (bnd (noH_in hj) (ifp rfl (bnd L.gsh (bnd aRs (bnd L.gsh (bnd aRt (bnd (gI_ok (L.hk hi)) ?_))))))))
    rw [g1]
    rw [← hr]
    refine ifc (fun _ => rfl) (fun _ => bnd (gI_ok (L.hk hj)) ?_)
    rw [u1]
    refine ifc (fun _ => rfl) (fun _ => bnd (gI_ok (L.hk hi)) (bnd (gI_ok (L.hk hj)) ?_))
    rw [g1, u1]
  have mpre : ∀ {t : hS} {r : Option (Int32 × hS)}, Lay B t → (∀ o, hI t (B + 80) o = hI s (B + 80) o) → (∀ o, hI t (B + 81) o = hI s (B + 81) o) → (if hI s (B + 80) i < 0 then some ((-1000000011 : Int32), t) else if 0 ≤ hI s (B + 80) j then if hI s (B + 80) i = hI s (B + 80) j then if a1 < 0 then some ((-1000000013 : Int32), t) else if a3 < 0 then some ((-1000000013 : Int32), t) else if a4 < 0 then some ((-1000000013 : Int32), t) else if (nI n - a4) < a1 then some ((-1000000013 : Int32), t) else if a3 ≤ (nI n' - a4) then jL f_X7_copy_b105 (fun _ _ _ _ _ _ _ _ => none) jF (B + 66) (nI i) a1 (nI j) a3 a4 (0 : Int32) t else some ((-1000000013 : Int32), t) else some ((-1000000012 : Int32), t) else some ((-1000000011 : Int32), t)) = r → f_X7_copy t (B + 66) (nI i) a1 (nI j) a3 a4 = r := by
    intro t r Lt e1 e2 hr
    unfold f_X7_copy
    refine bnd (isH_in hi) (ifn one_ne (bnd (isH_in hj) (ifn one_ne (bnd Lt.m24 (bnd (aI_ok i Lt.k80 rfl hi (by decide)) ?_)))))
    rw [← hr, e1]
    refine ifc (fun _ => rfl) (fun _ => bnd Lt.m24 (bnd (aI_ok j Lt.k80 rfl hj (by decide)) ?_))
    rw [e1]
    refine ifc (fun _ => bnd Lt.m24 (bnd (aI_ok i Lt.k80 rfl hi (by decide)) (bnd Lt.m24 (bnd (aI_ok j Lt.k80 rfl hj (by decide)) ?_)))) (fun _ => rfl)
    rw [e1, e1]
    refine ifc (fun _ => ifc (fun _ => rfl) (fun _ => ifc (fun _ => rfl) (fun _ => ifc (fun _ => rfl) (fun _ => bnd Lt.m25 (bnd (aI_ok i Lt.k81 rfl hi (by decide)) ?_))))) (fun _ => rfl)
    rw [e2, g4]
    refine ifc (fun _ => rfl) (fun _ => bnd Lt.m25 (bnd (aI_ok j Lt.k81 rfl hj (by decide)) ?_))
    rw [e2, u4]
  rcases sort3 g3 with ⟨q1, q2, q3⟩ | ⟨q1, q2, q3, -⟩
  · exact same (-1000000011) (cpre (ifp q1 rfl)) (mpre L (fun _ => rfl) (fun _ => rfl) (ifp q3 rfl))
  rcases sort3 u3 with ⟨v1, v2, v3⟩ | ⟨v1, v2, v3, -⟩
  · exact same (-1000000011) (cpre (ifn q1 (ifp v1 rfl))) (mpre L (fun _ => rfl) (fun _ => rfl) (ifn q3 (ifn v2 rfl)))
  by_cases se : ¬ hI s (B + 80) i = hI s (B + 80) j
  · exact same (-1000000012) (cpre (ifn q1 (ifn v1 (ifn se rfl)))) (mpre L (fun _ => rfl) (fun _ => rfl) (ifn q3 (ifp v2 (ifn se rfl))))
  replace se := Classical.not_not.mp se
  have cout : (∀ p m : Nat, a1 = nI p → a4 = nI m → ¬ p + m ≤ n) ∨ (∀ p m : Nat, a3 = nI p → a4 = nI m → ¬ p + m ≤ n') → f_X6_copy s B (nI i) a1 (nI j) a3 a4 = some (-1000000013, s) := by
    intro hh
    refine cpre (ifn q1 (ifn v1 (ifp se ?_)))
    by_cases c : ∀ p m : Nat, a1 = nI p → a4 = nI m → ¬ p + m ≤ n
    · exact bnd ((cV_ok (L.hk hi)).trans (nr_out (L.hk hi) g2 hn c)) (ifn one_ne rfl)
    · have c' : ∃ p m : Nat, a1 = nI p ∧ a4 = nI m ∧ p + m ≤ n := Classical.byContradiction fun hc => c fun p m e1 e2 e3 => hc ⟨p, m, e1, e2, e3⟩
      obtain ⟨p, m, e1, e2, e3⟩ := c'
      have o := nr_out (L.hk hj) u2 hn' (hh.resolve_left c)
      rw [e1, e2]
      rw [e2] at o
      exact bnd ((cV_ok (L.hk hi)).trans (nr_in (L.hk hi) g2 hn e3)) (ifp rfl (bnd ((cV_ok (L.hk hj)).trans o) (ifn one_ne rfl)))
  by_cases c1 : a1 < 0
  · refine same (-1000000013) (cout (Or.inl ?_)) (mpre L (fun _ => rfl) (fun _ => rfl) (ifn q3 (ifp v2 (ifp se (ifp c1 rfl)))))
    intro p m e1 e2 e3
    rw [e1] at c1
    exact nI_pos (by omega) c1
  by_cases c2 : a3 < 0
  · refine same (-1000000013) (cout (Or.inr ?_)) (mpre L (fun _ => rfl) (fun _ => rfl) (ifn q3 (ifp v2 (ifp se (ifn c1 (ifp c2 rfl))))))
    intro p m e1 e2 e3
    rw [e1] at c2
    exact nI_pos (by omega) c2
  by_cases c3 : a4 < 0
  · refine same (-1000000013) (cout (Or.inl ?_)) (mpre L (fun _ => rfl) (fun _ => rfl) (ifn q3 (ifp v2 (ifp se (ifn c1 (ifn c2 (ifp c3 rfl)))))))
    intro p m e1 e2 e3
    rw [e2] at c3
    exact nI_pos (by omega) c3
  obtain ⟨p, hp, rfl⟩ := nI_of c1
  obtain ⟨q, hq, rfl⟩ := nI_of c2
  obtain ⟨m, hm, rfl⟩ := nI_of c3
  by_cases d1 : ¬ p + m ≤ n
  · refine same (-1000000013) (cout (Or.inl ?_)) (mpre L (fun _ => rfl) (fun _ => rfl) (ifn q3 (ifp v2 (ifp se (ifn c1 (ifn c2 (ifn c3 (ifp ((sub_lt hn hm hp).mpr d1) rfl))))))))
    intro p' m' e1 e2 e3
    have z1 := (nI_eq hp (by omega)).mp e1
    have z2 := (nI_eq hm (by omega)).mp e2
    omega
  replace d1 := Classical.not_not.mp d1
  by_cases d2 : ¬ q + m ≤ n'
  · refine same (-1000000013) (cout (Or.inr ?_)) (mpre L (fun _ => rfl) (fun _ => rfl) (ifn q3 (ifp v2 (ifp se (ifn c1 (ifn c2 (ifn c3 (ifn (fun z => ((sub_lt hn hm hp).mp z) d1) (ifn (Int32.not_le.mpr ((sub_lt hn' hm hq).mpr d2)) rfl)))))))))
    intro p' m' e1 e2 e3
    have z1 := (nI_eq hq (by omega)).mp e1
    have z2 := (nI_eq hm (by omega)).mp e2
    omega
  replace d2 := Classical.not_not.mp d2
  obtain ⟨s1, k1, x1, w1⟩ := c_cpy L (p := p) (q := q) (m := m) hi hj (by omega) (by omega)
  have L1 := L.wx x1
  obtain ⟨s2, k2, x2, w2⟩ := m_cpy L1 (p := p) (q := q) (m := m) hi hj (by omega) (by omega)
  refine ⟨nI m, s1, s2, cpre (ifn q1 (ifn v1 (ifp se (bnd ((cV_ok (L.hk hi)).trans (nr_in (L.hk hi) g2 hn d1)) (ifp rfl (bnd ((cV_ok (L.hk hj)).trans (nr_in (L.hk hj) u2 hn' d2)) (ifp rfl (bnd (gR_ok (L.hk hi) (L.hr1 hi)) (bnd (gR_ok (L.hk hj) (L.hr1 hj)) (bnd k1 rfl)))))))))), mpre L1 (fun o => x1.2.2.2 _ _ (by omega)) (fun o => x1.2.2.2 _ _ (by omega)) (ifn q3 (ifp v2 (ifp se (ifn c1 (ifn c2 (ifn c3 (ifn (fun z => ((sub_lt hn hm hp).mp z) d1) (ifp (Int32.not_lt.mp (fun z => ((sub_lt hn' hm hq).mp z) d2)) k2)))))))), L1, ?_, x2.1.1.trans x1.1.1, x2.1.2.trans x1.1.2⟩
  clear k1 k2 cpre mpre cout same
  have X : Wx (fun a k => (a = B + 41 + 2 * j ∧ q ≤ k ∧ k < q + m) ∨ a = B + 87 ∨ (a = B + 82 ∧ 24 * j + q ≤ k ∧ k < 24 * j + q + m)) s s2 := (x1.mono (fun a k z => Or.inl z)).tr (x2.mono (fun a k z => Or.inr z))
  refine (h.she X ?_ ?_).inv
  · rintro a k (⟨z, -⟩ | z | ⟨z, -⟩)
    · exact ⟨41 + 2 * j, by omega, by omega⟩
    · exact ⟨87, z, by omega⟩
    · exact ⟨82, z, by omega⟩
  · intro u hu
    obtain ⟨⟨z1, z2⟩, z3, z4, z5⟩ := h.2.2.2.2.2.2.2.1 u hu
    have E := X.2.2.2
    refine ⟨⟨?_, ?_⟩, ?_, ?_, fun k hk => ?_⟩
    · rw [E _ _ (by omega), E _ _ (by omega)]; exact z1
    · rw [E _ _ (by omega), E _ _ (by omega)]; exact z2
    · rw [E _ _ (by omega)]; exact z3
    · rw [E _ _ (by omega)]; exact z4
    · by_cases c : u = j ∧ q ≤ k ∧ k < q + m
      · obtain ⟨rfl, ca, cb⟩ := c
        have f1 := w1 (k - q) (by omega)
        have f2 := w2 (k - q) (by omega)
        rw [show q + (k - q) = k by omega] at f1
        rw [show 24 * u + q + (k - q) = 24 * u + k by omega] at f2
        rw [x2.2.2.2 _ _ (by omega), f1, f2, x1.2.2.2 _ _ (by omega), g5 (p + (k - q)) (by omega), show 24 * i + (p + (k - q)) = 24 * i + p + (k - q) by omega]
      · rw [E _ _ (by omega), E _ _ (by omega)]; exact z5 k hk
