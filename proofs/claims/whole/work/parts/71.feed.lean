theorem b8_and (x : Int32) : x.toInt8.toInt32 &&& 255 = x &&& 255 := by
  apply Int32.toBitVec_inj.mp
  rw [Int32.toBitVec_and, Int32.toBitVec_and, Int8.toBitVec_toInt32, Int32.toBitVec_toInt8]
  apply BitVec.eq_of_getLsbD_eq
  intro i hi
  rw [BitVec.getLsbD_and, BitVec.getLsbD_and]
  have hm : ∀ i < 32, 8 ≤ i → (255 : Int32).toBitVec.getLsbD i = false := by decide
  rcases Nat.lt_or_ge i 8 with z | z
  · rw [BitVec.getLsbD_signExtend, BitVec.getLsbD_signExtend, if_pos z, if_pos hi]
    simp only [z, hi, decide_true, Bool.true_and]
  · rw [hm i hi z]; simp
theorem Lay.k35 {B : Nat} {s : hS} (L : Lay B s) : hK s (B + 35) = (3, 2) := L.k 35 3 2 rfl
theorem Lay.k36 {B : Nat} {s : hS} (L : Lay B s) : hK s (B + 36) = (8, 96) := L.k 36 8 96 rfl
theorem Lay.k72 {B : Nat} {s : hS} (L : Lay B s) : hK s (B + 72) = (10, 96) := L.k 72 10 96 rfl
theorem Lay.g4 {B : Nat} {s : hS} (L : Lay B s) : gR s B 6 4 = some (B + 35) := gR_ok L.kx (L.r 0 4 35 (by decide))
theorem Lay.g35 {B : Nat} {s : hS} (L : Lay B s) : gR s (B + 35) 3 0 = some (B + 36) := gR_ok L.k35 (L.r 35 0 36 (by decide))
theorem Lay.m6 {B : Nat} {s : hS} (L : Lay B s) : gR s (B + 66) 7 6 = some (B + 72) := L.gm 6 72 96 (by decide)
def shv (i : Nat) : Int32 := nI 24 - nI 8 * nI i
theorem shv_ok : ∀ i, i < 4 → shv i + (-8) = shv (i + 1) ∧ ¬ shv i < 0 ∧ shv i = nI (24 - 8 * i) := by decide
theorem c_add {B : Nat} {s : hS} (L : Lay B s) {n : Nat} (hn : n + 4 ≤ 96) (e : hI s (B + 35) 1 = nI n) (x : Int32) : ∃ s1, f_X3_add s (B + 35) x = some ((), s1) ∧ Wx (fun a k => (a = B + 35 ∧ k = 1) ∨ (a = B + 36 ∧ n ≤ k ∧ k < n + 4)) s s1 ∧ hI s1 (B + 35) 1 = nI (n + 4) ∧ ∀ q, q < 4 → hI s1 (B + 36) (n + q) &&& 255 = (x >>> (nI (24 - 8 * q) &&& 31)) &&& 255 := by
  refine jL_ex (F := f_X3_add_b3) (z := fun _ _ _ _ => none) (fun (k : Nat → Int32 → Int32 → hS → Option (Unit × hS)) i (t : hS) => k (B + 35) x (shv i) t) 4 (fun i t => Wx (fun a k => (a = B + 35 ∧ k = 1) ∨ (a = B + 36 ∧ n ≤ k ∧ k < n + 4)) s t ∧ hI t (B + 35) 1 = nI (n + i) ∧ ∀ q, q < i → hI t (B + 36) (n + q) &&& 255 = (x >>> (nI (24 - 8 * q) &&& 31)) &&& 255) (fun r => ∃ s1, r = some ((), s1) ∧ Wx (fun a k => (a = B + 35 ∧ k = 1) ∨ (a = B + 36 ∧ n ≤ k ∧ k < n + 4)) s s1 ∧ hI s1 (B + 35) 1 = nI (n + 4) ∧ ∀ q, q < 4 → hI s1 (B + 36) (n + q) &&& 255 = (x >>> (nI (24 - 8 * q) &&& 31)) &&& 255) (fun i hi t ht k => Or.inl ?_) (fun t ht k => ?_) jF 0 s (Nat.zero_le _) (jF_lt (by omega)) ⟨Wx.rf _ s, e, fun q hq => by omega⟩
  · obtain ⟨X, h1, h2⟩ := ht
    have Lt := L.wx X
    have sv := shv_ok i hi
    refine ⟨uI (uI t (B + 36) (n + i) (vp_nar .byte ((x >>> (shv i &&& 31))).toInt8.toInt32)) (B + 35) 1 (nI (n + (i + 1))), ⟨(X.u (Or.inr ⟨rfl, by omega, by omega⟩)).u (Or.inl ⟨rfl, rfl⟩), uI_eq _ _ _ _, fun q hq => ?_⟩, ?_⟩
    · rw [uI_ne (by omega)]
      by_cases c : q = i
      · subst c
        rw [uI_eq, pk_vb, b8_and, sv.2.2]
      · rw [uI_ne (by omega)]
        exact h2 q (by omega)
    · show f_X3_add_b3 k (B + 35) x (shv i) t = _
      unfold f_X3_add_b3
      refine ifn sv.2.1 (bnd (gI_ok Lt.k35) ?_)
      rw [h1]
      refine ifn (nI_ge (a := n + i) (b := 96) (by omega) (by decide)) (bnd Lt.g35 (bnd (gI_ok Lt.k35) ?_))
      rw [h1]
      refine bnd (sI_ok (n + i) Lt.k36 rfl (by omega) (by decide)) (bnd (gI_ok (Lt.u _ _ _).k35) ?_)
      rw [uI_ne (by omega), h1, nI_1]
      refine bnd (pI_ok (Lt.u _ _ _).k35) ?_
      rw [sv.1]
      rfl
  · obtain ⟨X, h1, h2⟩ := ht
    refine ⟨t, ?_, X, h1, h2⟩
    show f_X3_add_b3 k (B + 35) x (shv 4) t = _
    unfold f_X3_add_b3
    exact ifp (by decide) rfl
def fdv (a b c : Int32) (k : Nat) : Int32 := ((if k < 4 then a else if k < 8 then b else c) >>> (nI (24 - 8 * (k % 4)) &&& 31)) &&& 255
theorem fd_ix : ∀ k, k < 12 → (24 : Int32) - ((8 : Int32) * (nI k - nI k / (4 : Int32) * (4 : Int32))) = nI (24 - 8 * (k % 4)) := by decide
theorem m_feed {B : Nat} {s : hS} (L : Lay B s) {n : Nat} (hn : n + 12 ≤ 96) (e : hI s (B + 66) 7 = nI n) (a b c : Int32) : ∃ s2, jL f_X7_feed_b18 (fun _ _ _ _ _ _ => none) jF (B + 66) a b c 0 s = some (nI (n + 12), s2) ∧ Wx (fun a k => (a = B + 66 ∧ k = 7) ∨ (a = B + 72 ∧ n ≤ k ∧ k < n + 12)) s s2 ∧ hI s2 (B + 66) 7 = nI (n + 12) ∧ ∀ k, k < 12 → hI s2 (B + 72) (n + k) = fdv a b c k := by
  have l : jL f_X7_feed_b18 (fun _ _ _ _ _ _ => none) jF (B + 66) a b c 0 s = some (nI (n + 12), uI (wr s (B + 72) n (fdv a b c) 12) (B + 66) 7 (nI (n + 12))) := by
    refine jL_run (F := f_X7_feed_b18) (z := fun _ _ _ _ _ _ => none) (fun (k : Nat → Int32 → Int32 → Int32 → Int32 → hS → Option (Int32 × hS)) u => k (B + 66) a b c (nI u) (wr s (B + 72) n (fdv a b c) u)) 12 _ (fun u hu k => ?_) (fun k => ?_) jF 0 (Nat.zero_le _) (jF_lt (by omega))
    · have Lw := L.wr (B + 72) n (fdv a b c) u
      have tl : ∀ t0 : Int32, (if u < 4 then a else if u < 8 then b else c) = t0 → f_X7_feed_b47 k (B + 66) a b c (nI u) t0 (wr s (B + 72) n (fdv a b c) u) = k (B + 66) a b c (nI (u + 1)) (wr s (B + 72) n (fdv a b c) (u + 1)) := by
        intro t0 ht
        unfold f_X7_feed_b47
        refine bnd Lw.m6 (bnd (gI_ok Lw.km) (ifn (by decide) ?_))
        rw [wr_ne (by omega), e, nI_add]
        refine bnd (sI_ok (n + u) Lw.k72 rfl (by omega) (by decide)) ?_
        rw [nI_1, fd_ix u hu, ← ht]
        rfl
      show f_X7_feed_b18 k _ _ _ _ _ _ = _
      unfold f_X7_feed_b18
      refine ifn (nI_ge (a := u) (b := 12) hu (by decide)) ?_
      by_cases c1 : u < 4
      · exact ifn (nI_ge (a := u) (b := 4) c1 (by decide)) (tl a (if_pos c1))
      · refine ifp (nI_le (a := 4) (b := u) (by omega) (by omega)) ?_
        by_cases c2 : u < 8
        · exact ifn (nI_ge (a := u) (b := 8) c2 (by decide)) (tl b (by rw [if_neg c1, if_pos c2]))
        · exact ifp (nI_le (a := 8) (b := u) (by omega) (by omega)) (tl c (by rw [if_neg c1, if_neg c2]))
    · have Lw := L.wr (B + 72) n (fdv a b c) 12
      show f_X7_feed_b18 k _ _ _ _ _ _ = _
      unfold f_X7_feed_b18
      refine ifp (by decide) (bnd (gI_ok Lw.km) ?_)
      rw [wr_ne (by omega), e, show (12 : Int32) = nI 12 from rfl, nI_add]
      refine bnd (pI_ok Lw.km) (bnd (gI_ok (Lw.u _ _ _).km) ?_)
      rw [uI_eq]
  refine ⟨_, l, (Wx.wr (Wx.rf _ s) (fun k hk => Or.inr ⟨rfl, by omega, by omega⟩)).u (Or.inl ⟨rfl, rfl⟩), uI_eq _ _ _ _, fun k hk => ?_⟩
  rw [uI_ne (by omega), wr_in _ _ _ _ _ _ hk]
theorem stp_feed (B : Nat) (a0 a1 a2 : Int32) : StpC B (fun s => f_X6_feed s B a0 a1 a2) (fun s => f_X7_feed s (B + 66) a0 a1 a2) := by
  refine stp_set fun s nt τ h => ?_
  have L := h.1
  obtain ⟨n, w1, w2, w3, w4⟩ := h.2.2.2.2.2.2.1
  show ∃ v s1 s2, f_X6_feed s B a0 a1 a2 = some (v, s1) ∧ f_X7_feed s1 (B + 66) a0 a1 a2 = some (v, s2) ∧ Lay B s1 ∧ Inv B s2 ∧ s2.1 = s.1 ∧ s2.2.1 = s.2.1
  by_cases c : ¬ n + 12 ≤ 96
  · refine ⟨-1000000003, s, s, ?_, ?_, L, h.inv, rfl, rfl⟩
    · unfold f_X6_feed
      refine bnd L.g4 (bnd (gI_ok L.k35) ?_)
      rw [w2, show (12 : Int32) = nI 12 from rfl, nI_add]
      exact ifn (nI_ge (a := 96) (by omega) (by omega)) rfl
    · unfold f_X7_feed
      refine bnd (gI_ok L.km) ?_
      rw [w3, show (12 : Int32) = nI 12 from rfl, nI_add]
      exact ifn (nI_ge (a := 96) (by omega) (by omega)) rfl
  replace c := Classical.not_not.mp c
  obtain ⟨p1, k1, x1, v1, u1⟩ := c_add L (by omega) w2 a0
  have L1 := L.wx x1
  obtain ⟨p2, k2, x2, v2, u2⟩ := c_add L1 (by omega) v1 a1
  have L2 := L1.wx x2
  obtain ⟨p3, k3, x3, v3, u3⟩ := c_add L2 (by omega) v2 a2
  have L3 := L2.wx x3
  obtain ⟨s2, k4, x4, v4, u4⟩ := m_feed L3 c (by rw [x3.2.2.2 _ _ (by omega), x2.2.2.2 _ _ (by omega), x1.2.2.2 _ _ (by omega), w3]) a0 a1 a2
  have X : Wx (fun a k => (a = B + 35 ∧ k = 1) ∨ (a = B + 36 ∧ n ≤ k) ∨ (a = B + 66 ∧ k = 7) ∨ (a = B + 72 ∧ n ≤ k)) s s2 := (((x1.mono (fun a k z => by omega)).tr (x2.mono (fun a k z => by omega))).tr (x3.mono (fun a k z => by omega))).tr (x4.mono (fun a k z => by omega))
  refine ⟨nI (n + 12), p3, s2, ?_, ?_, L3, ?_, X.1.1, X.1.2⟩
  · unfold f_X6_feed
    refine bnd L.g4 (bnd (gI_ok L.k35) ?_)
    rw [w2, show (12 : Int32) = nI 12 from rfl, nI_add]
    refine ifp (nI_le (b := 96) (by omega) (by decide)) (bnd L.g4 (bnd ((cV_ok L.k35).trans k1) (bnd L1.g4 (bnd ((cV_ok L1.k35).trans k2) (bnd L2.g4 (bnd ((cV_ok L2.k35).trans k3) (bnd L3.g4 (bnd (gI_ok L3.k35) ?_))))))))
    rw [v3]
  · unfold f_X7_feed
    refine bnd (gI_ok L3.km) ?_
    rw [x3.2.2.2 _ _ (by omega), x2.2.2.2 _ _ (by omega), x1.2.2.2 _ _ (by omega), w3, show (12 : Int32) = nI 12 from rfl, nI_add]
    exact ifp (nI_le (b := 96) (by omega) (by decide)) k4
  · clear k1 k2 k3 k4
    refine (h.core X ?_ ?_ (h.2.2.2.2.2.2.2.1.wx X ?_) (h.2.2.2.2.2.2.2.2.1.wx X ?_) (h.2.2.2.2.2.2.2.2.2.1.wx X ?_) (h.2.2.2.2.2.2.2.2.2.2.wx X ?_)).inv
    · rintro a k (⟨q, q2⟩ | ⟨q, q2⟩ | ⟨q, q2⟩ | ⟨q, q2⟩)
      · exact Or.inr (Or.inr ⟨35, by omega, q, by omega⟩)
      · exact Or.inr (Or.inr ⟨36, by omega, q, by omega⟩)
      · exact Or.inr (Or.inl ⟨q, by omega⟩)
      · exact Or.inr (Or.inr ⟨72, by omega, q, by omega⟩)
    · refine ⟨n + 12, c, ?_, v4, fun i hi => ?_⟩
      · rw [x4.2.2.2 _ _ (by omega), v3]
      · by_cases ci : i < n
        · obtain ⟨v, g1, g2, g3⟩ := w4 i ci
          exact ⟨v, g1, by rw [X.2.2.2 _ _ (by omega)]; exact g2, by rw [X.2.2.2 _ _ (by omega)]; exact g3⟩
        · have key : ∀ x : Int32, ∀ q, q < 4 → hI s2 (B + 36) i &&& 255 = (x >>> (nI (24 - 8 * q) &&& 31)) &&& 255 → fdv a0 a1 a2 (i - n) = (x >>> (nI (24 - 8 * q) &&& 31)) &&& 255 → ∃ v : Nat, v < 256 ∧ hI s2 (B + 36) i &&& 255 = nI v ∧ hI s2 (B + 72) i = nI v := by
            intro x q hq e1 e2
            obtain ⟨v, hv, ev⟩ := pk_andE (x >>> (nI (24 - 8 * q) &&& 31)) (m := 255) 8 (by decide)
            have f := u4 (i - n) (by omega)
            rw [show n + (i - n) = i by omega, e2] at f
            exact ⟨v, hv, e1.trans ev, f.trans ev⟩
          rcases Nat.lt_or_ge (i - n) 4 with d | d
          · have f := u1 (i - n) d
            rw [show n + (i - n) = i by omega] at f
            refine key a0 (i - n) d ?_ ?_
            · rw [x4.2.2.2 _ _ (by omega), x3.2.2.2 _ _ (by omega), x2.2.2.2 _ _ (by omega)]; exact f
            · unfold fdv
              rw [if_pos d, show (i - n) % 4 = i - n by omega]
          · rcases Nat.lt_or_ge (i - n) 8 with d2 | d2
            · have f := u2 (i - n - 4) (by omega)
              rw [show n + 4 + (i - n - 4) = i by omega] at f
              refine key a1 (i - n - 4) (by omega) ?_ ?_
              · rw [x4.2.2.2 _ _ (by omega), x3.2.2.2 _ _ (by omega)]; exact f
              · unfold fdv
                rw [if_neg (by omega), if_pos d2, show (i - n) % 4 = i - n - 4 by omega]
            · have f := u3 (i - n - 8) (by omega)
              rw [show n + 4 + 4 + (i - n - 8) = i by omega] at f
              refine key a2 (i - n - 8) (by omega) ?_ ?_
              · rw [x4.2.2.2 _ _ (by omega)]; exact f
              · unfold fdv
                rw [if_neg (by omega), if_neg (by omega), show (i - n) % 4 = i - n - 8 by omega]
    · intro i k hi; omega
    · intro i k hi; omega
    · exact ⟨by omega, by omega, fun k => by omega, fun k => by omega⟩
    · exact ⟨fun k => by omega, fun k => by omega⟩
