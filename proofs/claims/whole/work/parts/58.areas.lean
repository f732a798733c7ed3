/-- t is s but for the ints that W names -/
def Wx (W : Nat → Nat → Prop) (s t : hS) : Prop := (t.1 = s.1 ∧ t.2.1 = s.2.1) ∧ (∀ a, hK t a = hK s a) ∧ (∀ a k, hR t a k = hR s a k) ∧ ∀ a k, ¬ W a k → hI t a k = hI s a k
theorem Wx.rf (W : Nat → Nat → Prop) (s : hS) : Wx W s s := ⟨⟨rfl, rfl⟩, fun _ => rfl, fun _ _ => rfl, fun _ _ _ => rfl⟩
theorem Wx.u {W : Nat → Nat → Prop} {s t : hS} (h : Wx W s t) {a k : Nat} {v : Int32} (hw : W a k) : Wx W s (uI t a k v) := ⟨h.1, h.2.1, h.2.2.1, fun b j hb => by
  rw [uI_ne (fun e => hb (by rw [e.1, e.2]; exact hw))]
  exact h.2.2.2 b j hb⟩
section AR
variable {W : Nat → Nat → Prop} {B nt : Nat} {s t : hS}
theorem Lay.wx (h : Lay B s) (hx : Wx W s t) : Lay B t := ⟨fun i c hi => (hx.2.1 _).trans (h.1 i c hi), fun e he => (hx.2.2.1 _ _).trans (h.2.1 e he), fun o ho i hi b hb => by rw [hx.2.1, hx.1.1]; exact h.2.2 o ho i hi b ((hx.2.2.1 _ _).symm.trans hb)⟩
theorem InTape.wx (h : InTape B s) (hx : Wx W s t) (hd : ¬ W (B + 35) 1 ∧ ¬ W (B + 66) 7 ∧ (∀ k, ¬ W (B + 36) k) ∧ ∀ k, ¬ W (B + 72) k) : InTape B t := by
  obtain ⟨n, h1, h2, h3, h4⟩ := h
  have e := hx.2.2.2
  refine ⟨n, h1, (e _ _ hd.1).trans h2, (e _ _ hd.2.1).trans h3, fun i hi => ?_⟩
  obtain ⟨v, g1, g2, g3⟩ := h4 i hi
  exact ⟨v, g1, by rw [e _ _ (hd.2.2.1 i)]; exact g2, (e _ _ (hd.2.2.2 i)).trans g3⟩
theorem InShe.wx (h : InShe B s) (hx : Wx W s t) (hd : ∀ i k, (40 ≤ i ∧ i < 48 ∨ 80 ≤ i ∧ i < 83) → ¬ W (B + i) k) : InShe B t := by
  intro i hi
  have e := hx.2.2.2
  have e1 : ∀ k, hI t (B + 40 + 2 * i) k = hI s (B + 40 + 2 * i) k := fun k => e _ _ (by rw [Nat.add_assoc]; exact hd _ _ (by omega))
  have e2 : ∀ k, hI t (B + 41 + 2 * i) k = hI s (B + 41 + 2 * i) k := fun k => e _ _ (by rw [Nat.add_assoc]; exact hd _ _ (by omega))
  have e3 : ∀ k, hI t (B + 80) k = hI s (B + 80) k := fun k => e _ _ (hd _ _ (by omega))
  have e4 : ∀ k, hI t (B + 81) k = hI s (B + 81) k := fun k => e _ _ (hd _ _ (by omega))
  have e5 : ∀ k, hI t (B + 82) k = hI s (B + 82) k := fun k => e _ _ (hd _ _ (by omega))
  obtain ⟨⟨g1, g2⟩, g3, g4, g5⟩ := h i hi
  exact ⟨⟨by rw [e1, e3]; exact g1, by rw [e1, e4]; exact g2⟩, by rw [e3]; exact g3, by rw [e4]; exact g4, fun k hk => by rw [e2, e5]; exact g5 k hk⟩
theorem InSlo.wx (h : InSlo B s) (hx : Wx W s t) (hd : ∀ i k, (49 ≤ i ∧ i < 64 ∨ 83 ≤ i ∧ i < 87) → ¬ W (B + i) k) : InSlo B t := by
  intro j hj
  have e := hx.2.2.2
  have e1 : ∀ k, hI t (B + 49 + 3 * j) k = hI s (B + 49 + 3 * j) k := fun k => e _ _ (by rw [Nat.add_assoc]; exact hd _ _ (by omega))
  have e2 : ∀ k, hI t (B + 50 + 3 * j) k = hI s (B + 50 + 3 * j) k := fun k => e _ _ (by rw [Nat.add_assoc]; exact hd _ _ (by omega))
  have e3 : ∀ k, hI t (B + 51 + 3 * j) k = hI s (B + 51 + 3 * j) k := fun k => e _ _ (by rw [Nat.add_assoc]; exact hd _ _ (by omega))
  have e4 : ∀ k, hI t (B + 83) k = hI s (B + 83) k := fun k => e _ _ (hd _ _ (by omega))
  have e5 : ∀ k, hI t (B + 84) k = hI s (B + 84) k := fun k => e _ _ (hd _ _ (by omega))
  have e6 : ∀ k, hI t (B + 85) k = hI s (B + 85) k := fun k => e _ _ (hd _ _ (by omega))
  have e7 : ∀ k, hI t (B + 86) k = hI s (B + 86) k := fun k => e _ _ (hd _ _ (by omega))
  obtain ⟨q, g1, g2, g3, g4, g5, g6⟩ := h j hj
  refine ⟨q, g1, (e1 _).trans g2, (e4 _).trans g3, fun hq => ?_, fun hq => ?_, fun hq => ?_⟩
  · obtain ⟨k, p, r, f1, f2, f3, f4, f5, f6, f7, f8⟩ := g4 hq
    exact ⟨k, p, r, f1, f2, f3, (e1 _).trans f4, (e1 _).trans f5, (e1 _).trans f6, (e5 _).trans f7, (e6 _).trans f8⟩
  · obtain ⟨⟨n, f1, f2, f3⟩, f4⟩ := g5 hq
    exact ⟨⟨n, f1, (e2 _).trans f2, (e5 _).trans f3⟩, fun k hk => by rw [e3, e7]; exact f4 k hk⟩
  · rw [e1, e5]; exact g6 hq
theorem InWai.wx (h : InWai B s) (hx : Wx W s t) (hd : ¬ W B 9 ∧ ¬ W (B + 66) 33 ∧ (∀ k, ¬ W (B + 64) k) ∧ ∀ k, ¬ W (B + 88) k) : InWai B t := by
  obtain ⟨n, h1, h2, h3, h4⟩ := h
  have e := hx.2.2.2
  exact ⟨n, h1, (e _ _ hd.1).trans h2, (e _ _ hd.2.1).trans h3, fun i hi => by rw [e _ _ (hd.2.2.1 i), e _ _ (hd.2.2.2 i)]; exact h4 i hi⟩
theorem InKey.wx (h : InKey B s) (hx : Wx W s t) (hd : (∀ k, ¬ W (B + 73) k) ∧ ∀ k, ¬ W (B + 74) k) : InKey B t := ⟨fun i hi => (hx.2.2.2 _ _ (hd.1 i)).trans (h.1 i hi), fun i hi => (hx.2.2.2 _ _ (hd.2 i)).trans (h.2 i hi)⟩
theorem TxC.wx {a : Nat} {x : Nat × Int32 × Nat × (Nat → Int32)} (h : TxC s a x) (hx : Wx W s t) (hd : ∀ k, ¬ W a k ∧ ¬ W (a + 1) k) : TxC t a x := by
  obtain ⟨⟨a1, a2, a3⟩, ⟨b1, b2⟩, ⟨c1, c2⟩, d⟩ := h
  exact ⟨⟨(hx.2.1 _).trans a1, (hx.2.1 _).trans a2, (hx.2.1 _).trans a3⟩, ⟨(hx.2.2.1 _ _).trans b1, (hx.2.2.1 _ _).trans b2⟩, ⟨(hx.2.2.2 _ _ (hd _).2).trans c1, (hx.2.2.2 _ _ (hd _).2).trans c2⟩, fun k hk => (hx.2.2.2 _ _ (hd _).1).trans (d k hk)⟩
theorem TwC.wx {T : Nat} {τ : Tw} (h : TwC B s nt T τ) (hx : Wx W s t) (hd : (∀ r k, r < 10 → ¬ W (T + r) k) ∧ ∀ j k, ¬ W (B + 89 + 3 * j) k ∧ ¬ W (B + 89 + 3 * j + 1) k) : TwC B t nt T τ := by
  refine ⟨TwN.keep (B := B) h.1 (fun r hr k => hx.2.2.2 _ _ (hd.1 r k hr)), fun i hi => ?_⟩
  obtain ⟨j, hj, hr, hc⟩ := h.2 i hi
  exact ⟨j, hj, (hx.2.2.1 _ _).trans hr, hc.wx hx (hd.2 j)⟩
theorem InImg.wx (h : InImg B s nt) (hx : Wx W s t) (hd : (¬ W B 3 ∧ ¬ W (B + 66) 3) ∧ (∀ k, ¬ W (B + 68) k) ∧ (∀ r k, r < 10 → ¬ W (B + 12 + r) k) ∧ ∀ j k, ¬ W (B + 89 + 3 * j) k ∧ ¬ W (B + 89 + 3 * j + 1) k) : InImg B t nt := by
  have e := hx.2.2.2
  rcases h with ⟨h1, h2⟩ | ⟨h1, h2, ι, h3, h4, h5⟩
  · exact Or.inl ⟨(e _ _ hd.1.1).trans h1, (e _ _ hd.1.2).trans h2⟩
  · refine Or.inr ⟨(e _ _ hd.1.1).trans h1, (e _ _ hd.1.2).trans h2, ι, h3, h4.wx hx ⟨hd.2.2.1, hd.2.2.2⟩, ?_⟩
    have e3 : hI t (B + 68) = hI s (B + 68) := funext fun k => e _ _ (hd.2.1 k)
    rw [e3]
    exact h5
/-- the towns, the image stay -/
theorem InvT.core {τ : Tw} (h : InvT B s nt τ) (hx : Wx W s t) (hd : ∀ a k, W a k → (a = B ∧ k ≠ 3) ∨ (a = B + 66 ∧ k ≠ 3) ∨ ∃ i, i < 89 ∧ a = B + i ∧ (23 ≤ i ∧ i < 66 ∨ 69 ≤ i)) (hT : InTape B t) (hSh : InShe B t) (hSl : InSlo B t) (hWa : InWai B t) (hKe : InKey B t) : InvT B t nt τ := by
  have d : ∀ a k, (∀ i, i < 89 → a = B + i → ¬ (23 ≤ i ∧ i < 66 ∨ 69 ≤ i)) → (a = B → k = 3) → (a = B + 66 → k = 3) → ¬ W a k := by
    intro a k h1 h2 h3 hw
    rcases hd a k hw with ⟨q1, q2⟩ | ⟨q1, q2⟩ | ⟨i, q1, q2, q3⟩
    · exact q2 (h2 q1)
    · exact q2 (h3 q1)
    · exact h1 i q1 q2 q3
  have dt : ∀ j k, ¬ W (B + 89 + 3 * j) k ∧ ¬ W (B + 89 + 3 * j + 1) k := fun j k => ⟨d _ _ (fun i h1 h2 => by omega) (fun h => by omega) (fun h => by omega), d _ _ (fun i h1 h2 => by omega) (fun h => by omega) (fun h => by omega)⟩
  obtain ⟨g1, g2, g3, g4, g5, g6, -⟩ := h
  refine ⟨g1.wx hx, by rw [hx.1.1]; exact g2, g3, g4.wx hx ⟨fun r k hr => d _ _ (fun i h1 h2 => by omega) (fun h => by omega) (fun h => by omega), dt⟩, ?_, g6.wx hx ⟨⟨d _ _ (fun i h1 h2 => by omega) (fun _ => rfl) (fun h => by omega), d _ _ (fun i h1 h2 => by omega) (fun h => by omega) (fun _ => rfl)⟩, fun k => d _ _ (fun i h1 h2 => by omega) (fun h => by omega) (fun h => by omega), fun r k hr => d _ _ (fun i h1 h2 => by omega) (fun h => by omega) (fun h => by omega), dt⟩, hT, hSh, hSl, hWa, hKe⟩
  have e3 : hI t (B + 67) = hI s (B + 67) := funext fun k => hx.2.2.2 _ _ (d _ _ (fun i h1 h2 => by omega) (fun h => by omega) (fun h => by omega))
  rw [e3]
  exact g5
end AR
theorem stp_tell (B : Nat) (a0 : Int32) : StpC B (fun s => f_X6_tell s B a0) (fun s => f_X7_tell s (B + 66) a0) := by
  refine stp_set fun s nt τ h => ?_
  have L := h.1
  obtain ⟨n, w1, w2, w3, w4⟩ := h.2.2.2.2.2.2.2.2.2.1
  have k64 : hK s (B + 64) = (10, 60) := L.k 64 10 60 rfl
  have k88 : hK s (B + 88) = (10, 60) := L.k 88 10 60 rfl
  have g8 : gR s B 6 8 = some (B + 64) := gR_ok L.kx (L.r 0 8 64 (by decide))
  have g32 : gR s (B + 66) 7 32 = some (B + 88) := gR_ok L.km (L.r 66 32 88 (by decide))
  by_cases hn : n = 60
  · subst hn
    refine ⟨-1000000003, s, s, ?_, ?_, L, h.inv, rfl, rfl⟩
    · show f_X6_tell s B a0 = _
      unfold f_X6_tell
      refine bnd (gI_ok L.kx) ?_
      rw [w2]
      exact ifn (by decide) rfl
    · show f_X7_tell s (B + 66) a0 = _
      unfold f_X7_tell
      refine bnd (gI_ok L.km) ?_
      rw [w3]
      exact ifp rfl rfl
  · have hn6 : n < 60 := by omega
    refine ⟨nI (n + 1), uI (uI s (B + 64) n a0) B 9 (nI (n + 1)), uI (uI (uI (uI s (B + 64) n a0) B 9 (nI (n + 1))) (B + 88) n a0) (B + 66) 33 (nI (n + 1)), ?_, ?_, (L.u _ _ _).u _ _ _, ?_, rfl, rfl⟩
    · show f_X6_tell s B a0 = _
      unfold f_X6_tell
      refine bnd (gI_ok L.kx) ?_
      rw [w2]
      refine ifp (nI_lt (a := n) (b := 60) hn6 (by decide)) (bnd g8 (bnd (gI_ok L.kx) ?_))
      rw [w2]
      refine bnd (sI_ok n k64 rfl hn6 (by decide)) (bnd (gI_ok (L.u _ _ _).kx) ?_)
      rw [uI_ne (by omega), w2]
      refine bnd (pI_ok (L.u _ _ _).kx) (bnd (gI_ok ((L.u _ _ _).u _ _ _).kx) ?_)
      rw [uI_eq, nI_1]
    · show f_X7_tell (uI (uI s (B + 64) n a0) B 9 (nI (n + 1))) (B + 66) a0 = _
      have L2 : Lay B (uI (uI s (B + 64) n a0) B 9 (nI (n + 1))) := (L.u _ _ _).u _ _ _
      unfold f_X7_tell
      refine bnd (gI_ok L2.km) ?_
      rw [uI_ne (by omega), uI_ne (by omega), w3]
      refine ifn (fun e => hn ((nI_eq (by omega) (by decide)).mp e)) (bnd g32 (bnd (gI_ok L2.km) ?_))
      rw [uI_ne (by omega), uI_ne (by omega), w3]
      refine bnd (sI_ok n k88 rfl hn6 (by decide)) (bnd (gI_ok (L2.u _ _ _).km) ?_)
      rw [uI_ne (by omega), uI_ne (by omega), uI_ne (by omega), w3]
      refine bnd (pI_ok (L2.u _ _ _).km) (bnd (gI_ok ((L2.u _ _ _).u _ _ _).km) ?_)
      rw [uI_eq, nI_1]
    · have hx : Wx (fun a k => a = B + 64 ∨ (a = B ∧ k = 9) ∨ a = B + 88 ∨ (a = B + 66 ∧ k = 33)) s (uI (uI (uI (uI s (B + 64) n a0) B 9 (nI (n + 1))) (B + 88) n a0) (B + 66) 33 (nI (n + 1))) := ((((Wx.rf _ s).u (Or.inl rfl)).u (Or.inr (Or.inl ⟨rfl, rfl⟩))).u (Or.inr (Or.inr (Or.inl rfl)))).u (Or.inr (Or.inr (Or.inr ⟨rfl, rfl⟩)))
      refine (h.core hx ?_ (h.2.2.2.2.2.2.1.wx hx ?_) (h.2.2.2.2.2.2.2.1.wx hx ?_) (h.2.2.2.2.2.2.2.2.1.wx hx ?_) ?_ (h.2.2.2.2.2.2.2.2.2.2.wx hx ?_)).inv
      · rintro a k (q | ⟨q, q2⟩ | q | ⟨q, q2⟩)
        · exact Or.inr (Or.inr ⟨64, by omega, q, by omega⟩)
        · exact Or.inl ⟨q, by omega⟩
        · exact Or.inr (Or.inr ⟨88, by omega, q, by omega⟩)
        · exact Or.inr (Or.inl ⟨q, by omega⟩)
      · exact ⟨by omega, by omega, fun k => by omega, fun k => by omega⟩
      · intro i k hi; omega
      · intro i k hi; omega
      · refine ⟨n + 1, by omega, ?_, uI_eq _ _ _ _, fun i hi => ?_⟩
        · rw [uI_ne (by omega), uI_ne (by omega), uI_eq]
        · by_cases hin : i = n
          · subst hin
            rw [uI_ne (by omega), uI_ne (by omega), uI_ne (by omega), uI_eq, uI_ne (by omega), uI_eq]
          · rw [uI_ne (by omega), uI_ne (by omega), uI_ne (by omega), uI_ne (by omega), uI_ne (by omega), uI_ne (by omega), uI_ne (by omega), uI_ne (by omega)]
            exact w4 i (by omega)
      · exact ⟨fun k => by omega, fun k => by omega⟩
