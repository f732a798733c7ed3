def its (s t : hS) : hS := (s.1, s.2.1, s.2.2.1, t.2.2.2.1, s.2.2.2.2)
def WT (B : Nat) (a k : Nat) : Prop := a = B + 34 ∨ a = B + 37 ∨ a = B + 38 ∨ (a = B + 35 ∧ k = 1) ∨ (a = B + 66 ∧ 7 ≤ k ∧ k ≤ 20) ∨ a = B + 75 ∨ a = B + 76 ∨ a = B + 77
theorem InvT.she0 {B nt : Nat} {s t : hS} {τ : Tw} (h : InvT B s nt τ) {W : Nat → Nat → Prop} (hi : ∀ a k, ¬ W a k → hI t a k = hI s a k) (hW : ∀ a k, W a k → WT B a k ∨ (B + 1 ≤ a ∧ a < B + 12) ∨ a = B + 67 ∨ B + 89 ≤ a) : InShe B t ∧ InSlo B t ∧ InWai B t ∧ InKey B t := by
  have hw : Wx W s (its s t) := ⟨⟨rfl, rfl⟩, fun _ => rfl, fun _ _ => rfl, hi⟩
  obtain ⟨-, -, -, -, -, -, -, g8, g9, g10, g11⟩ := h
  have no : ∀ i k, i < 89 → ¬ (WT B (B + i) k) → ¬ (1 ≤ i ∧ i < 12) → i ≠ 67 → ¬ W (B + i) k := by
    intro i k h1 h2 h3 h4 h5
    rcases hW _ _ h5 with z | z | z | z
    · exact h2 z
    · omega
    · omega
    · omega
  have a8 : InShe B (its s t) := g8.wx hw (fun i k hi => no i k (by omega) (by unfold WT; omega) (by omega) (by omega))
  have a9 : InSlo B (its s t) := g9.wx hw (fun i k hi => no i k (by omega) (by unfold WT; omega) (by omega) (by omega))
  have a10 : InWai B (its s t) := g10.wx hw ⟨no 0 9 (by omega) (by unfold WT; omega) (by omega) (by omega), no 66 33 (by omega) (by unfold WT; omega) (by omega) (by omega), fun k => no 64 k (by omega) (by unfold WT; omega) (by omega) (by omega), fun k => no 88 k (by omega) (by unfold WT; omega) (by omega) (by omega)⟩
  have a11 : InKey B (its s t) := g11.wx hw ⟨fun k => no 73 k (by omega) (by unfold WT; omega) (by omega) (by omega), fun k => no 74 k (by omega) (by unfold WT; omega) (by omega) (by omega)⟩
  exact ⟨a8, a9, a10, a11⟩
theorem stp_text (B : Nat) : StpC B (fun s => f_X6_text s B) (fun s => f_X7_text s (B + 66)) := by
  intro s hs
  obtain ⟨nt, τ, h⟩ := hs.t
  have L := h.1
  have hC := h.2.2.2.1
  have hM := h.2.2.2.2.1
  have hok := h.2.2.1
  have hs1 : s.1 = B + 89 + 3 * nt := h.2.1
  have b14 := hok.1.2.2.2.2.1
  obtain ⟨n, hn, w1, w2, w3⟩ := h.2.2.2.2.2.2.1
  obtain ⟨V, hV⟩ : ∃ V : Nat → Nat, V = fun i => (hI s (B + 72) i).toNatClampNeg := ⟨_, rfl⟩
  have vv : ∀ i, i < n → V i < 256 ∧ hI s (B + 36) i &&& 255 = nI (V i) ∧ hI s (B + 72) i = nI (V i) := by
    intro i hi
    obtain ⟨v, g1, g2, g3⟩ := w3 i hi
    have : V i = v := by rw [hV]; show (hI s (B + 72) i).toNatClampNeg = v; rw [g3]; exact nI_clamp (by omega)
    rw [this]
    exact ⟨g1, g2, g3⟩
  have tc : TpC B s V n := ⟨L, hn, w1, fun i hi => ⟨(vv i hi).1, (vv i hi).2.1⟩⟩
  have g5 : gR s B 6 5 = some (B + 34) := gR_ok L.kx (L.r 0 5 34 (by decide))
  obtain ⟨s', x1, y⟩ := c_find tc
  have L' := L.sx x1
  have L4 := L'.u (B + 35) 1 0
  -- what the class has moved so far
  have e4 : ∀ a k, ¬ WT B a k → hI (uI s' (B + 35) 1 0) a k = hI s a k := by
    intro a k hw
    unfold WT at hw
    rw [uI_ne (by omega)]
    exact x1.2.2.2 a (by unfold RP; omega) k
  have S4 : Sx (fun a => RP B a ∨ a = B + 35) s (uI s' (B + 35) 1 0) := (x1.mono (fun a ha => Or.inl ha)).tr (Sx.u _ _ _ _ (Or.inr rfl))
  -- a step that leaves the towns
  have same : ∀ v u, f_X6_text s B = some (v, uI s' (B + 35) 1 0) → Fx B (uI s' (B + 35) 1 0) u → f_X7_text (uI s' (B + 35) 1 0) (B + 66) = some (v, uI u (B + 66) 7 0) → ∃ (v : Int32) (s1 s2 : hS), f_X6_text s B = some (v, s1) ∧ (hK s1 (B + 66)).1 = 7 ∧ f_X7_text s1 (B + 66) = some (v, s2) ∧ Inv B s2 ∧ s2.1 ≤ s.1 + 3 ∧ s2.2.1 ≤ s.2.1 + 300 := by
    intro v u h6 fu h7
    have ei : ∀ a k, ¬ WT B a k → hI (uI u (B + 66) 7 0) a k = hI s a k := by
      intro a k hw
      have hw' := hw
      unfold WT at hw
      rw [uI_ne (by omega)]
      by_cases c : a = B + 66
      · subst c
        rw [fu.2 k (by omega)]
        exact e4 _ k hw'
      · rw [fu.1.2.2.2 a (by omega)]
        exact e4 a k hw'
    have wx : Wx (WT B) s (uI u (B + 66) 7 0) := ⟨⟨fu.1.1.1.trans S4.1.1, fu.1.1.2.trans S4.1.2⟩, fun a => (fu.1.2.1 a).trans (S4.2.1 a), fun a k => (fu.1.2.2.1 a k).trans (S4.2.2.1 a k), ei⟩
    have oth := h.she0 (t := uI u (B + 66) 7 0) ei (fun a k z => Or.inl z)
    refine ⟨v, _, _, h6, by rw [L4.km], h7, (h.core wx ?_ ?_ oth.1 oth.2.1 oth.2.2.1 oth.2.2.2).inv, by rw [wx.1.1]; omega, by rw [wx.1.2]; omega⟩
    · intro a k z
      unfold WT at z
      rcases z with z | z | z | z | z | z | z | z
      · exact Or.inr (Or.inr ⟨34, by omega, z, by omega⟩)
      · exact Or.inr (Or.inr ⟨37, by omega, z, by omega⟩)
      · exact Or.inr (Or.inr ⟨38, by omega, z, by omega⟩)
      · exact Or.inr (Or.inr ⟨35, by omega, z.1, by omega⟩)
      · exact Or.inr (Or.inl ⟨z.1, by omega⟩)
      · exact Or.inr (Or.inr ⟨75, by omega, z, by omega⟩)
      · exact Or.inr (Or.inr ⟨76, by omega, z, by omega⟩)
      · exact Or.inr (Or.inr ⟨77, by omega, z, by omega⟩)
    · refine ⟨0, by omega, ?_, uI_eq _ _ _ _, fun i hi => absurd hi (Nat.not_lt_zero i)⟩
      rw [uI_ne (by omega), fu.1.2.2.2 _ (by omega), uI_eq]
      rfl
  have tm : ∀ t, Lay B t → (∀ k, hI t (B + 66) k = hI s (B + 66) k) → (∀ k, hI t (B + 72) k = hI s (B + 72) k) → TpM B t V n := fun t Lt q1 q2 => ⟨Lt, hn, (q1 7).trans w2, fun i hi => ⟨(vv i hi).1, (q2 i).trans (vv i hi).2.2⟩⟩
  have f66 : ∀ k, hI (uI s' (B + 35) 1 0) (B + 66) k = hI s (B + 66) k := fun k => by rw [uI_ne (by omega)]; exact x1.2.2.2 _ (by unfold RP; omega) k
  have f72 : ∀ k, hI (uI s' (B + 35) 1 0) (B + 72) k = hI s (B + 72) k := fun k => e4 _ _ (by unfold WT; omega)
  have K4 : InKey B (uI s' (B + 35) 1 0) := ⟨fun i hi => (e4 _ _ (by unfold WT; omega)).trans (h.2.2.2.2.2.2.2.2.2.2.1 i hi), fun i hi => (e4 _ _ (by unfold WT; omega)).trans (h.2.2.2.2.2.2.2.2.2.2.2 i hi)⟩
  have now4 : ∀ k, hI (uI s' (B + 35) 1 0) (B + 67) k = hI s (B + 67) k := fun k => e4 _ _ (by unfold WT; omega)
  rcases y with ⟨q, qb, y1, y2⟩ | ⟨key, f, c, a, y1, y2, c2, cf, c5, c6⟩
  · -- a fault
    obtain ⟨u, fu, z⟩ := m_text (tm _ L4 f66 f72) K4
    rcases z with ⟨q', z1, z2, z3⟩ | ⟨key, f, c, a, z1, -⟩
    · rw [y1] at z1
      cases z1
      have Lu := L4.sx fu.1
      refine same ((-100 : Int32) - nI q) u ?_ fu ?_
      · show f_X6_text s B = _
        unfold f_X6_text
        exact bnd g5 (bnd ((cV_ok L.k34).trans y2) (bnd L'.g4 (bnd (pI_ok L'.k35) (ifn (nI_pos (by omega)) rfl))))
      · rw [z3]
        unfold f_X7_text_b33
        refine bnd (pI_ok Lu.km) (ifp rfl (bnd (gI_ok (Lu.u _ _ _).km) ?_))
        rw [uI_ne (by omega), z2]
    · rw [y1] at z1
      cases z1
  · -- a text
    have ro : TxOk (key, nI a, c, f) := by
      unfold txtM at y1
      cases ek : keyM V (bl V n 0) (wdn V n (bl V n 0)) with
      | none => rw [ek] at y1; cases y1
      | some k =>
        rw [ek] at y1
        have y1' : (if wdn V n (bl V n 0) < n ∧ isD (V (wdn V n (bl V n 0))) = true then (.inl (wdn V n (bl V n 0)) : Nat ⊕ (Nat × (Nat → Int32) × Nat × Nat)) else (match runM V n k (n + 1) (wdn V n (bl V n 0)) m0 with | .inl q => .inl q | .inr y => .inr (k, y))) = .inr (key, f, c, a) := y1
        by_cases cc : wdn V n (bl V n 0) < n ∧ isD (V (wdn V n (bl V n 0))) = true
        · rw [if_pos cc] at y1'
          cases y1'
        · rw [if_neg cc] at y1'
          cases er : runM V n k (n + 1) (wdn V n (bl V n 0)) m0 with
          | inl q => rw [er] at y1'; cases y1'
          | inr yy =>
            rw [er] at y1'
            obtain ⟨f', c', a'⟩ := yy
            cases y1'
            have wb := wdn_b (V := V) (bl_b (V := V) (Nat.zero_le n)).2
            have r := run_ok (n + 1) _ _ _ _ _ (m0_i key _) wb.2 er
            exact ⟨(keyM_c ek).1, by show c ≤ 96; omega, r.2.1, r.1⟩
    have c96 : c ≤ 96 := ro.2.1
    have t4 : hI (uI s' (B + 35) 1 0) (B + 1) 4 = nI (tX τ) := (e4 _ _ (by unfold WT; omega)).trans hC.1.1.2.2.2.2.1
    have m7 : hI s (B + 67) 7 = nI (tX τ) := hM.1.2.2.2.2.1
    by_cases full : ¬ tX τ < 14
    · have e14 : tX τ = 14 := by omega
      obtain ⟨u, fu, z⟩ := m_text (tm _ L4 f66 f72) K4
      rcases z with ⟨q', z1, -⟩ | ⟨key', f', c', a', z1, z2, -⟩
      · rw [y1] at z1
        cases z1
      · have Lu := L4.sx fu.1
        refine same (-1000000003) u ?_ fu ?_
        · show f_X6_text s B = _
          unfold f_X6_text
          refine bnd g5 (bnd ((cV_ok L.k34).trans y2) (bnd L'.g4 (bnd (pI_ok L'.k35) (ifp (show (-1 : Int32) < 0 by decide) (bnd L4.gt (bnd (gI_ok L4.kt) ?_))))))
          rw [t4]
          exact ifn (nI_nlt (b := 14) (by omega) (by omega)) rfl
        · rw [z2]
          unfold f_X7_text_b33
          refine bnd (pI_ok Lu.km) (ifn one_ne (bnd (Lu.u _ _ _).gn (bnd ((Lu.u _ _ _).an 7 rfl (by decide)) ?_)))
          rw [uI_ne (by omega), fu.1.2.2.2 _ (by omega), now4, m7, e14]
          exact ifp rfl rfl
    replace full := Classical.not_not.mp full
    have r34 : ∀ k, hI (uI s' (B + 35) 1 0) (B + 34) k = hI s' (B + 34) k := fun k => uI_ne (by omega)
    obtain ⟨sf, k5, nx, tx⟩ := c_make (s := uI s' (B + 35) 1 0) (key := key) (c := c) (a := a) (f := f) L4 (by rw [S4.1.1]; omega) ((r34 _).trans c2) (fun i hi => (uI_ne (by omega)).trans (cf i hi)) ((r34 _).trans c5) ((r34 _).trans c6) c96
    have a1 : (uI s' (B + 35) 1 0).1 = B + 89 + 3 * nt := S4.1.1.trans hs1
    rw [a1] at k5 tx
    have sf1 : sf.1 = B + 89 + 3 * (nt + 1) := by rw [nx.1, a1]; omega
    have old : ∀ b, b < B + 89 + 3 * nt → hK sf b = hK s b ∧ (∀ k, hR sf b k = hR s b k) ∧ ∀ k, hI sf b k = hI (uI s' (B + 35) 1 0) b k := by
      intro b hb
      have := nx.2.2 b (by rw [a1]; exact hb)
      exact ⟨this.1.trans (S4.2.1 b), fun k => (this.2.1 k).trans (S4.2.2.1 b k), this.2.2⟩
    have kB : ∀ i, i < 89 → hK sf (B + i) = hK s (B + i) := fun i hi => (old _ (by omega)).1
    have k1 : hK sf (B + 1) = (5, 18) := (kB 1 (by omega)).trans L.kt
    have k11 : hK sf (B + 11) = (14, 14) := (kB 11 (by omega)).trans (L.k 11 14 14 rfl)
    have kTx : hK sf (B + 89 + 3 * nt + 1) = (4, 4) := tx.1.2.1
    have i14 : hI sf (B + 1) 4 = nI (tX τ) := ((old _ (by omega)).2.2 4).trans t4
    obtain ⟨s1, hs1'⟩ : ∃ s1, s1 = uI (uR sf (B + 11) (tX τ) (some (B + 89 + 3 * nt + 1))) (B + 1) 4 (nI (tX τ + 1)) := ⟨_, rfl⟩
    have K1 : ∀ b, hK s1 b = hK sf b := fun b => by rw [hs1']; rfl
    have R1 : ∀ b k, hR s1 b k = if b = B + 11 ∧ k = tX τ then some (B + 89 + 3 * nt + 1) else hR sf b k := fun b k => by rw [hs1']; rfl
    have I1 : ∀ b k, ¬ (b = B + 1 ∧ k = 4) → hI s1 b k = hI sf b k := fun b k hb => by rw [hs1', uI_ne hb]; rfl
    have I14 : hI s1 (B + 1) 4 = nI (tX τ + 1) := by rw [hs1', uI_eq]
    have n1 : s1.1 = B + 89 + 3 * (nt + 1) := by rw [hs1']; exact sf1
    have n2 : s1.2.1 ≤ s.2.1 + 200 := by
      rw [hs1']
      show sf.2.1 ≤ _
      have := nx.2.1
      rw [S4.1.2] at this
      exact this
    have ly1 : ∀ (t : hS), (∀ b, hK t b = hK s1 b) → (∀ b k, hR t b k = hR s1 b k) → t.1 = s1.1 → Lay B t := by
      intro t q1 q2 q3
      refine ⟨fun i cc hi => ?_, fun e he => ?_, fun o ho i hi b hb => ?_⟩
      · have hi9 : i < 89 := (List.getElem?_eq_some_iff.mp hi).1
        rw [q1, K1, kB i hi9]
        exact L.1 i cc hi
      · have b1 : ∀ e ∈ layR, e.1 ≠ 11 ∧ e.1 < 89 := by decide
        have := b1 e he
        rw [q2, R1, if_neg (by omega), (old _ (by omega)).2.1]
        exact L.2.1 e he
      · rw [q2, R1] at hb
        rw [q1, K1, q3, n1]
        by_cases cc : B + o = B + 11 ∧ i = tX τ
        · rw [if_pos cc] at hb
          have hb' := Option.some.inj hb
          subst hb'
          exact ⟨by rw [kTx], by omega⟩
        · rw [if_neg cc, (old _ (by omega)).2.1] at hb
          have := L.2.2 o ho i hi b hb
          rw [hs1] at this
          exact ⟨by rw [(old b this.2).1]; exact this.1, by omega⟩
    have L1 := ly1 s1 (fun _ => rfl) (fun _ _ => rfl) rfl
    have g66 : ∀ k, hI s1 (B + 66) k = hI s (B + 66) k := fun k => by rw [I1 _ _ (by omega), (old _ (by omega)).2.2]; exact f66 k
    have g72 : ∀ k, hI s1 (B + 72) k = hI s (B + 72) k := fun k => by rw [I1 _ _ (by omega), (old _ (by omega)).2.2]; exact f72 k
    have g67 : ∀ k, hI s1 (B + 67) k = hI s (B + 67) k := fun k => by rw [I1 _ _ (by omega), (old _ (by omega)).2.2]; exact now4 k
    have K1' : InKey B s1 := ⟨fun i hi => by rw [I1 _ _ (by omega), (old _ (by omega)).2.2]; exact K4.1 i hi, fun i hi => by rw [I1 _ _ (by omega), (old _ (by omega)).2.2]; exact K4.2 i hi⟩
    obtain ⟨u, fu, z⟩ := m_text (tm _ L1 g66 g72) K1'
    rcases z with ⟨q', z1, -⟩ | ⟨key', f', c', a', z1, z2, z17, z75, z13, z18⟩
    · rw [y1] at z1
      cases z1
    rw [y1] at z1
    cases z1
    have Lu := L1.sx fu.1
    have u67 : ∀ k, hI u (B + 67) k = hI s (B + 67) k := fun k => (fu.1.2.2.2 _ (by omega) k).trans (g67 k)
    -- what the reference writes first
    obtain ⟨w, hw⟩ : ∃ w, w = uI (uI (uI u (B + 66) 7 0) (B + 67) (104 + 2 * tX τ) (nI (1000 * key + c))) (B + 67) (105 + 2 * tX τ) (nI a) := ⟨_, rfl⟩
    have Lw : Lay B w := by rw [hw]; exact ((Lu.u _ _ _).u _ _ _).u _ _ _
    have w17 : hI w (B + 66) 17 = nI c := by rw [hw, uI_ne (by omega), uI_ne (by omega), uI_ne (by omega)]; exact z17
    have w75 : ∀ i, i < c → hI w (B + 75) i = cmap key (f i) := fun i hi => by rw [hw, uI_ne (by omega), uI_ne (by omega), uI_ne (by omega)]; exact z75 i hi
    have w7 : hI w (B + 67) 7 = nI (tX τ) := by rw [hw, uI_ne (by omega), uI_ne (by omega), uI_ne (by omega), u67]; exact m7
    obtain ⟨s2, k6, x6, o7, of, oo⟩ := m_b117 Lw full c96 w17 w75 w7
    have X2 : Sx (fun b => b = B + 66 ∨ b = B + 67 ∨ b = B + 75 ∨ b = B + 76 ∨ b = B + 77) s1 s2 := by
      have a1 : Sx (fun b => b = B + 66 ∨ b = B + 67 ∨ b = B + 75 ∨ b = B + 76 ∨ b = B + 77) s1 u := fu.1.mono (fun b hb => by omega)
      have a2 : Sx (fun b => b = B + 66 ∨ b = B + 67 ∨ b = B + 75 ∨ b = B + 76 ∨ b = B + 77) u w := by
        rw [hw]
        exact ((Sx.u _ _ _ _ (Or.inl rfl)).tr (Sx.u _ _ _ _ (Or.inr (Or.inl rfl)))).tr (Sx.u _ _ _ _ (Or.inr (Or.inl rfl)))
      exact (a1.tr a2).tr (x6.mono (fun b hb => Or.inr (Or.inl hb)))
    have L2 := ly1 s2 X2.2.1 X2.2.2.1 X2.1.1
    -- ints of the end
    have I2 : ∀ b k, b < B + 89 + 3 * nt → ¬ WT B b k → b ≠ B + 67 → ¬ (b = B + 1 ∧ k = 4) → hI s2 b k = hI s b k := by
      intro b k h1 h2 h3 h4
      have h2' := h2
      unfold WT at h2
      by_cases cb : b = B + 66
      · subst cb
        rw [x6.2.2.2 _ (by omega), hw, uI_ne (by omega), uI_ne (by omega), uI_ne (by omega), fu.2 k (by omega), g66]
      · rw [X2.2.2.2 b (by omega), I1 b k h4, (old b h1).2.2]
        exact e4 b k h2'
    have txc : ∀ j x, j < nt → TxC s (B + 89 + 3 * j) x → TxC s2 (B + 89 + 3 * j) x := by
      intro j x hj hx
      obtain ⟨⟨q1, q2, q3⟩, ⟨p1, p2⟩, ⟨r1, r2⟩, d⟩ := hx
      have kk : ∀ b, b < B + 89 + 3 * nt → hK s2 b = hK s b := fun b hb => by rw [X2.2.1, K1, (old b hb).1]
      have rr : ∀ k, hR s2 (B + 89 + 3 * j + 1) k = hR s (B + 89 + 3 * j + 1) k := fun k => by rw [X2.2.2.1, R1, if_neg (by omega), (old _ (by omega)).2.1]
      exact ⟨⟨(kk _ (by omega)).trans q1, (kk _ (by omega)).trans q2, (kk _ (by omega)).trans q3⟩, ⟨(rr _).trans p1, (rr _).trans p2⟩, ⟨(I2 _ _ (by omega) (by unfold WT; omega) (by omega) (by omega)).trans r1, (I2 _ _ (by omega) (by unfold WT; omega) (by omega) (by omega)).trans r2⟩, fun k hk => (I2 _ _ (by omega) (by unfold WT; omega) (by omega) (by omega)).trans (d k hk)⟩
    have txn : TxC s2 (B + 89 + 3 * nt) (key, nI a, c, f) := by
      obtain ⟨⟨q1, q2, q3⟩, ⟨p1, p2⟩, ⟨r1, r2⟩, d⟩ := tx
      have rr : ∀ k, hR s2 (B + 89 + 3 * nt + 1) k = hR sf (B + 89 + 3 * nt + 1) k := fun k => by rw [X2.2.2.1, R1, if_neg (by omega)]
      have ii : ∀ b k, B + 89 ≤ b → hI s2 b k = hI sf b k := fun b k hb => by rw [X2.2.2.2 _ (by omega), I1 _ _ (by omega)]
      exact ⟨⟨((X2.2.1 _).trans (K1 _)).trans q1, ((X2.2.1 _).trans (K1 _)).trans q2, ((X2.2.1 _).trans (K1 _)).trans q3⟩, ⟨(rr _).trans p1, (rr _).trans p2⟩, ⟨(ii _ _ (by omega)).trans r1, (ii _ _ (by omega)).trans r2⟩, fun k hk => (ii _ _ (by omega)).trans (d k hk)⟩
    have hC2 : TwC B s2 (nt + 1) (B + 1) (txT τ (key, nI a, c, f)) := by
      refine ⟨hC.1.txt ?_ (fun k hk => I2 _ _ (by omega) (by unfold WT; omega) (by omega) (by omega)) (fun r k h1 h2 => I2 _ _ (by omega) (by unfold WT; omega) (by omega) (by omega)), fun i hi => ?_⟩
      · rw [X2.2.2.2 _ (by omega)]
        exact I14
      · rw [txT_x] at hi
        show ∃ j, j < nt + 1 ∧ hR s2 (B + 1 + 10) i = some (B + 90 + 3 * j) ∧ TxC s2 (B + 89 + 3 * j) (if i = tX τ then (key, nI a, c, f) else τ.2.2 i)
        by_cases e : i = tX τ
        · rw [if_pos e]
          refine ⟨nt, by omega, ?_, txn⟩
          rw [X2.2.2.1, R1, if_pos ⟨by omega, e⟩]
          exact congrArg some (by omega)
        · rw [if_neg e]
          obtain ⟨j, hj, r, hx⟩ := hC.2 i (by omega)
          refine ⟨j, by omega, ?_, txc j _ hj hx⟩
          rw [X2.2.2.1, R1, if_neg (by omega), (old _ (by omega)).2.1]
          exact r
    have hM2 : TwM (hI s2 (B + 67)) (txT τ (key, nI a, c, f)) := by
      refine hM.txt hok full c96 o7 ?_ ?_ of (fun j h1 h2 h3 h4 => ?_)
      · rw [oo _ (by omega) (by omega), hw, uI_ne (by omega), uI_eq]
      · rw [oo _ (by omega) (by omega), hw, uI_eq]
      · rw [oo j h1 h4, hw, uI_ne (by omega), uI_ne (by omega), uI_ne (by omega)]
        exact u67 j
    have img : InImg B s2 (nt + 1) := by
      rcases h.2.2.2.2.2.1 with ⟨i1, i2⟩ | ⟨i1, i2, ι, iok, iC, iM⟩
      · exact Or.inl ⟨(I2 B 3 (by omega) (by unfold WT; omega) (by omega) (by omega)).trans i1, (I2 _ _ (by omega) (by unfold WT; omega) (by omega) (by omega)).trans i2⟩
      · refine Or.inr ⟨(I2 B 3 (by omega) (by unfold WT; omega) (by omega) (by omega)).trans i1, (I2 _ _ (by omega) (by unfold WT; omega) (by omega) (by omega)).trans i2, ι, iok, ⟨TwN.keep (B := B) iC.1 (fun r hr k => I2 _ _ (by omega) (by unfold WT; omega) (by omega) (by omega)), fun i hi => ?_⟩, ?_⟩
        · obtain ⟨j, hj, r, hx⟩ := iC.2 i hi
          refine ⟨j, by omega, ?_, txc j _ hj hx⟩
          rw [X2.2.2.1, R1, if_neg (by omega), (old _ (by omega)).2.1]
          exact r
        · have e : hI s2 (B + 68) = hI s (B + 68) := funext fun k => I2 _ _ (by omega) (by unfold WT; omega) (by omega) (by omega)
          rw [e]
          exact iM
    have oth := h.she0 (t := s2) (W := fun b k => WT B b k ∨ b = B + 67 ∨ (b = B + 1 ∧ k = 4) ∨ B + 89 + 3 * nt ≤ b) (fun b k hb => I2 b k (Nat.lt_of_not_le (fun y => hb (Or.inr (Or.inr (Or.inr y))))) (fun y => hb (Or.inl y)) (fun y => hb (Or.inr (Or.inl y))) (fun y => hb (Or.inr (Or.inr (Or.inl y))))) (fun b k hb => by
      rcases hb with y | y | y | y
      · exact Or.inl y
      · exact Or.inr (Or.inr (Or.inl y))
      · exact Or.inr (Or.inl (by omega))
      · exact Or.inr (Or.inr (Or.inr (by omega))))
    have tape : InTape B s2 := by
      refine ⟨0, by omega, ?_, ?_, fun i hi => absurd hi (Nat.not_lt_zero i)⟩
      · rw [X2.2.2.2 _ (by omega), I1 _ _ (by omega), (old _ (by omega)).2.2, uI_eq]
        rfl
      · rw [x6.2.2.2 _ (by omega), hw, uI_ne (by omega), uI_ne (by omega), uI_eq]
        rfl
    have iv : InvT B s2 (nt + 1) (txT τ (key, nI a, c, f)) := ⟨L2, by rw [X2.1.1]; exact n1, txT_ok hok ro full, hC2, hM2, img, tape, oth.1, oth.2.1, oth.2.2.1, oth.2.2.2⟩
    refine ⟨nI (tX τ), s1, s2, ?_, by rw [L1.km], ?_, iv.inv, ?_, ?_⟩
    · show f_X6_text s B = _
      unfold f_X6_text
      refine bnd g5 (bnd ((cV_ok L.k34).trans y2) (bnd L'.g4 (bnd (pI_ok L'.k35) (ifp (show (-1 : Int32) < 0 by decide) (bnd L4.gt (bnd (gI_ok L4.kt) ?_))))))
      rw [t4]
      refine ifp (nI_lt (b := 14) full (by decide)) (bnd L4.gt (bnd (gR_ok L4.kx (L4.r 0 5 34 (by decide))) (bnd ((cV_ok L4.k34).trans k5) (bnd (x := (nI (tX τ), s1)) ((cV_ok k1).trans ?_) rfl))))
      unfold f_X5_addText
      refine bnd (gI_ok k1) ?_
      rw [i14]
      have r11 : hR sf (B + 1) 17 = some (B + 11) := ((old _ (by omega)).2.1 17).trans (L.r 1 17 11 (by decide))
      have sr : sR sf (B + 11) 14 (nI (tX τ)) (B + 89 + 3 * nt + 1) 4 = some (uR sf (B + 11) (tX τ) (some (B + 89 + 3 * nt + 1))) := sN_ok (q := 4) (tX τ) (some (B + 89 + 3 * nt + 1)) k11 full (by decide) (fun b hb => by rw [← Option.some.inj hb, kTx])
      refine ifn (nI_ge (b := 14) full (by decide)) (bnd (gR_ok k1 r11) (bnd sr (bnd (gI_ok (s := uR sf (B + 11) (tX τ) (some (B + 89 + 3 * nt + 1))) k1) ?_)))
      rw [show hI (uR sf (B + 11) (tX τ) (some (B + 89 + 3 * nt + 1))) (B + 1) 4 = nI (tX τ) from i14, nI_1]
      refine bnd (pI_ok (s := uR sf (B + 11) (tX τ) (some (B + 89 + 3 * nt + 1))) k1) ?_
      rw [hs1']
    · show f_X7_text s1 (B + 66) = _
      rw [z2]
      unfold f_X7_text_b33
      refine bnd (pI_ok Lu.km) (ifn one_ne (bnd (Lu.u _ _ _).gn (bnd ((Lu.u _ _ _).an 7 rfl (by decide)) ?_)))
      rw [uI_ne (by omega), u67, m7]
      refine ifn (fun y => by have := (nI_eq (b := 14) (by omega) (by decide)).mp y; omega) (bnd (Lu.u _ _ _).gn (bnd ((Lu.u _ _ _).an 7 rfl (by decide)) ?_))
      rw [uI_ne (by omega), u67, m7]
      refine bnd (Lu.u _ _ _).gn (bnd (gI_ok (Lu.u _ _ _).km) (bnd (gI_ok (Lu.u _ _ _).km) ?_))
      rw [uI_ne (by omega), z13, uI_ne (by omega), z17, show (1000 : Int32) * nI key + nI c = nI (1000 * key + c) by rw [show (1000 : Int32) = nI 1000 from rfl, pk_mul, nI_add]]
      refine bnd ((Lu.u _ _ _).sn (104 + 2 * tX τ) (ixm 104 2 (tX τ)) (by omega)) (bnd ((Lu.u _ _ _).u _ _ _).gn (bnd (gI_ok ((Lu.u _ _ _).u _ _ _).km) ?_))
      rw [uI_ne (by omega), uI_ne (by omega), z18]
      refine bnd (((Lu.u _ _ _).u _ _ _).sn (105 + 2 * tX τ) (ixe 104 2 (tX τ) 1 (by omega)) (by omega)) ?_
      rw [← hw]
      exact k6
    · rw [X2.1.1, n1]
      omega
    · rw [X2.1.2]
      omega
