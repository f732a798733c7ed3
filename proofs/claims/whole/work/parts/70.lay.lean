/-- slots have moved, all else stays -/
theorem InvT.slo {B nt : Nat} {s t : hS} {τ : Tw} {W : Nat → Nat → Prop} (h : InvT B s nt τ) (hx : Wx W s t) (hW : ∀ a k, W a k → ∃ i, a = B + i ∧ (49 ≤ i ∧ i < 64 ∨ 83 ≤ i ∧ i < 87)) (hS : InSlo B t) : InvT B t nt τ := by
  have d : ∀ a k, (∀ i, a = B + i → ¬ (49 ≤ i ∧ i < 64 ∨ 83 ≤ i ∧ i < 87)) → ¬ W a k := fun a k q hw => by
    obtain ⟨i, e, c⟩ := hW a k hw
    exact q i e c
  refine h.core hx (fun a k hw => ?_) (h.2.2.2.2.2.2.1.wx hx ?_) (h.2.2.2.2.2.2.2.1.wx hx ?_) hS (h.2.2.2.2.2.2.2.2.2.1.wx hx ?_) (h.2.2.2.2.2.2.2.2.2.2.wx hx ?_)
  · obtain ⟨i, e, c⟩ := hW a k hw
    exact Or.inr (Or.inr ⟨i, by omega, e, by omega⟩)
  · exact ⟨d _ _ (fun i e => by omega), d _ _ (fun i e => by omega), fun k => d _ _ (fun i e => by omega), fun k => d _ _ (fun i e => by omega)⟩
  · exact fun i k hi => d _ _ (fun i e => by omega)
  · exact ⟨d _ _ (fun i e => by omega), d _ _ (fun i e => by omega), fun k => d _ _ (fun i e => by omega), fun k => d _ _ (fun i e => by omega)⟩
  · exact ⟨fun k => d _ _ (fun i e => by omega), fun k => d _ _ (fun i e => by omega)⟩
/-- the cells of one slot -/
def slW (B j a k : Nat) : Prop := (a = B + 49 + 3 * j ∨ a = B + 50 + 3 * j ∨ a = B + 51 + 3 * j) ∨ ((a = B + 83 ∨ a = B + 84 ∨ a = B + 85) ∧ k = j) ∨ (a = B + 86 ∧ 24 * j ≤ k ∧ k < 24 * j + 24)
def slJ (B j : Nat) (s : hS) : Prop := ∃ h : Nat, h < 4 ∧ hI s (B + 49 + 3 * j) 0 = nI h ∧ hI s (B + 83) j = nI h ∧ (h = 1 → ∃ k p q : Nat, k < 6 ∧ p < 8 ∧ q < 8 ∧ hI s (B + 49 + 3 * j) 1 = nI k ∧ hI s (B + 49 + 3 * j) 2 = nI p ∧ hI s (B + 49 + 3 * j) 3 = nI q ∧ hI s (B + 84) j = nI k ∧ hI s (B + 85) j = nI (8 * p + q)) ∧ (h = 2 → (∃ n : Nat, n ≤ 24 ∧ hI s (B + 50 + 3 * j) 1 = nI n ∧ hI s (B + 84) j = nI n) ∧ ∀ k, k < 24 → hI s (B + 51 + 3 * j) k = hI s (B + 86) (24 * j + k)) ∧ (h = 3 → hI s (B + 49 + 3 * j) 4 = hI s (B + 84) j)
theorem InSlo.one {B j : Nat} {s t : hS} (hj : j < 5) (h : InSlo B s) (X : Wx (slW B j) s t) (hn : slJ B j t) : InSlo B t := by
  intro i hi
  by_cases c : i = j
  · subst c; exact hn
  · have E := X.2.2.2
    have e1 : ∀ k, hI t (B + 49 + 3 * i) k = hI s (B + 49 + 3 * i) k := fun k => E _ _ (by unfold slW; omega)
    have e2 : ∀ k, hI t (B + 50 + 3 * i) k = hI s (B + 50 + 3 * i) k := fun k => E _ _ (by unfold slW; omega)
    have e3 : ∀ k, hI t (B + 51 + 3 * i) k = hI s (B + 51 + 3 * i) k := fun k => E _ _ (by unfold slW; omega)
    have e4 : hI t (B + 83) i = hI s (B + 83) i := E _ _ (by unfold slW; omega)
    have e5 : hI t (B + 84) i = hI s (B + 84) i := E _ _ (by unfold slW; omega)
    have e6 : hI t (B + 85) i = hI s (B + 85) i := E _ _ (by unfold slW; omega)
    have e7 : ∀ k, k < 24 → hI t (B + 86) (24 * i + k) = hI s (B + 86) (24 * i + k) := fun k hk => E _ _ (by unfold slW; omega)
    obtain ⟨q, g1, g2, g3, g4, g5, g6⟩ := h i hi
    refine ⟨q, g1, (e1 _).trans g2, e4.trans g3, fun hq => ?_, fun hq => ?_, fun hq => ?_⟩
    · obtain ⟨k, p, r, f1, f2, f3, f4, f5, f6, f7, f8⟩ := g4 hq
      exact ⟨k, p, r, f1, f2, f3, (e1 _).trans f4, (e1 _).trans f5, (e1 _).trans f6, e5.trans f7, e6.trans f8⟩
    · obtain ⟨⟨n, f1, f2, f3⟩, f4⟩ := g5 hq
      exact ⟨⟨n, f1, (e2 _).trans f2, e5.trans f3⟩, fun k hk => by rw [e3, e7 k hk]; exact f4 k hk⟩
    · rw [e1, e5]; exact g6 hq
theorem InvT.slot {B nt j : Nat} {s t : hS} {τ : Tw} (h : InvT B s nt τ) (hj : j < 5) (X : Wx (slW B j) s t) (hn : slJ B j t) : InvT B t nt τ := by
  refine h.slo X (fun a k hw => ?_) (InSlo.one hj h.2.2.2.2.2.2.2.2.1 X hn)
  unfold slW at hw
  rcases hw with (e | e | e) | ⟨e | e | e, -⟩ | ⟨e, -⟩
  · exact ⟨49 + 3 * j, by omega, by omega⟩
  · exact ⟨50 + 3 * j, by omega, by omega⟩
  · exact ⟨51 + 3 * j, by omega, by omega⟩
  · exact ⟨83, e, by omega⟩
  · exact ⟨84, e, by omega⟩
  · exact ⟨85, e, by omega⟩
  · exact ⟨86, e, by omega⟩
theorem Lay.k83 {B : Nat} {s : hS} (L : Lay B s) : hK s (B + 83) = (10, 5) := L.k 83 10 5 rfl
theorem Lay.k84 {B : Nat} {s : hS} (L : Lay B s) : hK s (B + 84) = (10, 5) := L.k 84 10 5 rfl
theorem Lay.k85 {B : Nat} {s : hS} (L : Lay B s) : hK s (B + 85) = (10, 5) := L.k 85 10 5 rfl
theorem Lay.k86 {B : Nat} {s : hS} (L : Lay B s) : hK s (B + 86) = (10, 120) := L.k 86 10 120 rfl
theorem Lay.m27 {B : Nat} {s : hS} (L : Lay B s) : gR s (B + 66) 7 27 = some (B + 83) := L.gm 27 83 5 (by decide)
theorem Lay.m28 {B : Nat} {s : hS} (L : Lay B s) : gR s (B + 66) 7 28 = some (B + 84) := L.gm 28 84 5 (by decide)
theorem Lay.m29 {B : Nat} {s : hS} (L : Lay B s) : gR s (B + 66) 7 29 = some (B + 85) := L.gm 29 85 5 (by decide)
theorem Lay.m30 {B : Nat} {s : hS} (L : Lay B s) : gR s (B + 66) 7 30 = some (B + 86) := L.gm 30 86 120 (by decide)
/-- the class's held sheet becomes another -/
theorem c_bec {B : Nat} {s : hS} (L : Lay B s) {j u : Nat} (hj : j < 5) (hu : u < 4) : ∃ s1, f_X1_becomes s (B + 50 + 3 * j) (B + 40 + 2 * u) = some ((), s1) ∧ Wx (fun a _ => a = B + 50 + 3 * j ∨ a = B + 51 + 3 * j) s s1 ∧ hI s1 (B + 50 + 3 * j) 1 = hI s (B + 40 + 2 * u) 1 ∧ ∀ k, k < 24 → hI s1 (B + 51 + 3 * j) k = hI s (B + 41 + 2 * u) k := by
  have e : f_X1_becomes s (B + 50 + 3 * j) (B + 40 + 2 * u) = some ((), wr (uI (uI s (B + 50 + 3 * j) 0 (hI s (B + 40 + 2 * u) 0)) (B + 50 + 3 * j) 1 (hI s (B + 40 + 2 * u) 1)) (B + 51 + 3 * j) 0 (fun k => hI s (B + 41 + 2 * u) k) 24) := by
    unfold f_X1_becomes
    refine bnd (gI_ok (L.hk hu)) (bnd (pI_ok (L.sk1 hj)) (bnd (gI_ok ((L.u _ _ _).hk hu)) ?_))
    rw [uI_ne (by omega)]
    refine bnd (pI_ok ((L.u _ _ _).sk1 hj)) ?_
    refine jL_run (F := f_X1_becomes_b18) (z := fun _ _ _ _ => none) (fun (k : Nat → Nat → Int32 → hS → Option (Unit × hS)) o => k (B + 50 + 3 * j) (B + 40 + 2 * u) (nI o) (wr (uI (uI s (B + 50 + 3 * j) 0 (hI s (B + 40 + 2 * u) 0)) (B + 50 + 3 * j) 1 (hI s (B + 40 + 2 * u) 1)) (B + 51 + 3 * j) 0 (fun k => hI s (B + 41 + 2 * u) k) o)) 24 _ (fun o ho k => ?_) (fun k => ?_) jF 0 (Nat.zero_le _) (jF_lt (by omega))
    · show f_X1_becomes_b18 k _ _ _ _ = _
      have L2 := ((L.u (B + 50 + 3 * j) 0 (hI s (B + 40 + 2 * u) 0)).u (B + 50 + 3 * j) 1 (hI s (B + 40 + 2 * u) 1)).wr (B + 51 + 3 * j) 0 (fun k => hI s (B + 41 + 2 * u) k) o
      unfold f_X1_becomes_b18
      refine ifn (nI_ge (a := o) (b := 24) ho (by decide)) (bnd (gR_ok (L2.sk1 hj) (L2.sr2 hj)) (bnd (gR_ok (L2.hk hu) (L2.hr1 hu)) (bnd (aI_ok o (L2.hk1 hu) rfl ho (by decide)) (bnd (sI_ok o (L2.sk2 hj) rfl ho (by decide)) ?_))))
      rw [nI_1, wr_ne (by omega), uI_ne (by omega), uI_ne (by omega)]
      show _ = k _ _ _ (uI _ _ (0 + o) _)
      rw [Nat.zero_add]
    · show f_X1_becomes_b18 k _ _ _ _ = _
      unfold f_X1_becomes_b18
      exact ifp (by decide) rfl
  refine ⟨_, e, Wx.wr (((Wx.rf _ s).u (Or.inl rfl)).u (Or.inl rfl)) (fun k _ => Or.inr rfl), ?_, fun k hk => ?_⟩
  · rw [wr_ne (by omega), uI_eq]
  · rw [wr_I, if_pos ⟨rfl, by omega, by omega⟩, Nat.sub_zero]
theorem m_lay {B : Nat} {s : hS} (L : Lay B s) {j u : Nat} (hj : j < 5) (hu : u < 4) (v : Int32) : ∃ s2, jL f_X7_lay_b165 (fun _ _ _ _ _ _ _ => none) jF (B + 66) (nI j) (nI 2) (nI u) v 0 s = some (v, s2) ∧ Wx (fun a k => a = B + 86 ∧ 24 * j ≤ k ∧ k < 24 * j + 24) s s2 ∧ ∀ k, k < 24 → hI s2 (B + 86) (24 * j + k) = hI s (B + 82) (24 * u + k) := by
  have e : jL f_X7_lay_b165 (fun _ _ _ _ _ _ _ => none) jF (B + 66) (nI j) (nI 2) (nI u) v 0 s = some (v, wr s (B + 86) (24 * j) (fun k => hI s (B + 82) (24 * u + k)) 24) := by
    refine jL_run (F := f_X7_lay_b165) (z := fun _ _ _ _ _ _ _ => none) (fun (k : Nat → Int32 → Int32 → Int32 → Int32 → Int32 → hS → Option (Int32 × hS)) o => k (B + 66) (nI j) (nI 2) (nI u) v (nI o) (wr s (B + 86) (24 * j) (fun k => hI s (B + 82) (24 * u + k)) o)) 24 _ (fun o ho k => ?_) (fun k => ?_) jF 0 (Nat.zero_le _) (jF_lt (by omega))
    · show f_X7_lay_b165 k _ _ _ _ _ _ _ = _
      have L2 := L.wr (B + 86) (24 * j) (fun k => hI s (B + 82) (24 * u + k)) o
      unfold f_X7_lay_b165
      refine ifn (nI_ge (a := o) (b := 24) ho (by decide)) (ifp rfl (bnd L2.m30 (bnd L2.m26 (bnd (aI_ok (24 * u + o) L2.k82 (ix24 u o) (by omega) (by decide)) (bnd (sI_ok (24 * j + o) L2.k86 (ix24 j o) (by omega) (by decide)) ?_)))))
      rw [nI_1, wr_ne (by omega)]
      rfl
    · show f_X7_lay_b165 k _ _ _ _ _ _ _ = _
      unfold f_X7_lay_b165
      exact ifp (by decide) rfl
  refine ⟨_, e, Wx.wr (Wx.rf _ s) (fun k hk => ⟨rfl, by omega, by omega⟩), fun k hk => ?_⟩
  rw [wr_in _ _ _ _ _ _ hk]
theorem m_lay0 (s : hS) (B : Nat) (x y v : Int32) {q : Nat} (hq : ¬ nI q = 2) : jL f_X7_lay_b165 (fun _ _ _ _ _ _ _ => none) jF (B + 66) x (nI q) y v 0 s = some (v, s) := by
  show f_X7_lay_b165 _ (B + 66) x (nI q) y v 0 s = _
  unfold f_X7_lay_b165
  exact ifn (by decide) (ifn hq rfl)
theorem stp_lay (B : Nat) (a0 a1 a2 : Int32) : StpC B (fun s => f_X6_lay s B a0 a1 a2) (fun s => f_X7_lay s (B + 66) a0 a1 a2) := by
  refine stp_set fun s nt τ h => ?_
  have L := h.1
  have hN := h.2.2.2.1.1
  have hM := h.2.2.2.2.1
  have hok := h.2.2.1
  have T1 := L.tly 1 (Or.inl rfl)
  have same : ∀ v, f_X6_lay s B a0 a1 a2 = some (v, s) → f_X7_lay s (B + 66) a0 a1 a2 = some (v, s) → ∃ v s1 s2, f_X6_lay s B a0 a1 a2 = some (v, s1) ∧ f_X7_lay s1 (B + 66) a0 a1 a2 = some (v, s2) ∧ Lay B s1 ∧ Inv B s2 ∧ s2.1 = s.1 ∧ s2.2.1 = s.2.1 := fun v h6 h7 => ⟨v, s, s, h6, h7, L, h.inv, rfl, rfl⟩
  show ∃ v s1 s2, f_X6_lay s B a0 a1 a2 = some (v, s1) ∧ f_X7_lay s1 (B + 66) a0 a1 a2 = some (v, s2) ∧ Lay B s1 ∧ Inv B s2 ∧ s2.1 = s.1 ∧ s2.2.1 = s.2.1
  have bad : (a0 < 0 ∨ nI 5 ≤ a0) → ∃ v s1 s2, f_X6_lay s B a0 a1 a2 = some (v, s1) ∧ f_X7_lay s1 (B + 66) a0 a1 a2 = some (v, s2) ∧ Lay B s1 ∧ Inv B s2 ∧ s2.1 = s.1 ∧ s2.2.1 = s.2.1 := by
    intro hb
    refine same (-1000000001) ?_ ?_
    · unfold f_X6_lay
      exact bnd (noS_out hb) (ifn one_ne rfl)
    · unfold f_X7_lay
      exact bnd (isS_out hb) (ifp rfl rfl)
  rcases pk_ix a0 (n := 5) (by decide) with hb | hb | ⟨j, hj, rfl⟩
  · exact bad (Or.inl hb)
  · exact bad (Or.inr hb)
  clear bad
  rcases rng a1 3 (by decide) with hb | ⟨q, hq, rfl⟩
  · refine same (-1000000001) ?_ ?_
    · unfold f_X6_lay
      exact bnd (noS_in hj) (ifp rfl (bnd (out_no s hb) (ifn one_ne rfl)))
    · unfold f_X7_lay
      exact bnd (isS_in hj) (ifn one_ne (bnd (in_no s hb) (ifp rfl rfl)))
  obtain ⟨h0, z1, z2, z3, -⟩ := h.2.2.2.2.2.2.2.2.1 j hj
  have aRs := aR_ok j L.k48 rfl hj (by decide) (L.sr hj)
  have cin := out_in s (n := 3) hq (by decide) (i := nI q) (b := 3) rfl rfl
  have min_ : ∀ t, f_X7_in t (nI q) 0 3 = some (1, t) := fun t => in_yes t (n := 3) hq (by decide) rfl rfl
  have Lc := L.u (B + 49 + 3 * j) 0 (nI q)
  have cpre : ∀ {r : Option (Int32 × hS)}, (if nI q = (1 : Int32) then (gR (uI s (B + 49 + 3 * j) 0 (nI q)) B 6 0).bind fun a10 => (gR (uI s (B + 49 + 3 * j) 0 (nI q)) a10 5 14).bind fun a11 => (aI (uI s (B + 49 + 3 * j) 0 (nI q)) a11 10 a2).bind fun x12 => (gR (uI s (B + 49 + 3 * j) 0 (nI q)) B 6 0).bind fun a13 => (gR (uI s (B + 49 + 3 * j) 0 (nI q)) a13 5 15).bind fun a14 => (aI (uI s (B + 49 + 3 * j) 0 (nI q)) a14 10 a2).bind fun x15 => (gR (uI s (B + 49 + 3 * j) 0 (nI q)) B 6 0).bind fun a16 => (gR (uI s (B + 49 + 3 * j) 0 (nI q)) a16 5 16).bind fun a17 => (aI (uI s (B + 49 + 3 * j) 0 (nI q)) a17 10 a2).bind fun x18 => (cV (uI s (B + 49 + 3 * j) 0 (nI q)) (B + 49 + 3 * j) 2 (f_X2_holdTalk (uI s (B + 49 + 3 * j) 0 (nI q)) (B + 49 + 3 * j) x12 x15 x18)).bind fun p19 => some (nI h0, p19.2) else if nI q = (2 : Int32) then (gR (uI s (B + 49 + 3 * j) 0 (nI q)) (B + 49 + 3 * j) 2 5).bind fun a6 => (gR (uI s (B + 49 + 3 * j) 0 (nI q)) B 6 6).bind fun a7 => (aR (uI s (B + 49 + 3 * j) 0 (nI q)) a7 12 a2).bind fun a8 => (cV (uI s (B + 49 + 3 * j) 0 (nI q)) a6 1 (f_X1_becomes (uI s (B + 49 + 3 * j) 0 (nI q)) a6 a8)).bind fun p9 => some (nI h0, p9.2) else (pI (uI s (B + 49 + 3 * j) 0 (nI q)) (B + 49 + 3 * j) 2 4 a2).bind fun s5 => some (nI h0, s5)) = r → f_X6_lay_b69 B (nI j) (nI q) a2 s = r := by
    intro r hr
    unfold f_X6_lay_b69
    refine bnd L.gsl (bnd aRs (bnd (gI_ok (L.sk hj)) (bnd (pI_ok (L.sk hj)) ?_)))
    rw [z2]
    exact hr
  have mpre : ∀ {t : hS} {r : Option (Int32 × hS)}, Lay B t → hI t (B + 83) j = nI h0 → (if nI q = (1 : Int32) then (gR (uI t (B + 83) j (nI q)) (B + 66) 7 0).bind fun a8 => (aI (uI t (B + 83) j (nI q)) a8 10 ((80 : Int32) + ((3 : Int32) * a2))).bind fun x9 => f_X7_lay_b116 (B + 66) (nI j) (nI q) a2 (nI h0) (B + 84) (nI j) x9 (uI t (B + 83) j (nI q)) else if nI q = (2 : Int32) then (gR (uI t (B + 83) j (nI q)) (B + 66) 7 25).bind fun a6 => (aI (uI t (B + 83) j (nI q)) a6 10 a2).bind fun x7 => f_X7_lay_b116 (B + 66) (nI j) (nI q) a2 (nI h0) (B + 84) (nI j) x7 (uI t (B + 83) j (nI q)) else f_X7_lay_b116 (B + 66) (nI j) (nI q) a2 (nI h0) (B + 84) (nI j) a2 (uI t (B + 83) j (nI q))) = r → f_X7_lay_b62 (B + 66) (nI j) (nI q) a2 t = r := by
    intro t r Lt e hr
    unfold f_X7_lay_b62
    refine bnd Lt.m27 (bnd (aI_ok j Lt.k83 rfl hj (by decide)) ?_)
    rw [e]
    exact bnd Lt.m27 (bnd (sI_ok j Lt.k83 rfl hj (by decide)) (bnd (Lt.u _ _ _).m28 hr))
  have hq4 : q = 0 ∨ q = 3 ∨ q = 1 ∨ q = 2 := by omega
  have num : (q = 0 ∨ q = 3) → ∃ v s1 s2, f_X6_lay s B (nI j) (nI q) a2 = some (v, s1) ∧ f_X7_lay s1 (B + 66) (nI j) (nI q) a2 = some (v, s2) ∧ Lay B s1 ∧ Inv B s2 ∧ s2.1 = s.1 ∧ s2.2.1 = s.2.1 := by
    intro hq03
    have n1 : ¬ nI q = 1 := fun e => by have := (nI_eq (a := q) (b := 1) (by omega) (by decide)).mp e; omega
    have n2 : ¬ nI q = 2 := fun e => by have := (nI_eq (a := q) (b := 2) (by omega) (by decide)).mp e; omega
    have L1 := Lc.u (B + 49 + 3 * j) 4 a2
    refine ⟨nI h0, uI (uI s (B + 49 + 3 * j) 0 (nI q)) (B + 49 + 3 * j) 4 a2, uI (uI (uI (uI (uI s (B + 49 + 3 * j) 0 (nI q)) (B + 49 + 3 * j) 4 a2) (B + 83) j (nI q)) (B + 84) j a2) (B + 85) j 0, ?_, ?_, L1, ?_, rfl, rfl⟩
    · unfold f_X6_lay f_X6_lay_b32 f_X6_lay_b47
      exact bnd (noS_in hj) (ifp rfl (bnd cin (ifp rfl (ifn n1 (ifn n2 (ifn n2 (cpre (ifn n1 (ifn n2 (bnd (pI_ok (Lc.sk hj)) rfl))))))))))
    · unfold f_X7_lay f_X7_lay_b29 f_X7_lay_b44
      refine bnd (isS_in hj) (ifn one_ne (bnd (min_ _) (ifn one_ne (ifn n1 (ifn n2 (ifn n2 (mpre L1 ?_ (ifn n1 (ifn n2 ?_)))))))))
      · rw [uI_ne (by omega), uI_ne (by omega), z3]
      · unfold f_X7_lay_b116 f_X7_lay_b161
        exact bnd (sI_ok j (L1.u _ _ _).k84 rfl hj (by decide)) (bnd ((L1.u _ _ _).u _ _ _).m29 (ifn n1 (bnd (sI_ok j ((L1.u _ _ _).u _ _ _).k85 rfl hj (by decide)) (m_lay0 _ B _ _ _ n2))))
    · refine (h.slot hj ?_ ⟨q, by omega, ?_, ?_, fun e => by omega, fun e => by omega, fun e => ?_⟩).inv
      · refine Wx.u (Wx.u (Wx.u (Wx.u (Wx.u (Wx.rf _ s) ?_) ?_) ?_) ?_) ?_ <;> unfold slW <;> omega
      · rw [uI_ne (by omega), uI_ne (by omega), uI_ne (by omega), uI_ne (by omega), uI_eq]
      · rw [uI_ne (by omega), uI_ne (by omega), uI_eq]
      · rw [uI_ne (by omega), uI_ne (by omega), uI_ne (by omega), uI_eq, uI_ne (by omega), uI_eq]
  rcases hq4 with rfl | rfl | rfl | rfl
  · exact num (Or.inl rfl)
  · exact num (Or.inr rfl)
  · clear num
    have bt : (a2 < 0 ∨ nI (tK τ) ≤ a2) → ∃ v s1 s2, f_X6_lay s B (nI j) (nI 1) a2 = some (v, s1) ∧ f_X7_lay s1 (B + 66) (nI j) (nI 1) a2 = some (v, s2) ∧ Lay B s1 ∧ Inv B s2 ∧ s2.1 = s.1 ∧ s2.2.1 = s.2.1 := by
      intro hb
      refine same (-1000000001) ?_ ?_
      · unfold f_X6_lay
        exact bnd (noS_in hj) (ifp rfl (bnd cin (ifp rfl (ifp rfl (bnd ((cV_ok L.kx).trans (noT_out L hN hb)) (ifn one_ne rfl))))))
      · unfold f_X7_lay
        exact bnd (isS_in hj) (ifn one_ne (bnd (min_ _) (ifn one_ne (ifp rfl (bnd ((cV_ok L.km).trans (isT_out L hM hok hb)) (ifp rfl rfl))))))
    have b8 := hok.1.2.2.2.1
    have b8p := hok.1.2.1
    rcases pk_ix a2 (n := tK τ) (by omega) with hb | hb | ⟨t, ht, rfl⟩
    · exact bt (Or.inl hb)
    · exact bt (Or.inr hb)
    have w := hok.2.2.2.2.1 t ht
    have c1 := hN.2.2.2.2 t (by omega)
    have m1 := hM.2.2.2.2.1 t (by omega)
    have Tc := T1.u (B + 49 + 3 * j) 0 (nI 1)
    have L1 := ((Lc.u (B + 49 + 3 * j) 1 (nI (tR τ 8 t))).u (B + 49 + 3 * j) 2 (nI (tR τ 9 t))).u (B + 49 + 3 * j) 3 (nI (tR τ 10 t))
    refine ⟨nI h0, uI (uI (uI (uI s (B + 49 + 3 * j) 0 (nI 1)) (B + 49 + 3 * j) 1 (nI (tR τ 8 t))) (B + 49 + 3 * j) 2 (nI (tR τ 9 t))) (B + 49 + 3 * j) 3 (nI (tR τ 10 t)), uI (uI (uI (uI (uI (uI (uI s (B + 49 + 3 * j) 0 (nI 1)) (B + 49 + 3 * j) 1 (nI (tR τ 8 t))) (B + 49 + 3 * j) 2 (nI (tR τ 9 t))) (B + 49 + 3 * j) 3 (nI (tR τ 10 t))) (B + 83) j (nI 1)) (B + 84) j (nI (tR τ 8 t))) (B + 85) j (nI (8 * tR τ 9 t + tR τ 10 t)), ?_, ?_, L1, ?_, rfl, rfl⟩
    · unfold f_X6_lay f_X6_lay_b32 f_X6_lay_b47
      refine bnd (noS_in hj) (ifp rfl (bnd cin (ifp rfl (ifp rfl (bnd ((cV_ok L.kx).trans (noT_in L hN hok ht)) (ifp rfl (ifn (by decide) (ifn (by decide) (cpre (ifp rfl ?_))))))))))
      refine bnd Lc.gt (bnd Tc.g14 (bnd (Tc.a7 (by omega)) (bnd Lc.gt (bnd Tc.g15 (bnd (Tc.ap (by omega)) (bnd Lc.gt (bnd Tc.g16 (bnd (Tc.aq (by omega)) ?_))))))))
      rw [uI_ne (by omega), uI_ne (by omega), uI_ne (by omega), c1.1, c1.2.1, c1.2.2]
      unfold f_X2_holdTalk
      exact bnd ((cV_ok (Lc.sk hj)).trans (bnd (pI_ok (Lc.sk hj)) (bnd (pI_ok ((Lc.u _ _ _).sk hj)) (bnd (pI_ok (((Lc.u _ _ _).u _ _ _).sk hj)) rfl)))) rfl
    · have e67 : ∀ k, hI (uI (uI (uI (uI s (B + 49 + 3 * j) 0 (nI 1)) (B + 49 + 3 * j) 1 (nI (tR τ 8 t))) (B + 49 + 3 * j) 2 (nI (tR τ 9 t))) (B + 49 + 3 * j) 3 (nI (tR τ 10 t))) (B + 67) k = hI s (B + 67) k := fun k => by rw [uI_ne (by omega), uI_ne (by omega), uI_ne (by omega), uI_ne (by omega)]
      have hM1 : TwM (hI (uI (uI (uI (uI s (B + 49 + 3 * j) 0 (nI 1)) (B + 49 + 3 * j) 1 (nI (tR τ 8 t))) (B + 49 + 3 * j) 2 (nI (tR τ 9 t))) (B + 49 + 3 * j) 3 (nI (tR τ 10 t))) (B + 67)) τ := by
        rw [funext e67]; exact hM
      unfold f_X7_lay f_X7_lay_b29 f_X7_lay_b44
      refine bnd (isS_in hj) (ifn one_ne (bnd (min_ _) (ifn one_ne (ifp rfl (bnd ((cV_ok L1.km).trans (isT_in L1 hM1 hok ht)) (ifn one_ne (ifn (by decide) (ifn (by decide) (mpre L1 ?_ (ifp rfl (bnd (L1.u _ _ _).gn (bnd ((L1.u _ _ _).an (80 + 3 * t) (ixm 80 3 t) (by omega)) ?_))))))))))))
      · rw [uI_ne (by omega), uI_ne (by omega), uI_ne (by omega), uI_ne (by omega), z3]
      · rw [uI_ne (by omega), e67, m1.1]
        unfold f_X7_lay_b116 f_X7_lay_b161
        refine bnd (sI_ok j (L1.u _ _ _).k84 rfl hj (by decide)) (bnd ((L1.u _ _ _).u _ _ _).m29 (ifp rfl (bnd ((L1.u _ _ _).u _ _ _).gn (bnd (((L1.u _ _ _).u _ _ _).an (81 + 3 * t) (ixe 80 3 t 1 (by omega)) (by omega)) (bnd ((L1.u _ _ _).u _ _ _).gn (bnd (((L1.u _ _ _).u _ _ _).an (82 + 3 * t) (ixe 80 3 t 2 (by omega)) (by omega)) ?_))))))
        rw [uI_ne (by omega), uI_ne (by omega), e67, m1.2.1, uI_ne (by omega), uI_ne (by omega), e67, m1.2.2]
        refine bnd (sI_ok j ((L1.u _ _ _).u _ _ _).k85 rfl hj (by decide)) ?_
        rw [show (8 : Int32) * nI (tR τ 9 t) + nI (tR τ 10 t) = nI (8 * tR τ 9 t + tR τ 10 t) from by rw [show (8 : Int32) = nI 8 from rfl, pk_mul, nI_add]]
        exact m_lay0 _ B _ _ _ (by decide)
    · refine (h.slot hj ?_ ⟨1, by omega, ?_, ?_, fun _ => ⟨tR τ 8 t, tR τ 9 t, tR τ 10 t, w.1, by omega, by omega, ?_, ?_, ?_, ?_, ?_⟩, fun e => by omega, fun e => by omega⟩).inv
      · refine Wx.u (Wx.u (Wx.u (Wx.u (Wx.u (Wx.u (Wx.u (Wx.rf _ s) ?_) ?_) ?_) ?_) ?_) ?_) ?_ <;> unfold slW <;> omega
      · rw [uI_ne (by omega), uI_ne (by omega), uI_ne (by omega), uI_ne (by omega), uI_ne (by omega), uI_ne (by omega), uI_eq]
      · rw [uI_ne (by omega), uI_ne (by omega), uI_eq]
      · rw [uI_ne (by omega), uI_ne (by omega), uI_ne (by omega), uI_ne (by omega), uI_ne (by omega), uI_eq]
      · rw [uI_ne (by omega), uI_ne (by omega), uI_ne (by omega), uI_ne (by omega), uI_eq]
      · rw [uI_ne (by omega), uI_ne (by omega), uI_ne (by omega), uI_eq]
      · rw [uI_ne (by omega), uI_eq]
      · rw [uI_eq]
  · clear num
    have bt : (a2 < 0 ∨ nI 4 ≤ a2) → ∃ v s1 s2, f_X6_lay s B (nI j) (nI 2) a2 = some (v, s1) ∧ f_X7_lay s1 (B + 66) (nI j) (nI 2) a2 = some (v, s2) ∧ Lay B s1 ∧ Inv B s2 ∧ s2.1 = s.1 ∧ s2.2.1 = s.2.1 := by
      intro hb
      refine same (-1000000001) ?_ ?_
      · unfold f_X6_lay f_X6_lay_b32
        exact bnd (noS_in hj) (ifp rfl (bnd cin (ifp rfl (ifn (by decide) (ifp rfl (bnd (noH_out hb) (ifn one_ne rfl)))))))
      · unfold f_X7_lay f_X7_lay_b29
        exact bnd (isS_in hj) (ifn one_ne (bnd (min_ _) (ifn one_ne (ifn (by decide) (ifp rfl (bnd (isH_out hb) (ifp rfl rfl)))))))
    rcases pk_ix a2 (n := 4) (by decide) with hb | hb | ⟨u, hu, rfl⟩
    · exact bt (Or.inl hb)
    · exact bt (Or.inr hb)
    obtain ⟨⟨g1, g2⟩, g3, ⟨n, hn, g4⟩, g5⟩ := h.2.2.2.2.2.2.2.1 u hu
    rw [g4] at g2
    have aRh := aR_ok u L.k39 rfl hu (by decide) (L.hr hu)
    rcases sort3 g3 with ⟨q1, q2, q3⟩ | ⟨q1, q2, q3, -⟩
    · refine same (-1000000011) ?_ ?_
      · unfold f_X6_lay f_X6_lay_b32 f_X6_lay_b47
        refine bnd (noS_in hj) (ifp rfl (bnd cin (ifp rfl (ifn (by decide) (ifp rfl (bnd (noH_in hu) (ifp rfl (ifp rfl (bnd L.gsh (bnd aRh (bnd (gI_ok (L.hk hu)) ?_)))))))))))
        rw [g1]
        exact ifp q1 rfl
      · unfold f_X7_lay f_X7_lay_b29 f_X7_lay_b44
        exact bnd (isS_in hj) (ifn one_ne (bnd (min_ _) (ifn one_ne (ifn (by decide) (ifp rfl (bnd (isH_in hu) (ifn one_ne (ifp rfl (bnd L.m24 (bnd (aI_ok u L.k80 rfl hu (by decide)) (ifn q2 rfl)))))))))))
    · obtain ⟨s1, k1, x1, v1, v2⟩ := c_bec Lc hj hu
      rw [uI_ne (by omega), g2] at v1
      have v3 : ∀ k, k < 24 → hI s1 (B + 51 + 3 * j) k = hI s (B + 82) (24 * u + k) := fun k hk => by rw [v2 k hk, uI_ne (by omega), g5 k hk]
      have L1 := Lc.wx x1
      have X1 : Wx (fun a k => a = B + 49 + 3 * j ∨ a = B + 50 + 3 * j ∨ a = B + 51 + 3 * j) s s1 := Wx.tr (t := uI s (B + 49 + 3 * j) 0 (nI 2)) ((Wx.rf _ s).u (Or.inl rfl)) (x1.mono (fun a k z => Or.inr z))
      have y0 : hI s1 (B + 49 + 3 * j) 0 = nI 2 := by rw [x1.2.2.2 _ _ (by omega), uI_eq]
      have Lq := ((L1.u (B + 83) j (nI 2)).u (B + 84) j (nI n)).u (B + 85) j 0
      obtain ⟨s2, k2, x2, w2⟩ := m_lay Lq hj hu (nI h0)
      have X2 : Wx (slW B j) s s2 := by
        refine Wx.tr (t := uI (uI (uI s1 (B + 83) j (nI 2)) (B + 84) j (nI n)) (B + 85) j 0) ?_ (x2.mono (fun a k z => Or.inr (Or.inr z)))
        refine Wx.u (Wx.u (Wx.u (X1.mono (fun a k z => Or.inl z)) ?_) ?_) ?_ <;> omega
      refine ⟨nI h0, s1, s2, ?_, ?_, L1, ?_, X2.1.1, X2.1.2⟩
      · unfold f_X6_lay f_X6_lay_b32 f_X6_lay_b47
        refine bnd (noS_in hj) (ifp rfl (bnd cin (ifp rfl (ifn (by decide) (ifp rfl (bnd (noH_in hu) (ifp rfl (ifp rfl (bnd L.gsh (bnd aRh (bnd (gI_ok (L.hk hu)) ?_)))))))))))
        rw [g1]
        exact ifn q1 (cpre (ifn (by decide) (ifp rfl (bnd (gR_ok (Lc.sk hj) (Lc.sr1 hj)) (bnd Lc.gsh (bnd (aR_ok u Lc.k39 rfl hu (by decide) (Lc.hr hu)) (bnd ((cV_ok (Lc.sk1 hj)).trans k1) rfl)))))))
      · unfold f_X7_lay f_X7_lay_b29 f_X7_lay_b44
        refine bnd (isS_in hj) (ifn one_ne (bnd (min_ _) (ifn one_ne (ifn (by decide) (ifp rfl (bnd (isH_in hu) (ifn one_ne (ifp rfl (bnd L1.m24 (bnd (aI_ok u L1.k80 rfl hu (by decide)) ?_))))))))))
        rw [X1.2.2.2 _ _ (by omega)]
        refine ifp q2 (mpre L1 ?_ (ifn (by decide) (ifp rfl (bnd (L1.u _ _ _).m25 (bnd (aI_ok u (L1.u _ _ _).k81 rfl hu (by decide)) ?_)))))
        · rw [X1.2.2.2 _ _ (by omega), z3]
        · rw [uI_ne (by omega), X1.2.2.2 _ _ (by omega), g4]
          unfold f_X7_lay_b116 f_X7_lay_b161
          exact bnd (sI_ok j (L1.u _ _ _).k84 rfl hj (by decide)) (bnd ((L1.u _ _ _).u _ _ _).m29 (ifn (by decide) (bnd (sI_ok j ((L1.u _ _ _).u _ _ _).k85 rfl hj (by decide)) k2)))
      · clear k1 k2 cpre mpre same
        refine (h.slot hj X2 ⟨2, by omega, ?_, ?_, fun e => by omega, fun _ => ⟨⟨n, hn, ?_, ?_⟩, fun k hk => ?_⟩, fun e => by omega⟩).inv
        · rw [x2.2.2.2 _ _ (by omega), uI_ne (by omega), uI_ne (by omega), uI_ne (by omega), y0]
        · rw [x2.2.2.2 _ _ (by omega), uI_ne (by omega), uI_ne (by omega), uI_eq]
        · rw [x2.2.2.2 _ _ (by omega), uI_ne (by omega), uI_ne (by omega), uI_ne (by omega), v1]
        · rw [x2.2.2.2 _ _ (by omega), uI_ne (by omega), uI_eq]
        · rw [x2.2.2.2 _ _ (by omega), uI_ne (by omega), uI_ne (by omega), uI_ne (by omega), v3 k hk, w2 k hk, uI_ne (by omega), uI_ne (by omega), uI_ne (by omega), X1.2.2.2 _ _ (by omega)]
