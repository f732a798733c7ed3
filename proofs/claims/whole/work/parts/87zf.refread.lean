/-! the reference's pile and code -/
def wm (x : Nat) : Int32 := if x = 40 then -11 else cmap 0 (-nI x)
theorem wm_40 : wm 40 = -11 := rfl
theorem wm_33 : wm 33 = -10 := by decide
theorem wm_s {x : Nat} (h : 1 ≤ rk x) : wm x ≠ -11 ∧ wm x ≠ -10 ∧ (∀ key, cmap key (-nI x) = wm x) ∧ ∀ t, f_X7_rank t (wm x) = some (nI (rk x), t) := by
  rcases rk_c h with rfl | rfl | rfl | rfl | rfl | rfl | rfl | rfl | rfl
  · exact ⟨by decide, by decide, fun key => (cmap_124 key).trans (by decide), fun t => rfl⟩
  · exact ⟨by decide, by decide, fun key => (cmap_38 key).trans (by decide), fun t => rfl⟩
  · exact ⟨by decide, by decide, fun key => (cmap_60 key).trans (by decide), fun t => rfl⟩
  · exact ⟨by decide, by decide, fun key => (cmap_61 key).trans (by decide), fun t => rfl⟩
  · exact ⟨by decide, by decide, fun key => (cmap_62 key).trans (by decide), fun t => rfl⟩
  · exact ⟨by decide, by decide, fun key => (cmap_43 key).trans (by decide), fun t => rfl⟩
  · exact ⟨by decide, by decide, fun key => (cmap_45 key).trans (by decide), fun t => rfl⟩
  · exact ⟨by decide, by decide, fun key => (cmap_42 key).trans (by decide), fun t => rfl⟩
  · exact ⟨by decide, by decide, fun key => (cmap_47 key).trans (by decide), fun t => rfl⟩
def RdM0 (B : Nat) (t : hS) (key : Nat) (m : Mt) : Prop := (hI t (B + 66) 17 = nI m.2.2.2.1 ∧ ∀ i, i < m.2.2.2.1 → hI t (B + 75) i = cmap key (m.2.2.1 i)) ∧ (hI t (B + 66) 20 = nI m.2.1.length ∧ stk (hI t (B + 76)) wm m.2.1) ∧ hI t (B + 66) 13 = nI key ∧ hI t (B + 66) 18 = nI m.2.2.2.2
/-- what putting signs to the code may move -/
def Fs (B : Nat) (t u : hS) : Prop := Sx (fun a => a = B + 66 ∨ a = B + 75) t u ∧ ∀ k, k ≠ 17 → k ≠ 20 → hI u (B + 66) k = hI t (B + 66) k
theorem Fs.rf (B : Nat) (t : hS) : Fs B t t := ⟨Sx.rf _ t, fun _ _ _ => rfl⟩
theorem Fs.tr {B : Nat} {t u v : hS} (h : Fs B t u) (h2 : Fs B u v) : Fs B t v := ⟨h.1.tr h2.1, fun k h3 h4 => (h2.2 k h3 h4).trans (h.2 k h3 h4)⟩
theorem Lay.k75 {B : Nat} {s : hS} (L : Lay B s) : hK s (B + 75) = (10, 96) := L.k 75 10 96 rfl
theorem Lay.k76 {B : Nat} {s : hS} (L : Lay B s) : hK s (B + 76) = (10, 96) := L.k 76 10 96 rfl
theorem Lay.k77 {B : Nat} {s : hS} (L : Lay B s) : hK s (B + 77) = (11, 10) := L.k 77 11 10 rfl
theorem Lay.m16 {B : Nat} {s : hS} (L : Lay B s) : gR s (B + 66) 7 16 = some (B + 75) := L.gm 16 75 0 (by decide)
theorem Lay.m19 {B : Nat} {s : hS} (L : Lay B s) : gR s (B + 66) 7 19 = some (B + 76) := L.gm 19 76 0 (by decide)
theorem Lay.m21 {B : Nat} {s : hS} (L : Lay B s) : gR s (B + 66) 7 21 = some (B + 77) := L.gm 21 77 0 (by decide)
section RM
variable {B : Nat}
theorem RdM0.pp {t : hS} {key x : Nat} {w : Bool} {r : List Nat} {f : Nat → Int32} {c a : Nat} (h : RdM0 B t key (w, x :: r, f, c, a)) (v : Int32) : RdM0 B (uI (uI (uI t (B + 66) 20 (nI r.length)) (B + 75) c (cmap key v)) (B + 66) 17 (nI (c + 1))) key (w, r, puts f c v, c + 1, a) := by
  obtain ⟨⟨h1, h2⟩, ⟨h3, h4⟩, h5, h6⟩ := h
  dsimp only at h1 h2 h3 h4 h5 h6
  refine ⟨⟨uI_eq _ _ _ _, fun i hi => ?_⟩, ⟨?_, ?_⟩, ?_, ?_⟩
  · rw [uI_ne (by omega)]
    by_cases e : i = c
    · rw [e, uI_eq]
      show cmap key v = cmap key (puts f c v c)
      rw [puts_e]
    · rw [uI_ne (by omega), uI_ne (by omega)]
      show _ = cmap key (puts f c v i)
      rw [puts_n e]
      refine h2 i ?_
      have : i < c + 1 := hi
      omega
  · rw [uI_ne (by omega), uI_ne (by omega), uI_eq]
  · refine stk_cg r (fun i hi => ?_) h4.2
    rw [uI_ne (by omega), uI_ne (by omega), uI_ne (by omega)]
  · rw [uI_ne (by omega), uI_ne (by omega), uI_ne (by omega)]; exact h5
  · rw [uI_ne (by omega), uI_ne (by omega), uI_ne (by omega)]; exact h6
theorem Fs.pp {t : hS} {l c : Nat} {v : Int32} : Fs B t (uI (uI (uI t (B + 66) 20 (nI l)) (B + 75) c v) (B + 66) 17 (nI (c + 1))) := ⟨((Sx.u _ _ _ _ (Or.inl rfl)).tr (Sx.u _ _ _ _ (Or.inr rfl))).tr (Sx.u _ _ _ _ (Or.inl rfl)), fun k h1 h2 => by rw [uI_ne (by omega), uI_ne (by omega), uI_ne (by omega)]⟩
theorem m_st1 {t : hS} {key x : Nat} {w : Bool} {r : List Nat} {f : Nat → Int32} {c a : Nat} {fuel : Nat} {rkx ℓ : Nat} (L : Lay B t) (h : RdM0 B t key (w, x :: r, f, c, a)) (hl : c + (r.length + 1) ≤ 96) (n40 : wm x ≠ -11) (hr : f_X7_rank t (wm x) = some (nI rkx, t)) (X : Option (Unit × hS)) (hX : (if nI rkx < nI ℓ then some ((), t) else jL f_X7_settle_b0 (fun _ _ _ => none) fuel (B + 66) (nI ℓ) (uI (uI (uI t (B + 66) 20 (nI r.length)) (B + 75) c (wm x)) (B + 66) 17 (nI (c + 1)))) = X) : jL f_X7_settle_b0 (fun _ _ _ => none) (fuel + 1) (B + 66) (nI ℓ) t = X := by
  obtain ⟨⟨h1, h2⟩, ⟨h3, h4⟩, h5, h6⟩ := h
  dsimp only at h1 h2 h3 h4 h5 h6
  rw [List.length_cons] at h3
  show f_X7_settle_b0 (jL f_X7_settle_b0 (fun _ _ _ => none) fuel) (B + 66) (nI ℓ) t = X
  unfold f_X7_settle_b0
  refine bnd (gI_ok L.km) ?_
  rw [h3]
  refine ifn (nI_nle (by omega) (by omega)) (bnd L.m19 (bnd (gI_ok L.km) ?_))
  rw [h3]
  refine bnd (aI_ok r.length L.k76 (nI_pred _) (by omega) (by decide)) ?_
  rw [h4.1]
  refine ifn n40 (bnd L.m19 (bnd (gI_ok L.km) ?_))
  rw [h3]
  refine bnd (aI_ok r.length L.k76 (nI_pred _) (by omega) (by decide)) ?_
  rw [h4.1]
  refine bnd hr ?_
  show (if nI rkx < nI ℓ then some ((), t) else _) = X
  by_cases q : nI rkx < nI ℓ
  · rw [if_pos q] at hX ⊢
    exact hX
  · rw [if_neg q] at hX ⊢
    refine bnd (gI_ok L.km) ?_
    rw [h3, nI_pred]
    refine bnd (pI_ok L.km) (bnd (L.u _ _ _).m16 (bnd (gI_ok (L.u _ _ _).km) ?_))
    rw [uI_ne (by omega), h1]
    refine bnd (L.u _ _ _).m19 (bnd (gI_ok (L.u _ _ _).km) ?_)
    rw [uI_eq]
    refine bnd (aI_ok r.length (L.u _ _ _).k76 rfl (by omega) (by decide)) ?_
    rw [uI_ne (by omega), h4.1]
    refine bnd (sI_ok c (L.u _ _ _).k75 rfl (by omega) (by decide)) (bnd (gI_ok ((L.u _ _ _).u _ _ _).km) ?_)
    rw [uI_ne (by omega), uI_ne (by omega), h1, nI_1]
    exact bnd (pI_ok ((L.u _ _ _).u _ _ _).km) hX
theorem m_st40 {t : hS} {key : Nat} {m : Mt} {fuel : Nat} {ℓ : Int32} (L : Lay B t) (h : RdM0 B t key m) (hl : m.2.1.length ≤ 96) (hp : m.2.1 = [] ∨ ∃ r, m.2.1 = 40 :: r) : jL f_X7_settle_b0 (fun _ _ _ => none) (fuel + 1) (B + 66) ℓ t = some ((), t) := by
  obtain ⟨w, p, y⟩ := m
  obtain ⟨⟨h1, h2⟩, ⟨h3, h4⟩, h5, h6⟩ := h
  dsimp only at h3 h4 hp hl
  show f_X7_settle_b0 (jL f_X7_settle_b0 (fun _ _ _ => none) fuel) (B + 66) ℓ t = _
  unfold f_X7_settle_b0
  refine bnd (gI_ok L.km) ?_
  rw [h3]
  rcases hp with e | ⟨r, e⟩
  · rw [e]
    exact ifp (show nI 0 ≤ 0 by decide) rfl
  · subst e
    rw [List.length_cons] at h3 hl ⊢
    refine ifn (nI_nle (by omega) (by omega)) (bnd L.m19 (bnd (gI_ok L.km) ?_))
    rw [h3]
    refine bnd (aI_ok r.length L.k76 (nI_pred _) (by omega) (by decide)) ?_
    rw [h4.1]
    exact ifp rfl rfl
theorem m_rel {key k ℓ : Nat} (hk : 1 ≤ k) (hℓ : ℓ ≤ 5) (hkl : ∀ x, 1 ≤ rk x → (k ≤ rk x ↔ ℓ ≤ rk x)) {w : Bool} {a : Nat} : ∀ (p : List Nat) f c t fuel, Lay B t → RdM0 B t key (w, p, f, c, a) → wf p → hd0 p ≠ 33 → c + p.length ≤ 96 → p.length < fuel → ∃ u, jL f_X7_settle_b0 (fun _ _ _ => none) fuel (B + 66) (nI ℓ) t = some ((), u) ∧ RdM0 B u key (w, (rel k p f c).1, (rel k p f c).2.1, (rel k p f c).2.2, a) ∧ Fs B t u
  | [], f, c, t, fuel + 1, L, h, hw, hh, hl, hf => ⟨t, m_st40 L h (by show 0 ≤ 96; omega) (Or.inl rfl), h, Fs.rf B t⟩
  | x :: r, f, c, t, fuel + 1, L, h, hw, hh, hl, hf => by
    rw [List.length_cons] at hl hf
    rcases hw.2 with z | z | z
    · exact absurd z hh
    · subst z
      rw [rel_f (by show ¬ k ≤ 0; omega)]
      exact ⟨t, m_st40 L h (by show (40 :: r).length ≤ 96; rw [List.length_cons]; omega) (Or.inr ⟨r, rfl⟩), h, Fs.rf B t⟩
    · have s := wm_s z.1
      have r5 := rk_le x
      by_cases q : k ≤ rk x
      · have hp := h.pp (-nI x)
        rw [s.2.2.1 key] at hp
        obtain ⟨u, k1, r1, f1⟩ := m_rel hk hℓ hkl r (puts f c (-nI x)) (c + 1) _ fuel (((L.u _ _ _).u _ _ _).u _ _ _) hp hw.1 z.2.1 (by omega) (by omega)
        rw [rel_t q]
        refine ⟨u, m_st1 L h (by omega) s.1 (s.2.2.2 t) _ (ifn (nI_nlt ((hkl x z.1).mp q) (by omega)) k1), r1, Fs.pp.tr f1⟩
      · rw [rel_f q]
        have q2 : ¬ ℓ ≤ rk x := fun y => q ((hkl x z.1).mpr y)
        exact ⟨t, m_st1 L h (by omega) s.1 (s.2.2.2 t) _ (ifp (nI_lt (by omega) (by omega)) rfl), h, Fs.rf B t⟩
theorem m_epc {key : Nat} {w : Bool} {a : Nat} : ∀ (p : List Nat) f c t fuel, Lay B t → RdM0 B t key (w, p, f, c, a) → wf p → c + p.length ≤ 96 → p.length < fuel → ∃ u, jL f_X7_settle_b0 (fun _ _ _ => none) fuel (B + 66) 6 t = some ((), u) ∧ RdM0 B u key (w, (epc p f c).1, (epc p f c).2.1, (epc p f c).2.2, a) ∧ Fs B t u
  | [], f, c, t, fuel + 1, L, h, hw, hl, hf => ⟨t, m_st40 L h (by show 0 ≤ 96; omega) (Or.inl rfl), h, Fs.rf B t⟩
  | x :: r, f, c, t, fuel + 1, L, h, hw, hl, hf => by
    rw [List.length_cons] at hl hf
    rcases hw.2 with z | z | z
    · subst z
      have hp := h.pp (-33)
      rw [cmap_33, ← wm_33] at hp
      obtain ⟨u, k1, r1, f1⟩ := m_epc r (puts f c (-33)) (c + 1) _ fuel (((L.u _ _ _).u _ _ _).u _ _ _) hp hw.1 (by omega) (by omega)
      rw [epc_t]
      refine ⟨u, m_st1 (ℓ := 6) L h (by omega) (by decide) (show f_X7_rank t (wm 33) = some (nI 6, t) by rw [wm_33]; rfl) _ (ifn (by decide) k1), r1, Fs.pp.tr f1⟩
    · subst z
      rw [epc_f (by decide)]
      exact ⟨t, m_st40 L h (by show (40 :: r).length ≤ 96; rw [List.length_cons]; omega) (Or.inr ⟨r, rfl⟩), h, Fs.rf B t⟩
    · have s := wm_s z.1
      have r5 := rk_le x
      have xc := rk_c z.1
      rw [epc_f (by omega)]
      exact ⟨t, m_st1 (ℓ := 6) L h (by omega) s.1 (s.2.2.2 t) _ (ifp (nI_lt (by omega) (by decide)) rfl), h, Fs.rf B t⟩
/-- how many nots are open -/
def cg (g : Nat → Int32) : Nat → Nat
  | 0 => 0
  | i + 1 => cg g i + (if g i = -10 then 1 else 0)
theorem cg_e {g : Nat → Int32} : ∀ p : List Nat, wf p → stk g wm p → cg g p.length = cnt 33 p
  | [], _, _ => rfl
  | x :: r, hw, h => by
    have ih := cg_e r hw.1 h.2
    show cg g r.length + (if g r.length = -10 then 1 else 0) = cnt 33 r + (if x = 33 then 1 else 0)
    rw [ih, h.1]
    rcases hw.2 with z | z | z
    · rw [z, wm_33, if_pos rfl, if_pos rfl]
    · rw [z, wm_40, if_neg (by decide), if_neg (by decide)]
    · have xc := rk_c z.1
      rw [if_neg (wm_s z.1).2.1, if_neg (by omega)]
theorem m_nots {t : hS} {key : Nat} {m : Mt} (L : Lay B t) (h : RdM0 B t key m) (hw : wf m.2.1) (hl : m.2.1.length ≤ 96) : f_X7_notsOpen t (B + 66) = some (nI (cnt 33 m.2.1), t) := by
  have h3 := h.2.1.1
  rw [← cg_e m.2.1 hw h.2.1.2]
  refine jL_run (F := f_X7_notsOpen_b4) (z := fun _ _ _ _ => none) (fun (k : kr2) i => k (B + 66) (nI (cg (hI t (B + 76)) i)) (nI i) t) m.2.1.length _ (fun i hi k => ?_) (fun k => ?_) jF 0 (Nat.zero_le _) (jF_lt (by omega))
  · show f_X7_notsOpen_b4 k (B + 66) (nI (cg (hI t (B + 76)) i)) (nI i) t = k (B + 66) (nI (cg (hI t (B + 76)) i + (if hI t (B + 76) i = -10 then 1 else 0))) (nI (i + 1)) t
    unfold f_X7_notsOpen_b4 f_X7_notsOpen_b29 nmv
    refine bnd (gI_ok L.km) ?_
    rw [h3]
    refine ifn (nI_ge hi (by omega)) (bnd L.m19 (bnd (aI_ok i L.k76 rfl (by omega) (by decide)) ?_))
    by_cases c : hI t (B + 76) i = -10
    · rw [if_pos c, if_pos c, nI_1, nI_1]
    · rw [if_neg c, if_neg c, nI_1, nI_z]
      rfl
  · show f_X7_notsOpen_b4 k (B + 66) _ (nI m.2.1.length) t = _
    unfold f_X7_notsOpen_b4
    refine bnd (gI_ok L.km) ?_
    rw [h3]
    exact ifp (nI_le (Nat.le_refl _) (by omega)) rfl
theorem m_nam {t : hS} {key v : Nat} (L : Lay B t) (h : hI t (B + 66) 13 = nI key) (hk : key < 3) (hv : v < 256) : ∃ x, f_X7_nameOf t (B + 66) (nI v) = some (x, t) ∧ ((nmC key v = 0 ∧ x = -1) ∨ (nmC key v ≠ 0 ∧ ¬ x < 0 ∧ 10000 + x = cmap key (nmC key v))) := by
  have ne : ∀ k : Nat, k < 256 → v ≠ k → ¬ nI v = nI k := fun k hk h e => h ((nI_eq (by omega) (by omega)).mp e)
  have hk' : key = 0 ∨ key = 1 ∨ key = 2 := by omega
  have hv' : v = 104 ∨ v = 107 ∨ v = 110 ∨ v = 115 ∨ v = 119 ∨ (v ≠ 104 ∧ v ≠ 107 ∧ v ≠ 110 ∧ v ≠ 115 ∧ v ≠ 119) := by omega
  unfold f_X7_nameOf
  rcases hk' with rfl | rfl | rfl
  · rcases hv' with rfl | rfl | rfl | rfl | rfl | ⟨z1, z2, z3, z4, z5⟩
    · exact ⟨-1, bnd (gI_ok L.km) (by rw [h]; rfl), Or.inl ⟨rfl, rfl⟩⟩
    · exact ⟨2, bnd (gI_ok L.km) (by rw [h]; rfl), Or.inr ⟨by decide, by decide, by decide⟩⟩
    · exact ⟨1, bnd (gI_ok L.km) (by rw [h]; rfl), Or.inr ⟨by decide, by decide, by decide⟩⟩
    · exact ⟨-1, bnd (gI_ok L.km) (by rw [h]; rfl), Or.inl ⟨rfl, rfl⟩⟩
    · exact ⟨0, bnd (gI_ok L.km) (by rw [h]; rfl), Or.inr ⟨by decide, by decide, by decide⟩⟩
    · refine ⟨-1, bnd (gI_ok L.km) ?_, Or.inl ⟨?_, rfl⟩⟩
      · rw [h]
        exact ifp rfl (ifn (ne 119 (by decide) z5) (ifn (ne 110 (by decide) z3) (ifn (ne 107 (by decide) z2) rfl)))
      · unfold nmC
        rw [if_neg z1, if_neg z2, if_neg z3, if_neg z4, if_neg z5]
  · rcases hv' with rfl | rfl | rfl | rfl | rfl | ⟨z1, z2, z3, z4, z5⟩
    · exact ⟨-1, bnd (gI_ok L.km) (by rw [h]; rfl), Or.inl ⟨rfl, rfl⟩⟩
    · exact ⟨1, bnd (gI_ok L.km) (by rw [h]; rfl), Or.inr ⟨by decide, by decide, by decide⟩⟩
    · exact ⟨-1, bnd (gI_ok L.km) (by rw [h]; rfl), Or.inl ⟨rfl, rfl⟩⟩
    · exact ⟨-1, bnd (gI_ok L.km) (by rw [h]; rfl), Or.inl ⟨rfl, rfl⟩⟩
    · exact ⟨0, bnd (gI_ok L.km) (by rw [h]; rfl), Or.inr ⟨by decide, by decide, by decide⟩⟩
    · refine ⟨-1, bnd (gI_ok L.km) ?_, Or.inl ⟨?_, rfl⟩⟩
      · rw [h]
        exact ifn (by decide) (ifp rfl (ifn (ne 119 (by decide) z5) (ifn (ne 107 (by decide) z2) rfl)))
      · unfold nmC
        rw [if_neg z1, if_neg z2, if_neg z3, if_neg z4, if_neg z5]
  · rcases hv' with rfl | rfl | rfl | rfl | rfl | ⟨z1, z2, z3, z4, z5⟩
    · exact ⟨1, bnd (gI_ok L.km) (by rw [h]; rfl), Or.inr ⟨by decide, by decide, by decide⟩⟩
    · exact ⟨-1, bnd (gI_ok L.km) (by rw [h]; rfl), Or.inl ⟨rfl, rfl⟩⟩
    · exact ⟨-1, bnd (gI_ok L.km) (by rw [h]; rfl), Or.inl ⟨rfl, rfl⟩⟩
    · exact ⟨0, bnd (gI_ok L.km) (by rw [h]; rfl), Or.inr ⟨by decide, by decide, by decide⟩⟩
    · exact ⟨-1, bnd (gI_ok L.km) (by rw [h]; rfl), Or.inl ⟨rfl, rfl⟩⟩
    · refine ⟨-1, bnd (gI_ok L.km) ?_, Or.inl ⟨?_, rfl⟩⟩
      · rw [h]
        exact ifn (by decide) (ifn (by decide) (ifn (ne 115 (by decide) z4) (ifn (ne 104 (by decide) z1) rfl)))
      · unfold nmC
        rw [if_neg z1, if_neg z2, if_neg z3, if_neg z4, if_neg z5]
end RM
/-! which levels were tested -/
def tv : List Nat → Nat → Bool
  | [], _ => false
  | x :: r, j => if x = 40 then (if j = cnt 40 r + 1 then false else tv r j) else (if j = cnt 40 r then (decide (rk x = 3) || tv r j) else tv r j)
theorem tv_40 (r : List Nat) (j : Nat) : tv (40 :: r) j = if j = cnt 40 r + 1 then false else tv r j := if_pos rfl
theorem tv_33 (r : List Nat) (j : Nat) : tv (33 :: r) j = tv r j := by
  have e : tv (33 :: r) j = if j = cnt 40 r then (decide (rk 33 = 3) || tv r j) else tv r j := if_neg (by decide)
  rw [e]
  split
  · rfl
  · rfl
theorem tv_b {x : Nat} (h : x ≠ 40) (r : List Nat) : tv (x :: r) (cnt 40 r) = (decide (rk x = 3) || tv r (cnt 40 r)) := by
  have e : tv (x :: r) (cnt 40 r) = if cnt 40 r = cnt 40 r then (decide (rk x = 3) || tv r (cnt 40 r)) else tv r (cnt 40 r) := if_neg h
  rw [e, if_pos rfl]
theorem tv_o {x : Nat} (h : x ≠ 40) {r : List Nat} {j : Nat} (hj : j ≠ cnt 40 r) : tv (x :: r) j = tv r j := by
  have e : tv (x :: r) j = if j = cnt 40 r then (decide (rk x = 3) || tv r j) else tv r j := if_neg h
  rw [e, if_neg hj]
theorem tv_low {k : Nat} (hk : 1 ≤ k) : ∀ p f c j, j < cnt 40 p → tv (rel k p f c).1 j = tv p j
  | [], f, c, j, h => rfl
  | x :: r, f, c, j, h => by
    by_cases q : k ≤ rk x
    · have xc := rk_c (show 1 ≤ rk x by omega)
      rw [rel_t q, tv_o (by omega) (by rw [cnt_n (by omega)] at h; omega)]
      exact tv_low hk r _ _ j (by rw [cnt_n (by omega)] at h; exact h)
    · rw [rel_f q]
theorem tv_no : ∀ p, wf p → hd0 p ≠ 33 → rk (hd0 p) < 3 → tv p (cnt 40 p) = false
  | [], _, _, _ => rfl
  | x :: r, hw, hh, h => by
    rcases hw.2 with z | z | z
    · exact absurd z hh
    · subst z
      rw [cnt_e, tv_40, if_pos rfl]
    · have xc := rk_c z.1
      have hx : rk x < 3 := h
      rw [cnt_n (by omega), tv_b (by omega), decide_eq_false (by omega), tv_no r hw.1 z.2.1 (by omega)]
      rfl
theorem tv_3 : ∀ p f c, wf p → hd0 p ≠ 33 → (tv p (cnt 40 p) = true ↔ rk (hd0 (rel 4 p f c).1) = 3)
  | [], f, c, _, _ => ⟨fun z => (by cases z), fun z => (by cases z)⟩
  | x :: r, f, c, hw, hh => by
    rcases hw.2 with z | z | z
    · exact absurd z hh
    · subst z
      rw [rel_f (by decide), cnt_e, tv_40, if_pos rfl]
      exact ⟨fun z => (by cases z), fun z => (by cases z)⟩
    · have xc := rk_c z.1
      rw [cnt_n (by omega), tv_b (by omega)]
      by_cases q : 4 ≤ rk x
      · rw [rel_t q, decide_eq_false (by omega), Bool.false_or]
        exact tv_3 r _ _ hw.1 z.2.1
      · rw [rel_f q]
        show _ ↔ rk x = 3
        by_cases q3 : rk x = 3
        · rw [decide_eq_true q3]
          exact ⟨fun _ => q3, fun _ => rfl⟩
        · rw [decide_eq_false q3, tv_no r hw.1 z.2.1 (by omega)]
          exact ⟨fun y => (by cases y), fun y => absurd y q3⟩
theorem tv_hi {k : Nat} (hk : 4 ≤ k) : ∀ p f c, tv (rel k p f c).1 (cnt 40 p) = tv p (cnt 40 p)
  | [], f, c => rfl
  | x :: r, f, c => by
    by_cases q : k ≤ rk x
    · have xc := rk_c (show 1 ≤ rk x by omega)
      rw [rel_t q, cnt_n (by omega), tv_b (by omega), decide_eq_false (by omega), Bool.false_or]
      exact tv_hi hk r _ _
    · rw [rel_f q]
theorem rel34 : ∀ p f c, rk (hd0 (rel 4 p f c).1) ≠ 3 → rel 3 p f c = rel 4 p f c
  | [], f, c, _ => rfl
  | x :: r, f, c, h => by
    by_cases q : 4 ≤ rk x
    · rw [rel_t q] at h ⊢
      rw [rel_t (by omega)]
      exact rel34 r _ _ h
    · rw [rel_f q] at h ⊢
      have h' : rk x ≠ 3 := h
      rw [rel_f (by omega)]
theorem tv_epc : ∀ p f c j, tv (epc p f c).1 j = tv p j
  | [], f, c, j => rfl
  | x :: r, f, c, j => by
    by_cases q : x = 33
    · subst q
      rw [epc_t, tv_33]
      exact tv_epc r _ _ j
    · rw [epc_f q]
