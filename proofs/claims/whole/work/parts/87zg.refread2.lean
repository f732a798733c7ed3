/-! the reference reads -/
def Fx (B : Nat) (t u : hS) : Prop := Sx (fun a => a = B + 66 ∨ a = B + 75 ∨ a = B + 76 ∨ a = B + 77) t u ∧ ∀ k, ¬ (8 ≤ k ∧ k ≤ 20) → hI u (B + 66) k = hI t (B + 66) k
theorem Fx.rf (B : Nat) (t : hS) : Fx B t t := ⟨Sx.rf _ t, fun _ _ => rfl⟩
theorem Fx.tr {B : Nat} {t u v : hS} (h : Fx B t u) (h2 : Fx B u v) : Fx B t v := ⟨h.1.tr h2.1, fun k hk => (h2.2 k hk).trans (h.2 k hk)⟩
theorem Fg.fx {B : Nat} {t u : hS} (h : Fg B t u) : Fx B t u := ⟨h.1.mono (fun a ha => Or.inl ha), fun k hk => h.2 k (by omega)⟩
theorem Fs.fx {B : Nat} {t u : hS} (h : Fs B t u) : Fx B t u := ⟨h.1.mono (fun a ha => by omega), fun k hk => h.2 k (by omega) (by omega)⟩
theorem Fx.u {B : Nat} (t : hS) (k : Nat) (v : Int32) (hk : 8 ≤ k ∧ k ≤ 20) : Fx B t (uI t (B + 66) k v) := ⟨Sx.u _ _ _ _ (Or.inl rfl), fun j hj => uI_ne (by omega)⟩
theorem Fx.v {B : Nat} (t : hS) (a k : Nat) (v : Int32) (ha : a = B + 75 ∨ a = B + 76 ∨ a = B + 77) : Fx B t (uI t a k v) := ⟨Sx.u _ _ _ _ (Or.inr ha), fun j hj => uI_ne (by omega)⟩
theorem TpM.fx {B : Nat} {t u : hS} {V : Nat → Nat} {n : Nat} (h : TpM B t V n) (hx : Fx B t u) : TpM B u V n := ⟨h.1.sx hx.1, h.2.1, (hx.2 _ (by omega)).trans h.2.2.1, fun i hi => ⟨(h.2.2.2 i hi).1, (hx.1.2.2.2 _ (by omega) i).trans (h.2.2.2 i hi).2⟩⟩
def TsM (B : Nat) (t : hS) (p : List Nat) : Prop := ∀ j, j ≤ cnt 40 p → hI t (B + 77) j = bI (tv p j)
theorem RdM0.cgr {B : Nat} {t u : hS} {key : Nat} {m : Mt} (h : RdM0 B t key m) (e : ∀ k, k = 13 ∨ k = 17 ∨ k = 18 ∨ k = 20 → hI u (B + 66) k = hI t (B + 66) k) (e5 : ∀ k, hI u (B + 75) k = hI t (B + 75) k) (e6 : ∀ k, hI u (B + 76) k = hI t (B + 76) k) : RdM0 B u key m := ⟨⟨(e _ (by omega)).trans h.1.1, fun i hi => (e5 i).trans (h.1.2 i hi)⟩, ⟨(e _ (by omega)).trans h.2.1.1, stk_cg _ (fun i _ => e6 i) h.2.1.2⟩, (e _ (by omega)).trans h.2.2.1, (e _ (by omega)).trans h.2.2.2⟩
theorem RdM0.fg {B : Nat} {t u : hS} {key : Nat} {m : Mt} (h : RdM0 B t key m) (hx : Fg B t u) : RdM0 B u key m := h.cgr (fun k hk => hx.2 k (by omega)) (fun k => hx.o (by omega) k) (fun k => hx.o (by omega) k)
theorem TsM.cgr {B : Nat} {t u : hS} {p : List Nat} (h : TsM B t p) (e : ∀ k, hI u (B + 77) k = hI t (B + 77) k) : TsM B u p := fun j hj => (e j).trans (h j hj)
theorem RdM0.w {B : Nat} {t : hS} {key : Nat} {m : Mt} (h : RdM0 B t key m) (w : Bool) : RdM0 B t key (w, m.2) := h
/-- at the head of the loop, with one word looked ahead -/
def HD (B : Nat) (V : Nat → Nat) (n key e : Nat) (m : Mt) (t : hS) : Prop := TpM B t V n ∧ RdM0 B t key m ∧ TsM B t m.2.1 ∧ cnt 40 m.2.1 ≤ 8 ∧ ∃ cl E, GoP B V n (bl V n e) cl E t ∧ (E = -1 ∨ ∃ k, k ≤ e ∧ E = nI k) ∧ (m.1 = true → bl V n e < n → (isL (V (bl V n e)) = true ∨ isD (V (bl V n e)) = true) → cl = false)
abbrev kr3 : Type := Nat → Int32 → Int32 → Int32 → hS → Option (Int32 × hS)
section HG
variable {B : Nat} {V : Nat → Nat} {n : Nat}
theorem m_ahead {t : hS} {key e : Nat} {m : Mt} (h : TpM B t V n) (hR : RdM0 B t key m) (hT : TsM B t m.2.1) (h8 : cnt 40 m.2.1 ≤ 8) (he : e ≤ n) (hn : hI t (B + 66) 8 = nI e) (hE : hI t (B + 66) 12 = -1 ∨ ∃ k, k ≤ e ∧ hI t (B + 66) 12 = nI k ∧ (m.1 = true → k < e)) : ∃ u, f_X7_go t (B + 66) = some ((), u) ∧ Fg B t u ∧ HD B V n key e m u := by
  have h96 := h.2.1
  have bb := bl_b (V := V) he
  obtain ⟨u, k1, f1, g1⟩ := m_go h he hn
  refine ⟨u, k1, f1, h.fg f1, hR.fg f1, hT.cgr (fun k => f1.o (by omega) k), h8, _, _, g1, ?_, ?_⟩
  · rcases hE with z | ⟨k, z1, z2, -⟩
    · exact Or.inl z
    · exact Or.inr ⟨k, z1, z2⟩
  · intro hw _ _
    apply decide_eq_false
    rcases hE with z | ⟨k, z1, z2, z3⟩
    · rw [z]
      exact nI_nn (by omega) (by decide)
    · rw [z2]
      intro y
      have := (nI_eq (by omega) (by omega)).mp y
      have := z3 hw
      omega
/-- a leaf comes to the code -/
theorem m_leafb {t : hS} {key e' : Nat} {m : Mt} {v vv : Int32} (h : TpM B t V n) (hR : RdM0 B t key m) (hT : TsM B t m.2.1) (h8 : cnt 40 m.2.1 ≤ 8) (hw : wf m.2.1) (hl : m.2.2.2.1 + m.2.1.length < 96) (he : e' ≤ n) (hn : hI t (B + 66) 8 = nI e') (hE : hI t (B + 66) 12 = nI e') (hv : vv = cmap key v) : ∃ u, f_X7_takesPart_b87 (B + 66) (B + 75) (nI m.2.2.2.1) vv t = some (1, u) ∧ Fx B t u ∧ HD B V n key e' (leafM v m) u := by
  have L := h.1
  obtain ⟨⟨h1, h2⟩, ⟨h3, h4⟩, h5, h6⟩ := hR
  subst hv
  have L3 : Lay B (uI (uI (uI t (B + 75) m.2.2.2.1 (cmap key v)) (B + 66) 17 (nI (m.2.2.2.1 + 1))) (B + 66) 18 (nI (m.2.2.2.2 + 1))) := ((L.u _ _ _).u _ _ _).u _ _ _
  have R3 : RdM0 B (uI (uI (uI t (B + 75) m.2.2.2.1 (cmap key v)) (B + 66) 17 (nI (m.2.2.2.1 + 1))) (B + 66) 18 (nI (m.2.2.2.2 + 1))) key (false, m.2.1, puts m.2.2.1 m.2.2.2.1 v, m.2.2.2.1 + 1, m.2.2.2.2 + 1) := by
    refine ⟨⟨?_, fun i hi => ?_⟩, ⟨?_, ?_⟩, ?_, uI_eq _ _ _ _⟩
    · rw [uI_ne (by omega), uI_eq]
    · rw [uI_ne (by omega), uI_ne (by omega)]
      show _ = cmap key (puts m.2.2.1 m.2.2.2.1 v i)
      by_cases e : i = m.2.2.2.1
      · rw [e, uI_eq, puts_e]
      · rw [uI_ne (by omega), puts_n e]
        refine h2 i ?_
        have : i < m.2.2.2.1 + 1 := hi
        omega
    · rw [uI_ne (by omega), uI_ne (by omega), uI_ne (by omega)]; exact h3
    · refine stk_cg m.2.1 (fun i hi => ?_) h4
      rw [uI_ne (by omega), uI_ne (by omega), uI_ne (by omega)]
    · rw [uI_ne (by omega), uI_ne (by omega), uI_ne (by omega)]; exact h5
  have F3 : Fx B t (uI (uI (uI t (B + 75) m.2.2.2.1 (cmap key v)) (B + 66) 17 (nI (m.2.2.2.1 + 1))) (B + 66) 18 (nI (m.2.2.2.2 + 1))) := ((Fx.v _ _ _ _ (Or.inl rfl)).tr (Fx.u _ _ _ (by omega))).tr (Fx.u _ _ _ (by omega))
  have e3 : ∀ k, k ≠ 17 → k ≠ 18 → hI (uI (uI (uI t (B + 75) m.2.2.2.1 (cmap key v)) (B + 66) 17 (nI (m.2.2.2.1 + 1))) (B + 66) 18 (nI (m.2.2.2.2 + 1))) (B + 66) k = hI t (B + 66) k := fun k q1 q2 => by rw [uI_ne (by omega), uI_ne (by omega), uI_ne (by omega)]
  have e7 : ∀ k, hI (uI (uI (uI t (B + 75) m.2.2.2.1 (cmap key v)) (B + 66) 17 (nI (m.2.2.2.1 + 1))) (B + 66) 18 (nI (m.2.2.2.2 + 1))) (B + 77) k = hI t (B + 77) k := fun k => by rw [uI_ne (by omega), uI_ne (by omega), uI_ne (by omega)]
  obtain ⟨u4, k4, R4, F4⟩ := m_epc m.2.1 (puts m.2.2.1 m.2.2.2.1 v) (m.2.2.2.1 + 1) _ jF L3 R3 hw (by omega) (by unfold jF; omega)
  have H4 : TpM B u4 V n := (h.fx F3).fx F4.fx
  have c4 : cnt 40 (leafM v m).2.1 = cnt 40 m.2.1 := by
    have : ∀ (p : List Nat) f c, cnt 40 (epc p f c).1 = cnt 40 p := by
      intro p
      induction p with
      | nil => intro f c; rfl
      | cons x r ih =>
        intro f c
        by_cases q : x = 33
        · subst q
          rw [epc_t, ih, cnt_n (by decide)]
        · rw [epc_f q]
    exact this _ _ _
  have T4 : TsM B u4 (leafM v m).2.1 := by
    intro j hj
    rw [c4] at hj
    rw [F4.1.2.2.2 _ (by omega), e7, hT j hj]
    show _ = bI (tv (epc m.2.1 _ _).1 j)
    rw [tv_epc]
  obtain ⟨u5, k5, F5, hd5⟩ := m_ahead (e := e') (m := leafM v m) H4 R4 T4 (by rw [c4]; exact h8) he ((F4.2 8 (by omega) (by omega)).trans ((e3 8 (by omega) (by omega)).trans hn)) (Or.inr ⟨e', Nat.le_refl e', (F4.2 12 (by omega) (by omega)).trans ((e3 12 (by omega) (by omega)).trans hE), fun z => (by cases z)⟩)
  refine ⟨u5, ?_, (F3.tr F4.fx).tr F5.fx, hd5⟩
  unfold f_X7_takesPart_b87
  refine bnd (sI_ok m.2.2.2.1 L.k75 rfl (by omega) (by decide)) (bnd (gI_ok (L.u _ _ _).km) ?_)
  rw [uI_ne (by omega), h1, nI_1]
  refine bnd (pI_ok (L.u _ _ _).km) (bnd (gI_ok ((L.u _ _ _).u _ _ _).km) ?_)
  rw [uI_ne (by omega), uI_ne (by omega), h6, nI_1]
  exact bnd (pI_ok ((L.u _ _ _).u _ _ _).km) (bnd ((cV_ok L3.km).trans k4) (bnd ((cV_ok H4.1.km).trans k5) rfl))
/-- how a step of the reference ends -/
def SM (B : Nat) (V : Nat → Nat) (n key q : Nat) (t : hS) (k28 : kr3) (o : Option (Nat × Mt)) (r : Option (Int32 × hS)) : Prop := (o = none ∧ ∃ u, r = some (0, u) ∧ Fx B t u ∧ hI u (B + 66) 9 = nI q) ∨ ∃ em u, o = some em ∧ r = k28 (B + 66) (nI (cnt 40 em.2.2.1)) (nI (cnt 33 em.2.2.1)) (bI em.2.1) u ∧ Fx B t u ∧ HD B V n key em.1 em.2 u
end HG
