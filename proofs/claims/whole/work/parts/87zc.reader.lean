/-! the class's reader -/
def stk (g : Nat → Int32) (mp : Nat → Int32) : List Nat → Prop
  | [] => True
  | x :: r => g r.length = mp x ∧ stk g mp r
theorem stk_cg {g g' mp : Nat → Int32} : ∀ p : List Nat, (∀ i, i < p.length → g' i = g i) → stk g mp p → stk g' mp p
  | [], _, _ => trivial
  | x :: r, h, q => ⟨(h r.length (by rw [List.length_cons]; omega)).trans q.1, stk_cg r (fun i hi => h i (by rw [List.length_cons]; omega)) q.2⟩
def RdC (B : Nat) (s : hS) (key : Nat) (m : Mt) : Prop := (hI s (B + 34) 2 = nI m.2.2.2.1 ∧ ∀ i, i < m.2.2.2.1 → hI s (B + 37) i = m.2.2.1 i) ∧ (hI s (B + 34) 4 = nI m.2.1.length ∧ stk (hI s (B + 38)) nI m.2.1) ∧ (hI s (B + 34) 5 = nI key ∧ hI s (B + 34) 6 = nI m.2.2.2.2) ∧ hI s (B + 34) 7 = nI (cnt 40 m.2.1) ∧ hI s (B + 34) 8 = nI (cnt 33 m.2.1) ∧ hI s (B + 34) 9 = bI m.1
def RP (B a : Nat) : Prop := a = B + 34 ∨ a = B + 37 ∨ a = B + 38
theorem TpC.sx {B : Nat} {s t : hS} {V : Nat → Nat} {n : Nat} (h : TpC B s V n) (hx : Sx (RP B) s t) : TpC B t V n := ⟨h.1.sx hx, h.2.1, (hx.2.2.2 _ (by unfold RP; omega) _).trans h.2.2.1, fun i hi => ⟨(h.2.2.2 i hi).1, by rw [hx.2.2.2 _ (by unfold RP; omega)]; exact (h.2.2.2 i hi).2⟩⟩
section RD
variable {B : Nat}
theorem RP.a {B : Nat} : RP B (B + 34) := Or.inl rfl
theorem RP.b {B : Nat} : RP B (B + 37) := Or.inr (Or.inl rfl)
theorem RP.c {B : Nat} : RP B (B + 38) := Or.inr (Or.inr rfl)
theorem c_put {s : hS} {c : Nat} (L : Lay B s) (h : hI s (B + 34) 2 = nI c) (hc : c < 96) (v : Int32) : f_X0_put s (B + 34) v = some ((), uI (uI s (B + 37) c v) (B + 34) 2 (nI (c + 1))) := by
  unfold f_X0_put
  refine bnd (gI_ok L.k34) (bnd L.q1 (bnd (aL_ok L.k37) ?_))
  rw [h]
  refine ifn (nI_ge (by omega) (by decide)) (bnd L.q1 (bnd (gI_ok L.k34) ?_))
  rw [h]
  refine bnd (sI_ok c L.k37 rfl hc (by decide)) (bnd (gI_ok (L.u _ _ _).k34) ?_)
  rw [uI_ne (by omega), h, nI_1]
  exact bnd (pI_ok (L.u _ _ _).k34) rfl
theorem c_rkO {s : hS} {x : Nat} (hx : x < 256) : f_X0_rankOf s (B + 34) (nI x) = some (nI (rk x), s) := by
  have ne : ∀ k : Nat, k < 256 → x ≠ k → ¬ nI x = nI k := fun k hk h e => h ((nI_eq (by omega) (by omega)).mp e)
  unfold f_X0_rankOf
  by_cases h : 1 ≤ rk x
  · rcases rk_c h with rfl | rfl | rfl | rfl | rfl | rfl | rfl | rfl | rfl <;> rfl
  · have h0 : rk x = 0 := by omega
    have n1 : x ≠ 124 ∧ x ≠ 38 ∧ x ≠ 60 ∧ x ≠ 61 ∧ x ≠ 62 ∧ x ≠ 43 ∧ x ≠ 45 ∧ x ≠ 42 ∧ x ≠ 47 := by
      refine ⟨?_, ?_, ?_, ?_, ?_, ?_, ?_, ?_, ?_⟩ <;> (rintro rfl; exact absurd h0 (by decide))
    rw [h0]
    exact ifn (ne 38 (by decide) n1.2.1) (ifn (ne 42 (by decide) n1.2.2.2.2.2.2.2.1) (ifn (ne 43 (by decide) n1.2.2.2.2.2.1) (ifn (ne 45 (by decide) n1.2.2.2.2.2.2.1) (ifn (ne 47 (by decide) n1.2.2.2.2.2.2.2.2) (ifn (ne 60 (by decide) n1.2.2.1) (ifn (ne 61 (by decide) n1.2.2.2.1) (ifn (ne 62 (by decide) n1.2.2.2.2.1) (ifn (ne 124 (by decide) n1.1) rfl))))))))
theorem c_top {s : hS} {key : Nat} {m : Mt} (L : Lay B s) (h : RdC B s key m) (hw : wf m.2.1) (hl : m.2.1.length ≤ 96) : f_X0_topRank s (B + 34) = some (nI (rk (hd0 m.2.1)), s) := by
  obtain ⟨w, p, f, c, a⟩ := m
  have h4 := h.2.1.1
  have st := h.2.1.2
  dsimp only at h4 st hw hl ⊢
  unfold f_X0_topRank
  refine bnd (gI_ok L.k34) ?_
  rw [h4]
  cases p with
  | nil => exact ifp (by decide) rfl
  | cons x r =>
    rw [List.length_cons] at h4 hl ⊢
    have hb := wf_b hw x (List.mem_cons_self ..)
    refine ifn (nI_nle (by omega) (by omega)) (bnd L.q3 (bnd (gI_ok L.k34) ?_))
    rw [h4]
    refine bnd (aI_ok r.length L.k38 (nI_pred _) (by omega) (by decide)) ?_
    rw [st.1]
    exact bnd ((cV_ok L.k34).trans (c_rkO hb)) rfl
/-- one comes off the pile and goes to the code -/
theorem RdC.pp {s : hS} {key x : Nat} {w : Bool} {r : List Nat} {f : Nat → Int32} {c a : Nat} (h : RdC B s key (w, x :: r, f, c, a)) (n40 : x ≠ 40) (n33 : x ≠ 33) (v : Int32) : RdC B (uI (uI (uI s (B + 34) 4 (nI r.length)) (B + 37) c v) (B + 34) 2 (nI (c + 1))) key (w, r, puts f c v, c + 1, a) := by
  obtain ⟨⟨h1, h2⟩, ⟨h3, h4⟩, ⟨h5, h6⟩, h7, h8, h9⟩ := h
  dsimp only at h1 h2 h3 h4 h5 h6 h7 h8 h9
  rw [cnt_n n40] at h7
  rw [cnt_n n33] at h8
  refine ⟨⟨uI_eq _ _ _ _, fun i hi => ?_⟩, ⟨?_, ?_⟩, ⟨?_, ?_⟩, ?_, ?_, ?_⟩
  · rw [uI_ne (by omega)]
    by_cases e : i = c
    · rw [e, uI_eq]
      exact (puts_e f c v).symm
    · rw [uI_ne (by omega), uI_ne (by omega)]
      refine (h2 i ?_).trans (puts_n e).symm
      have : i < c + 1 := hi
      omega
  · rw [uI_ne (by omega), uI_ne (by omega), uI_eq]
  · refine stk_cg r (fun i hi => ?_) h4.2
    rw [uI_ne (by omega), uI_ne (by omega), uI_ne (by omega)]
  · rw [uI_ne (by omega), uI_ne (by omega), uI_ne (by omega)]; exact h5
  · rw [uI_ne (by omega), uI_ne (by omega), uI_ne (by omega)]; exact h6
  · rw [uI_ne (by omega), uI_ne (by omega), uI_ne (by omega)]; exact h7
  · rw [uI_ne (by omega), uI_ne (by omega), uI_ne (by omega)]; exact h8
  · rw [uI_ne (by omega), uI_ne (by omega), uI_ne (by omega)]; exact h9
theorem c_rel {key k : Nat} (hk : 1 ≤ k) (hk5 : k ≤ 5) {w : Bool} {a : Nat} : ∀ (p : List Nat) f c s fuel, Lay B s → RdC B s key (w, p, f, c, a) → wf p → c + p.length ≤ 96 → p.length < fuel → ∃ s', jL f_X0_release_b0 (fun _ _ _ => none) fuel (B + 34) (nI k) s = some ((), s') ∧ RdC B s' key (w, (rel k p f c).1, (rel k p f c).2.1, (rel k p f c).2.2, a) ∧ Sx (RP B) s s'
  | [], f, c, s, fuel + 1, L, h, hw, hl, hf => by
    refine ⟨s, ?_, h, Sx.rf _ s⟩
    show f_X0_release_b0 (jL f_X0_release_b0 (fun _ _ _ => none) fuel) (B + 34) (nI k) s = _
    unfold f_X0_release_b0
    refine bnd (gI_ok L.k34) ?_
    rw [h.2.1.1]
    exact ifp (show nI 0 ≤ 0 by decide) rfl
  | x :: r, f, c, s, fuel + 1, L, h, hw, hl, hf => by
    have h4 := h.2.1.1
    have st := h.2.1.2
    dsimp only at h4 st
    rw [List.length_cons] at h4 hl hf
    have tr := c_top L h hw (by show (x :: r).length ≤ 96; rw [List.length_cons]; omega)
    have r5 := rk_le x
    have pre : ∀ X, (if nI (rk x) < nI k then some ((), s) else (cV (uI s (B + 34) 4 (nI r.length)) (B + 34) 0 (f_X0_put (uI s (B + 34) 4 (nI r.length)) (B + 34) (-nI x))).bind fun p8 => jL f_X0_release_b0 (fun _ _ _ => none) fuel (B + 34) (nI k) p8.2) = X → jL f_X0_release_b0 (fun _ _ _ => none) (fuel + 1) (B + 34) (nI k) s = X := by
      intro X hX
      show f_X0_release_b0 (jL f_X0_release_b0 (fun _ _ _ => none) fuel) (B + 34) (nI k) s = X
      unfold f_X0_release_b0
      refine bnd (gI_ok L.k34) ?_
      rw [h4]
      refine ifn (nI_nle (by omega) (by omega)) (bnd ((cV_ok L.k34).trans tr) ?_)
      show (if nI (rk x) < nI k then some ((), s) else _) = X
      by_cases q : nI (rk x) < nI k
      · rw [if_pos q] at hX ⊢
        exact hX
      · rw [if_neg q] at hX ⊢
        refine bnd (gI_ok L.k34) ?_
        rw [h4, nI_pred]
        refine bnd (pI_ok L.k34) (bnd (L.u _ _ _).q3 (bnd (gI_ok (L.u _ _ _).k34) ?_))
        rw [uI_eq]
        refine bnd (aI_ok r.length (L.u _ _ _).k38 rfl (by omega) (by decide)) ?_
        rw [uI_ne (by omega), st.1]
        exact hX
    by_cases q : k ≤ rk x
    · have xc := rk_c (show 1 ≤ rk x by omega)
      have pt := c_put (s := uI s (B + 34) 4 (nI r.length)) (c := c) (L.u _ _ _) ((uI_ne (by omega)).trans h.1.1) (by omega) (-nI x)
      obtain ⟨s', k1, c1, x1⟩ := c_rel hk hk5 r (puts f c (-nI x)) (c + 1) _ fuel (((L.u _ _ _).u _ _ _).u _ _ _) (h.pp (by omega) (by omega) (-nI x)) hw.1 (by omega) (by omega)
      rw [rel_t q]
      refine ⟨s', pre _ (ifn (nI_nlt q (by omega)) (bnd ((cV_ok (L.u _ _ _).k34).trans pt) k1)), c1, (((Sx.u _ _ _ _ RP.a).tr (Sx.u _ _ _ _ RP.b)).tr (Sx.u _ _ _ _ RP.a)).tr x1⟩
    · rw [rel_f q]
      exact ⟨s, pre _ (ifp (nI_lt (by omega) (by omega)) rfl), h, Sx.rf _ s⟩
theorem c_epc {key : Nat} {w : Bool} {a : Nat} : ∀ (p : List Nat) f c s fuel, Lay B s → RdC B s key (w, p, f, c, a) → c + p.length ≤ 96 → p.length < fuel → (∀ x ∈ p, x < 256) → ∃ s', jL f_X0_endPiece_b5 (fun _ _ => none) fuel (B + 34) s = some ((), s') ∧ RdC B s' key (w, (epc p f c).1, (epc p f c).2.1, (epc p f c).2.2, a) ∧ Sx (RP B) s s'
  | [], f, c, s, fuel + 1, L, h, hl, hf, hb => by
    refine ⟨s, ?_, h, Sx.rf _ s⟩
    show f_X0_endPiece_b5 (jL f_X0_endPiece_b5 (fun _ _ => none) fuel) (B + 34) s = _
    unfold f_X0_endPiece_b5
    refine bnd (gI_ok L.k34) ?_
    rw [h.2.1.1]
    exact ifp (show nI 0 ≤ 0 by decide) rfl
  | x :: r, f, c, s, fuel + 1, L, h, hl, hf, hb => by
    have h4 := h.2.1.1
    have st := h.2.1.2
    have h8 := h.2.2.2.2.1
    dsimp only at h4 st h8
    rw [List.length_cons] at h4 hl hf
    have x256 := hb x (List.mem_cons_self ..)
    by_cases q : x = 33
    · subst q
      rw [cnt_e] at h8
      obtain ⟨⟨g1, g2⟩, ⟨g3, g4⟩, ⟨g5, g6⟩, g7, g8, g9⟩ := h
      dsimp only at g1 g2 g3 g4 g5 g6 g7 g8 g9
      rw [cnt_n (by decide : (33 : Nat) ≠ 40)] at g7
      have pt := c_put (s := uI (uI s (B + 34) 4 (nI r.length)) (B + 34) 8 (nI (cnt 33 r))) (c := c) ((L.u _ _ _).u _ _ _) (by rw [uI_ne (by omega), uI_ne (by omega)]; exact g1) (by omega) (-33)
      have hR : RdC B (uI (uI (uI (uI s (B + 34) 4 (nI r.length)) (B + 34) 8 (nI (cnt 33 r))) (B + 37) c (-33)) (B + 34) 2 (nI (c + 1))) key (w, r, puts f c (-33), c + 1, a) := by
        refine ⟨⟨uI_eq _ _ _ _, fun i hi => ?_⟩, ⟨?_, ?_⟩, ⟨?_, ?_⟩, ?_, ?_, ?_⟩
        · rw [uI_ne (by omega)]
          by_cases e : i = c
          · rw [e, uI_eq]
            exact (puts_e f c (-33)).symm
          · rw [uI_ne (by omega), uI_ne (by omega), uI_ne (by omega)]
            refine (g2 i ?_).trans (puts_n e).symm
            have : i < c + 1 := hi
            omega
        · rw [uI_ne (by omega), uI_ne (by omega), uI_ne (by omega), uI_eq]
        · refine stk_cg r (fun i hi => ?_) g4.2
          rw [uI_ne (by omega), uI_ne (by omega), uI_ne (by omega), uI_ne (by omega)]
        · rw [uI_ne (by omega), uI_ne (by omega), uI_ne (by omega), uI_ne (by omega)]; exact g5
        · rw [uI_ne (by omega), uI_ne (by omega), uI_ne (by omega), uI_ne (by omega)]; exact g6
        · rw [uI_ne (by omega), uI_ne (by omega), uI_ne (by omega), uI_ne (by omega)]; exact g7
        · rw [uI_ne (by omega), uI_ne (by omega), uI_eq]
        · rw [uI_ne (by omega), uI_ne (by omega), uI_ne (by omega), uI_ne (by omega)]; exact g9
      obtain ⟨s', k1, c1, x1⟩ := c_epc r (puts f c (-33)) (c + 1) _ fuel ((((L.u _ _ _).u _ _ _).u _ _ _).u _ _ _) hR (by omega) (by omega) (fun y hy => hb y (List.mem_cons_of_mem _ hy))
      rw [epc_t]
      refine ⟨s', ?_, c1, ((((Sx.u _ _ _ _ RP.a).tr (Sx.u _ _ _ _ RP.a)).tr (Sx.u _ _ _ _ RP.b)).tr (Sx.u _ _ _ _ RP.a)).tr x1⟩
      show f_X0_endPiece_b5 (jL f_X0_endPiece_b5 (fun _ _ => none) fuel) (B + 34) s = _
      unfold f_X0_endPiece_b5
      refine bnd (gI_ok L.k34) ?_
      rw [h4]
      refine ifn (nI_nle (by omega) (by omega)) (bnd L.q3 (bnd (gI_ok L.k34) ?_))
      rw [h4]
      refine bnd (aI_ok r.length L.k38 (nI_pred _) (by omega) (by decide)) ?_
      rw [st.1]
      refine ifp rfl (bnd (gI_ok L.k34) ?_)
      rw [h4, nI_pred]
      refine bnd (pI_ok L.k34) (bnd (gI_ok (L.u _ _ _).k34) ?_)
      rw [uI_ne (by omega), h8, nI_pred]
      exact bnd (pI_ok (L.u _ _ _).k34) (bnd ((cV_ok ((L.u _ _ _).u _ _ _).k34).trans pt) k1)
    · rw [epc_f q]
      refine ⟨s, ?_, h, Sx.rf _ s⟩
      show f_X0_endPiece_b5 (jL f_X0_endPiece_b5 (fun _ _ => none) fuel) (B + 34) s = _
      unfold f_X0_endPiece_b5
      refine bnd (gI_ok L.k34) ?_
      rw [h4]
      refine ifn (nI_nle (by omega) (by omega)) (bnd L.q3 (bnd (gI_ok L.k34) ?_))
      rw [h4]
      refine bnd (aI_ok r.length L.k38 (nI_pred _) (by omega) (by decide)) ?_
      rw [st.1]
      exact ifn (fun z => q ((nI_eq (b := 33) (by omega) (by decide)).mp z)) rfl
/-- a flag, or a number, of the reader is put -/
theorem RdC.w9 {s : hS} {key : Nat} {m : Mt} (h : RdC B s key m) (w : Bool) : RdC B (uI s (B + 34) 9 (bI w)) key (w, m.2) := by
  obtain ⟨⟨h1, h2⟩, ⟨h3, h4⟩, ⟨h5, h6⟩, h7, h8, h9⟩ := h
  refine ⟨⟨(uI_ne (by omega)).trans h1, fun i hi => (uI_ne (by omega)).trans (h2 i hi)⟩, ⟨(uI_ne (by omega)).trans h3, stk_cg _ (fun i hi => uI_ne (by omega)) h4⟩, ⟨(uI_ne (by omega)).trans h5, (uI_ne (by omega)).trans h6⟩, (uI_ne (by omega)).trans h7, (uI_ne (by omega)).trans h8, uI_eq _ _ _ _⟩
theorem c_end {s : hS} {key : Nat} {m : Mt} (L : Lay B s) (h : RdC B s key m) (hl : m.2.2.2.1 + m.2.1.length ≤ 96) (hb : ∀ x ∈ m.2.1, x < 256) : ∃ s', f_X0_endPiece s (B + 34) = some ((), s') ∧ RdC B s' key (false, (epc m.2.1 m.2.2.1 m.2.2.2.1).1, (epc m.2.1 m.2.2.1 m.2.2.2.1).2.1, (epc m.2.1 m.2.2.1 m.2.2.2.1).2.2, m.2.2.2.2) ∧ Sx (RP B) s s' := by
  obtain ⟨s', k1, c1, x1⟩ := c_epc (B := B) m.2.1 m.2.2.1 m.2.2.2.1 (uI s (B + 34) 9 0) jF (L.u _ _ _) (h.w9 false) hl (by unfold jF; omega) hb
  refine ⟨s', ?_, c1, (Sx.u _ _ _ _ RP.a).tr x1⟩
  unfold f_X0_endPiece
  exact bnd (pZ_ok L.k34 (Or.inl rfl)) k1
theorem c_leaf {s : hS} {key : Nat} {m : Mt} {v : Int32} (L : Lay B s) (h : RdC B s key m) (hl : m.2.2.2.1 + m.2.1.length < 96) (hb : ∀ x ∈ m.2.1, x < 256) : ∃ s', f_X0_putLeaf s (B + 34) v = some ((), s') ∧ RdC B s' key (leafM v m) ∧ Sx (RP B) s s' := by
  obtain ⟨⟨h1, h2⟩, ⟨h3, h4⟩, ⟨h5, h6⟩, h7, h8, h9⟩ := h
  have pt := c_put (s := uI s (B + 34) 6 (nI (m.2.2.2.2 + 1))) (c := m.2.2.2.1) (L.u _ _ _) ((uI_ne (by omega)).trans h1) (by omega) v
  have hR : RdC B (uI (uI (uI s (B + 34) 6 (nI (m.2.2.2.2 + 1))) (B + 37) m.2.2.2.1 v) (B + 34) 2 (nI (m.2.2.2.1 + 1))) key (m.1, m.2.1, puts m.2.2.1 m.2.2.2.1 v, m.2.2.2.1 + 1, m.2.2.2.2 + 1) := by
    refine ⟨⟨uI_eq _ _ _ _, fun i hi => ?_⟩, ⟨?_, ?_⟩, ⟨?_, ?_⟩, ?_, ?_, ?_⟩
    · rw [uI_ne (by omega)]
      by_cases e : i = m.2.2.2.1
      · rw [e, uI_eq]
        exact (puts_e _ _ v).symm
      · rw [uI_ne (by omega), uI_ne (by omega)]
        refine (h2 i ?_).trans (puts_n e).symm
        have : i < m.2.2.2.1 + 1 := hi
        omega
    · rw [uI_ne (by omega), uI_ne (by omega), uI_ne (by omega)]; exact h3
    · refine stk_cg m.2.1 (fun i hi => ?_) h4
      rw [uI_ne (by omega), uI_ne (by omega), uI_ne (by omega)]
    · rw [uI_ne (by omega), uI_ne (by omega), uI_ne (by omega)]; exact h5
    · rw [uI_ne (by omega), uI_ne (by omega), uI_eq]
    · rw [uI_ne (by omega), uI_ne (by omega), uI_ne (by omega)]; exact h7
    · rw [uI_ne (by omega), uI_ne (by omega), uI_ne (by omega)]; exact h8
    · rw [uI_ne (by omega), uI_ne (by omega), uI_ne (by omega)]; exact h9
  have L3 : Lay B (uI (uI (uI s (B + 34) 6 (nI (m.2.2.2.2 + 1))) (B + 37) m.2.2.2.1 v) (B + 34) 2 (nI (m.2.2.2.1 + 1))) := ((L.u _ _ _).u _ _ _).u _ _ _
  obtain ⟨s', k1, c1, x1⟩ := c_end L3 hR (by show m.2.2.2.1 + 1 + m.2.1.length ≤ 96; omega) hb
  refine ⟨s', ?_, c1, (((Sx.u _ _ _ _ RP.a).tr (Sx.u _ _ _ _ RP.b)).tr (Sx.u _ _ _ _ RP.a)).tr x1⟩
  unfold f_X0_putLeaf
  refine bnd (gI_ok L.k34) ?_
  rw [h6, nI_1]
  exact bnd (pI_ok L.k34) (bnd ((cV_ok (L.u _ _ _).k34).trans pt) (bnd ((cV_ok L3.k34).trans k1) rfl))
theorem c_pile {s : hS} {x l : Nat} (L : Lay B s) (h : hI s (B + 34) 4 = nI l) (hl : l < 96) : f_X0_pileUp s (B + 34) (nI x) = some ((), uI (uI s (B + 38) l (nI x)) (B + 34) 4 (nI (l + 1))) := by
  unfold f_X0_pileUp
  refine bnd (gI_ok L.k34) (bnd L.q3 (bnd (aL_ok L.k38) ?_))
  rw [h]
  refine ifn (nI_ge (by omega) (by decide)) (bnd L.q3 (bnd (gI_ok L.k34) ?_))
  rw [h]
  refine bnd (sI_ok l L.k38 rfl hl (by decide)) (bnd (gI_ok (L.u _ _ _).k34) ?_)
  rw [uI_ne (by omega), h, nI_1]
  exact bnd (pI_ok (L.u _ _ _).k34) rfl
theorem c_nam {s : hS} {key v : Nat} (L : Lay B s) (h : hI s (B + 34) 5 = nI key) (hk : key < 3) (hv : v < 256) : f_X0_nameOf s (B + 34) (nI v) = some (nmC key v, s) := by
  have ne : ∀ k : Nat, k < 256 → v ≠ k → ¬ nI v = nI k := fun k hk h e => h ((nI_eq (by omega) (by omega)).mp e)
  have k2 : ∀ {α : Type} (a b : α), (if nI key = (2 : Int32) then a else b) = (if key = 2 then a else b) := fun a b => by
    by_cases z : key = 2
    · rw [if_pos z]; exact if_pos (by rw [z]; rfl)
    · rw [if_neg z]; exact if_neg (fun q => z ((nI_eq (b := 2) (by omega) (by decide)).mp q))
  have k0 : ∀ {α : Type} (a b : α), (if nI key = 0 then a else b) = (if key = 0 then a else b) := fun a b => by
    by_cases z : key = 0
    · rw [if_pos z]; exact if_pos (by rw [z]; rfl)
    · rw [if_neg z]; exact if_neg (fun q => z ((nI_eq (b := 0) (by omega) (by decide)).mp q))
  unfold f_X0_nameOf nmC
  by_cases h1 : v = 104
  · rw [if_pos h1]
    refine ifp (by rw [h1]; rfl) (bnd (gI_ok L.k34) ?_)
    rw [h, k2]
    by_cases z : key = 2
    · rw [if_pos z, if_pos z]
    · rw [if_neg z, if_neg z]
  rw [if_neg h1]
  refine ifn (ne 104 (by decide) h1) ?_
  by_cases h2 : v = 107
  · rw [if_pos h2]
    refine ifp (by rw [h2]; rfl) (bnd (gI_ok L.k34) ?_)
    rw [h, k2]
    by_cases z : key = 2
    · rw [if_pos z, if_pos z]
    · rw [if_neg z, if_neg z]
  rw [if_neg h2]
  refine ifn (ne 107 (by decide) h2) ?_
  by_cases h3 : v = 110
  · rw [if_pos h3]
    refine ifp (by rw [h3]; rfl) (bnd (gI_ok L.k34) ?_)
    rw [h, k0]
    by_cases z : key = 0
    · rw [if_pos z, if_pos z]
    · rw [if_neg z, if_neg z]
  rw [if_neg h3]
  refine ifn (ne 110 (by decide) h3) ?_
  by_cases h4 : v = 115
  · rw [if_pos h4]
    refine ifp (by rw [h4]; rfl) (bnd (gI_ok L.k34) ?_)
    rw [h, k2]
    by_cases z : key = 2
    · rw [if_pos z, if_pos z]
    · rw [if_neg z, if_neg z]
  rw [if_neg h4]
  refine ifn (ne 115 (by decide) h4) ?_
  by_cases h5 : v = 119
  · rw [if_pos h5]
    refine ifp (by rw [h5]; rfl) (bnd (gI_ok L.k34) ?_)
    rw [h, k2]
    by_cases z : key = 2
    · rw [if_pos z, if_pos z]
    · rw [if_neg z, if_neg z]
  rw [if_neg h5]
  exact ifn (ne 119 (by decide) h5) rfl
end RD
