/-! the whole of a text -/
theorem rel_nil : ∀ p f c, wf p → hd0 p ≠ 33 → cnt 40 p = 0 → (rel 1 p f c).1 = []
  | [], f, c, _, _, _ => rfl
  | x :: r, f, c, h1, h2, h3 => by
    rcases h1.2 with z | z | z
    · exact absurd z h2
    · subst z
      rw [cnt_e] at h3
      omega
    · have xc := rk_c z.1
      rw [cnt_n (by omega)] at h3
      rw [rel_t z.1]
      exact rel_nil r _ _ h1.1 z.2.1 h3
theorem run_ok {V : Nat → Nat} {n key : Nat} : ∀ d e m f c a, MI key e m → e ≤ n → runM V n key d e m = .inr (f, c, a) → rpn f c = some 1 ∧ (∀ i, i < c → cok key (f i)) ∧ c ≤ n
  | 0, e, m, f, c, a, hm, he, h => by cases h
  | d + 1, e, m, f, c, a, hm, he, h => by
    have bb := bl_b (V := V) he
    by_cases q : n ≤ bl V n e
    · have er : runM V n key (d + 1) e m = (if m.1 = true ∨ cnt 40 m.2.1 ≠ 0 then .inl n else .inr ((rel 1 m.2.1 m.2.2.1 m.2.2.2.1).2.1, (rel 1 m.2.1 m.2.2.1 m.2.2.2.1).2.2, m.2.2.2.2)) := if_pos q
      rw [er] at h
      by_cases w : m.1 = true ∨ cnt 40 m.2.1 ≠ 0
      · rw [if_pos w] at h
        cases h
      · rw [if_neg w] at h
        cases h
        have w1 : m.1 = false := by
          cases z : m.1
          · rfl
          · exact absurd (Or.inl z) w
        have w2 : cnt 40 m.2.1 = 0 := by
          apply Classical.byContradiction
          exact fun z => w (Or.inr z)
        obtain ⟨h1, h2, h3, h4, h5⟩ := hm
        rw [if_neg (by rw [w1]; decide)] at h4
        have ri := rel_inv (key := key) (k := 1) (by decide) m.2.1 m.2.2.1 m.2.2.2.1 h1 (h2 w1) h4 h5
        have rn := rel_nil m.2.1 m.2.2.1 m.2.2.2.1 h1 (h2 w1) w2
        have r3 := ri.2.2.1
        rw [rn] at r3
        have r5 := ri.2.2.2.2.1
        exact ⟨r3, ri.2.2.2.1, by omega⟩
    · cases st : stpM V n key (bl V n e) m with
      | none =>
        have er : runM V n key (d + 1) e m = .inl (bl V n e) := by
          conv => lhs; unfold runM
          rw [if_neg q, st]
        rw [er] at h
        cases h
      | some em =>
        have er : runM V n key (d + 1) e m = runM V n key d em.1 em.2 := by
          conv => lhs; unfold runM
          rw [if_neg q, st]
        rw [er] at h
        have iv := stp_inv (e' := em.1) (m' := em.2) (by omega) (hm.mono bb.1) st
        exact run_ok d em.1 em.2 f c a iv.1 iv.2.2 h
def m0 : Mt := (true, [], fun _ => 0, 0, 0)
theorem m0_i (key e : Nat) : MI key e m0 := ⟨trivial, fun z => (by cases z), Nat.zero_le _, rfl, fun i hi => absurd hi (Nat.not_lt_zero i)⟩
def wdn (V : Nat → Nat) (n q : Nat) : Nat := if q < n then wd V n q else n
def txtM (V : Nat → Nat) (n : Nat) : Nat ⊕ (Nat × (Nat → Int32) × Nat × Nat) :=
  match keyM V (bl V n 0) (wdn V n (bl V n 0)) with
  | none => .inl (bl V n 0)
  | some k => if wdn V n (bl V n 0) < n ∧ isD (V (wdn V n (bl V n 0))) = true then .inl (wdn V n (bl V n 0)) else
      match runM V n k (n + 1) (wdn V n (bl V n 0)) m0 with
      | .inl q => .inl q
      | .inr y => .inr (k, y)
theorem wdn_b {V : Nat → Nat} {n q : Nat} (h : q ≤ n) : q ≤ wdn V n q ∧ wdn V n q ≤ n := by
  unfold wdn
  by_cases c : q < n
  · rw [if_pos c]
    have := wd_b (V := V) c
    omega
  · rw [if_neg c]
    omega
theorem keyM_c {V : Nat → Nat} {a e k : Nat} (h : keyM V a e = some k) : k < 3 ∧ isW V k a e = true := by
  unfold keyM at h
  by_cases h0 : isW V 0 a e = true
  · rw [if_pos h0] at h
    cases h
    exact ⟨by decide, h0⟩
  rw [if_neg h0] at h
  by_cases h1 : isW V 1 a e = true
  · rw [if_pos h1] at h
    cases h
    exact ⟨by decide, h1⟩
  rw [if_neg h1] at h
  by_cases h2 : isW V 2 a e = true
  · rw [if_pos h2] at h
    cases h
    exact ⟨by decide, h2⟩
  rw [if_neg h2] at h
  cases h
theorem isW_c {V : Nat → Nat} {a e k : Nat} (hk : k < 3) (h : isW V k a e = true) : 4 ≤ e - a ∧ isL (V a) = true := by
  unfold isW at h
  rw [Bool.and_eq_true] at h
  have h1 := of_decide_eq_true h.1
  have wl := wds_len k hk
  refine ⟨by omega, ?_⟩
  have hd := wds_hd k hk
  have h2 := h.2
  cases e1 : wds k with
  | nil => rw [e1] at wl; exact absurd wl.2.2 (by decide)
  | cons x r =>
    rw [e1] at h2 hd
    have h3 : (decide (V a = x) && wmt V (a + 1) r) = true := h2
    rw [Bool.and_eq_true] at h3
    rw [of_decide_eq_true h3.1]
    exact hd
/-! the class reads it -/
def CX (B : Nat) (s : hS) (o : Nat ⊕ (Nat × (Nat → Int32) × Nat × Nat)) (r : Option (Int32 × hS)) : Prop := ∃ s', Sx (RP B) s s' ∧ ((∃ q, q ≤ 96 ∧ o = .inl q ∧ r = some (nI q, s')) ∨ ∃ key f c a, o = .inr (key, f, c, a) ∧ r = some (-1, s') ∧ hI s' (B + 34) 2 = nI c ∧ (∀ i, i < c → hI s' (B + 37) i = f i) ∧ hI s' (B + 34) 5 = nI key ∧ hI s' (B + 34) 6 = nI a)
theorem c_find {B : Nat} {s : hS} {V : Nat → Nat} {n : Nat} (h : TpC B s V n) : CX B s (txtM V n) (f_X0_findFault s (B + 34)) := by
  have L := h.1
  have h96 := h.2.1
  have bb := bl_b (V := V) (Nat.zero_le n)
  have wb := wdn_b (V := V) bb.2
  obtain ⟨s6, hs6⟩ : ∃ s6, s6 = uI (uI (uI (uI (uI (uI s (B + 34) 2 0) (B + 34) 4 0) (B + 34) 6 0) (B + 34) 7 0) (B + 34) 8 0) (B + 34) 9 1 := ⟨_, rfl⟩
  have X6 : Sx (RP B) s s6 := by
    rw [hs6]
    exact (((((Sx.u _ _ _ _ RP.a).tr (Sx.u _ _ _ _ RP.a)).tr (Sx.u _ _ _ _ RP.a)).tr (Sx.u _ _ _ _ RP.a)).tr (Sx.u _ _ _ _ RP.a)).tr (Sx.u _ _ _ _ RP.a)
  have h6 := h.sx X6
  have L6 := h6.1
  have f6 : hI s6 (B + 34) 2 = 0 ∧ hI s6 (B + 34) 4 = 0 ∧ hI s6 (B + 34) 6 = 0 ∧ hI s6 (B + 34) 7 = 0 ∧ hI s6 (B + 34) 8 = 0 ∧ hI s6 (B + 34) 9 = 1 := by
    rw [hs6]
    refine ⟨?_, ?_, ?_, ?_, ?_, uI_eq _ _ _ _⟩
    · rw [uI_ne (by omega), uI_ne (by omega), uI_ne (by omega), uI_ne (by omega), uI_ne (by omega), uI_eq]
    · rw [uI_ne (by omega), uI_ne (by omega), uI_ne (by omega), uI_ne (by omega), uI_eq]
    · rw [uI_ne (by omega), uI_ne (by omega), uI_ne (by omega), uI_eq]
    · rw [uI_ne (by omega), uI_ne (by omega), uI_eq]
    · rw [uI_ne (by omega), uI_eq]
  have cw : f_X3_behindWord s6 (B + 35) (nI (bl V n 0)) = some (nI (wdn V n (bl V n 0)), s6) := by
    unfold wdn
    by_cases c : bl V n 0 < n
    · rw [if_pos c]
      exact c_wd h6 c
    · rw [if_neg c, show bl V n 0 = n by omega]
      exact c_wdn h6
  have ck := c_key h6 wb.1 wb.2
  have L12 := L6.u (B + 34) 5 (ltI (keyM V (bl V n 0) (wdn V n (bl V n 0))))
  have X12 : Sx (RP B) s (uI s6 (B + 34) 5 (ltI (keyM V (bl V n 0) (wdn V n (bl V n 0))))) := X6.tr (Sx.u _ _ _ _ RP.a)
  have h12 := h.sx X12
  have pre : ∀ X, (if ltI (keyM V (bl V n 0) (wdn V n (bl V n 0))) = (-1 : Int32) then some (nI (bl V n 0), uI s6 (B + 34) 5 (ltI (keyM V (bl V n 0) (wdn V n (bl V n 0))))) else (gR (uI s6 (B + 34) 5 (ltI (keyM V (bl V n 0) (wdn V n (bl V n 0))))) (B + 34) 0 0).bind fun a14 => (cV (uI s6 (B + 34) 5 (ltI (keyM V (bl V n 0) (wdn V n (bl V n 0))))) a14 3 (f_X3_hasDigit (uI s6 (B + 34) 5 (ltI (keyM V (bl V n 0) (wdn V n (bl V n 0))))) a14 (nI (wdn V n (bl V n 0))))).bind fun p15 => if p15.1 = 0 then jL f_X0_findFault_b83 (fun _ _ _ _ => none) jF (B + 34) (nI (wdn V n (bl V n 0))) (0 : Int32) p15.2 else some (nI (wdn V n (bl V n 0)), p15.2)) = X → f_X0_findFault s (B + 34) = X := by
    intro X hX
    unfold f_X0_findFault
    refine bnd (pI_ok L.k34) (bnd (pI_ok (L.u _ _ _).k34) (bnd (pI_ok ((L.u _ _ _).u _ _ _).k34) (bnd (pI_ok (((L.u _ _ _).u _ _ _).u _ _ _).k34) (bnd (pI_ok ((((L.u _ _ _).u _ _ _).u _ _ _).u _ _ _).k34) (bnd (pZ_ok (((((L.u _ _ _).u _ _ _).u _ _ _).u _ _ _).u _ _ _).k34 (Or.inr rfl)) ?_)))))
    rw [← hs6]
    refine bnd L6.q0 (bnd ((cV_ok L6.k35).trans (c_blk h6 (i := 0) (Nat.zero_le n))) (bnd L6.q0 (bnd ((cV_ok L6.k35).trans cw) (bnd ((cV_ok L6.k34).trans ck) (bnd (pI_ok L6.k34) (bnd (gI_ok L12.k34) ?_))))))
    rw [uI_eq]
    exact hX
  unfold txtM
  cases ek : keyM V (bl V n 0) (wdn V n (bl V n 0)) with
  | none =>
    rw [ek] at pre X12
    exact ⟨_, X12, Or.inl ⟨_, by omega, rfl, pre _ (ifp rfl rfl)⟩⟩
  | some k =>
    rw [ek] at pre X12 h12 L12
    have kc := keyM_c ek
    have wc := isW_c kc.1 kc.2
    have nk : ¬ ltI (some k) = -1 := (ltI_m (by omega)).1
    by_cases c : wdn V n (bl V n 0) < n ∧ isD (V (wdn V n (bl V n 0))) = true
    · show CX B s (if wdn V n (bl V n 0) < n ∧ isD (V (wdn V n (bl V n 0))) = true then .inl (wdn V n (bl V n 0)) else _) _
      rw [if_pos c]
      have dg := c_dig h12 c.1
      rw [c.2] at dg
      exact ⟨_, X12, Or.inl ⟨_, by omega, rfl, pre _ (ifn nk (bnd L12.q0 (bnd ((cV_ok L12.k35).trans dg) (ifn one_ne rfl))))⟩⟩
    · show CX B s (if wdn V n (bl V n 0) < n ∧ isD (V (wdn V n (bl V n 0))) = true then .inl (wdn V n (bl V n 0)) else (match runM V n k (n + 1) (wdn V n (bl V n 0)) m0 with | .inl q => .inl q | .inr y => .inr (k, y))) _
      rw [if_neg c]
      have dg : f_X3_hasDigit (uI s6 (B + 34) 5 (ltI (some k))) (B + 35) (nI (wdn V n (bl V n 0))) = some (0, uI s6 (B + 34) 5 (ltI (some k))) := by
        by_cases c2 : wdn V n (bl V n 0) < n
        · have := c_dig h12 c2
          have c3 : isD (V (wdn V n (bl V n 0))) = false := by
            cases z : isD (V (wdn V n (bl V n 0)))
            · rfl
            · exact absurd ⟨c2, z⟩ c
          rw [c3] at this
          exact this
        · exact c_dign h12 (by omega) (by omega)
      have R0 : RdC B (uI s6 (B + 34) 5 (ltI (some k))) k m0 := by
        refine ⟨⟨(uI_ne (by omega)).trans f6.1, fun i hi => absurd hi (Nat.not_lt_zero i)⟩, ⟨(uI_ne (by omega)).trans f6.2.1, trivial⟩, ⟨uI_eq _ _ _ _, (uI_ne (by omega)).trans f6.2.2.1⟩, (uI_ne (by omega)).trans f6.2.2.2.1, (uI_ne (by omega)).trans f6.2.2.2.2.1, (uI_ne (by omega)).trans f6.2.2.2.2.2⟩
      obtain ⟨s', x1, y⟩ := c_run kc.1 (n + 1) (wdn V n (bl V n 0)) 0 m0 _ jF h12 R0 (m0_i k _) wb.2 (by omega) (by omega) (by unfold jF; omega)
      have go : ∀ X, jL f_X0_findFault_b83 (fun _ _ _ _ => none) jF (B + 34) (nI (wdn V n (bl V n 0))) (0 : Int32) (uI s6 (B + 34) 5 (ltI (some k))) = X → f_X0_findFault s (B + 34) = X := fun X hX => pre _ (ifn nk (bnd L12.q0 (bnd ((cV_ok L12.k35).trans dg) (ifp rfl hX))))
      refine ⟨s', X12.tr x1, ?_⟩
      rcases y with ⟨q, y1, y2⟩ | ⟨f, c', a, y1, y2, y3⟩
      · rw [y1]
        refine Or.inl ⟨q, ?_, rfl, go _ y2⟩
        have qb : ∀ d e m q, MI k e m → e ≤ n → runM V n k d e m = .inl q → q ≤ n := by
          intro d
          induction d with
          | zero => intro e m q _ _ hh; cases hh; exact Nat.le_refl n
          | succ d ih =>
            intro e m q hm he hh
            have b2 := bl_b (V := V) he
            by_cases z : n ≤ bl V n e
            · have er : runM V n k (d + 1) e m = (if m.1 = true ∨ cnt 40 m.2.1 ≠ 0 then .inl n else .inr ((rel 1 m.2.1 m.2.2.1 m.2.2.2.1).2.1, (rel 1 m.2.1 m.2.2.1 m.2.2.2.1).2.2, m.2.2.2.2)) := if_pos z
              rw [er] at hh
              by_cases w : m.1 = true ∨ cnt 40 m.2.1 ≠ 0
              · rw [if_pos w] at hh
                cases hh
                exact Nat.le_refl n
              · rw [if_neg w] at hh
                cases hh
            · cases st : stpM V n k (bl V n e) m with
              | none =>
                have er : runM V n k (d + 1) e m = .inl (bl V n e) := by
                  conv => lhs; unfold runM
                  rw [if_neg z, st]
                rw [er] at hh
                cases hh
                exact b2.2
              | some em =>
                have er : runM V n k (d + 1) e m = runM V n k d em.1 em.2 := by
                  conv => lhs; unfold runM
                  rw [if_neg z, st]
                rw [er] at hh
                have iv := stp_inv (e' := em.1) (m' := em.2) (by omega) (hm.mono b2.1) st
                exact ih em.1 em.2 q iv.1 iv.2.2 hh
        have := qb _ _ _ _ (m0_i k _) wb.2 y1
        omega
      · rw [y1]
        exact Or.inr ⟨k, f, c', a, rfl, go _ y2, y3⟩
/-! the reference's key -/
section MK
variable {B : Nat} {V : Nat → Nat} {n : Nat}
theorem Lay.k73 {B : Nat} {s : hS} (L : Lay B s) : hK s (B + 73) = (9, 13) := L.k 73 9 13 rfl
theorem Lay.k74 {B : Nat} {s : hS} (L : Lay B s) : hK s (B + 74) = (10, 4) := L.k 74 10 4 rfl
theorem Lay.m14 {B : Nat} {s : hS} (L : Lay B s) : gR s (B + 66) 7 14 = some (B + 73) := L.gm 14 73 0 (by decide)
theorem Lay.m15 {B : Nat} {s : hS} (L : Lay B s) : gR s (B + 66) 7 15 = some (B + 74) := L.gm 15 74 0 (by decide)
def off (w : Nat) : Nat := ([0, 5, 9, 13] : List Nat).getD w 0
theorem off_w : ∀ w, w < 3 → off (w + 1) = off w + (wds w).length ∧ off w ≤ 9 ∧ ∀ i, i < (wds w).length → off w + i < 13 ∧ ([112, 114, 105, 99, 101, 108, 111, 111, 107, 102, 105, 110, 101] : List Nat).getD (off w + i) 0 = (wds w).getD i 0 := by decide
abbrev kt1 : Type := Nat → Int32 → hS → Option (Int32 × hS)
theorem m_wm {t : hS} {q w : Nat} (h : TpM B t V n) (hK : InKey B t) (hw : w < 3) (h9 : hI t (B + 66) 9 = nI q) (hl : q + (wds w).length ≤ n) (k12 : kt1) : ∀ (r : List Nat) (i fuel : Nat), i + r.length = (wds w).length → (∀ j, j < r.length → r.getD j 0 = (wds w).getD (i + j) 0) → r.length + 1 < fuel → jL (f_X7_takesKey_b55 k12) (fun _ _ _ _ _ _ => none) fuel (B + 66) (nI w) (nI (wds w).length) 1 (nI i) t = f_X7_takesKey_b106 k12 (B + 66) (nI w) (bI (wmt V (q + i) r)) t
  | [], i, fuel + 1, h1, h2, h3 => by
    have wl := wds_len w hw
    show f_X7_takesKey_b55 k12 (jL (f_X7_takesKey_b55 k12) (fun _ _ _ _ _ _ => none) fuel) (B + 66) (nI w) (nI (wds w).length) 1 (nI i) t = _
    unfold f_X7_takesKey_b55
    have e0 : i = (wds w).length := h1
    exact ifp (nI_le (by omega) (by omega)) rfl
  | x :: r, i, fuel + 1 + 1, h1, h2, h3 => by
    have wl := wds_len w hw
    have h96 := h.2.1
    have L := h.1
    have l1 : (x :: r).length = r.length + 1 := List.length_cons
    have ex : x = (wds w).getD i 0 := h2 0 (by omega)
    have v := h.2.2.2 (q + i) (by omega)
    have wb := wds_lt w hw i (by omega)
    have ow := (off_w w hw).2.2 i (by omega)
    have o9 := (off_w w hw).2.1
    show f_X7_takesKey_b55 k12 (jL (f_X7_takesKey_b55 k12) (fun _ _ _ _ _ _ => none) (fuel + 1)) (B + 66) (nI w) (nI (wds w).length) 1 (nI i) t = f_X7_takesKey_b106 k12 (B + 66) (nI w) (bI (decide (V (q + i) = x) && wmt V (q + i + 1) r)) t
    unfold f_X7_takesKey_b55 f_X7_takesKey_b99
    refine ifn (nI_ge (by omega) (by omega)) (ifn one_ne (bnd L.m6 (bnd (gI_ok L.km) ?_)))
    rw [h9, nI_add]
    refine bnd (aI_ok (q + i) L.k72 rfl (by omega) (by decide)) (bnd L.m14 (bnd L.m15 (bnd (aI_ok w L.k74 rfl (by omega) (by decide)) ?_)))
    rw [v.2, hK.2 w (by omega), show nI (([0, 5, 9, 13] : List Nat).getD w 0) = nI (off w) from rfl, nI_add]
    refine bnd (aI_ok (off w + i) L.k73 rfl ow.1 (by decide)) ?_
    rw [hK.1 _ ow.1, ow.2, ← ex]
    by_cases c : V (q + i) = x
    · rw [decide_eq_true c, Bool.true_and, nI_1]
      refine ifp (by rw [c]) ?_
      exact m_wm h hK hw h9 hl k12 r (i + 1) (fuel + 1) (by omega) (fun j hj => by rw [show i + 1 + j = i + (j + 1) by omega, ← h2 (j + 1) (by omega)]; rfl) (by omega)
    · rw [decide_eq_false c]
      refine ifn (fun z => c ((nI_eq (by omega) (by omega)).mp z)) ?_
      show f_X7_takesKey_b55 k12 (jL (f_X7_takesKey_b55 k12) (fun _ _ _ _ _ _ => none) fuel) (B + 66) (nI w) (nI (wds w).length) 0 (nI i + 1) t = _
      unfold f_X7_takesKey_b55
      by_cases c2 : (nI (wds w).length) ≤ nI i + 1
      · exact ifp c2 rfl
      · exact ifn c2 (ifp rfl rfl)
theorem m_k1 {t : hS} {q e w : Nat} (h : TpM B t V n) (hK : InKey B t) (hw : w < 3) (h9 : hI t (B + 66) 9 = nI q) (h8 : hI t (B + 66) 8 = nI e) (hq : q ≤ e) (he : e ≤ n) (k12 : kt1) : f_X7_takesKey_b12 k12 (B + 66) (nI w) t = f_X7_takesKey_b106 k12 (B + 66) (nI w) (bI (isW V w q e)) t := by
  have wl := wds_len w hw
  have h96 := h.2.1
  have L := h.1
  have ow := off_w w hw
  unfold f_X7_takesKey_b12 f_X7_takesKey_b51
  refine ifn (nI_ge (b := 3) hw (by decide)) (bnd L.m15 (bnd (aI_ok (w + 1) L.k74 (nI_1 w) (by omega) (by decide)) (bnd L.m15 (bnd (aI_ok w L.k74 rfl (by omega) (by decide)) ?_))))
  rw [hK.2 w (by omega), hK.2 (w + 1) (by omega), show nI (([0, 5, 9, 13] : List Nat).getD w 0) = nI (off w) from rfl, show nI (([0, 5, 9, 13] : List Nat).getD (w + 1) 0) = nI (off (w + 1)) from rfl, ow.1, pk_sub (by omega), show off w + (wds w).length - off w = (wds w).length by omega]
  unfold nmv
  refine bnd (gI_ok L.km) (bnd (gI_ok L.km) ?_)
  rw [h8, h9, pk_sub hq]
  unfold isW
  by_cases c : e - q = (wds w).length
  · rw [decide_eq_true c, Bool.true_and]
    refine ifp (by rw [c]) ?_
    exact m_wm h hK hw h9 (by omega) k12 (wds w) 0 jF (by omega) (fun j hj => by rw [Nat.zero_add]) (by unfold jF; omega)
  · rw [decide_eq_false c]
    refine ifn (fun z => c ((nI_eq (by omega) (by omega)).mp z).symm) ?_
    show f_X7_takesKey_b55 k12 (jL (f_X7_takesKey_b55 k12) (fun _ _ _ _ _ _ => none) 4095) (B + 66) (nI w) (nI (wds w).length) 0 0 t = _
    unfold f_X7_takesKey_b55
    exact ifn (nI_nle (by omega) (by omega)) (ifp rfl rfl)
theorem m_key {t : hS} {q e : Nat} (h : TpM B t V n) (hK : InKey B t) (h10 : hI t (B + 66) 10 = 1) (h9 : hI t (B + 66) 9 = nI q) (h8 : hI t (B + 66) 8 = nI e) (hq : q ≤ e) (he : e ≤ n) : f_X7_takesKey t (B + 66) = (match keyM V q e with | none => some (0, t) | some k => (cV (uI t (B + 66) 13 (nI k)) (B + 66) 7 (f_X7_go (uI t (B + 66) 13 (nI k)) (B + 66))).bind fun p2 => some ((1 : Int32), p2.2)) := by
  have L := h.1
  have k1 := fun w (hw : w < 3) k12 => m_k1 (w := w) h hK hw h9 h8 hq he k12
  unfold f_X7_takesKey
  refine bnd (gI_ok L.km) ?_
  rw [h10]
  refine ifp rfl ?_
  have yes : ∀ w (k12 : kt1), f_X7_takesKey_b106 k12 (B + 66) (nI w) (bI true) t = (cV (uI t (B + 66) 13 (nI w)) (B + 66) 7 (f_X7_go (uI t (B + 66) 13 (nI w)) (B + 66))).bind fun p2 => some ((1 : Int32), p2.2) := by
    intro w k12
    unfold f_X7_takesKey_b106
    exact ifn one_ne (bnd (pI_ok L.km) rfl)
  have no : ∀ w (k12 : kt1), f_X7_takesKey_b106 k12 (B + 66) (nI w) (bI false) t = k12 (B + 66) (nI (w + 1)) t := by
    intro w k12
    unfold f_X7_takesKey_b106
    rw [nI_1]
    exact ifp rfl rfl
  show f_X7_takesKey_b12 (jL f_X7_takesKey_b12 (fun _ _ _ => none) 4095) (B + 66) (nI 0) t = _
  rw [k1 0 (by decide)]
  unfold keyM
  cases isW V 0 q e
  · rw [no, if_neg (show ¬ (false = true) by decide)]
    show f_X7_takesKey_b12 (jL f_X7_takesKey_b12 (fun _ _ _ => none) 4094) (B + 66) (nI 1) t = _
    rw [k1 1 (by decide)]
    cases isW V 1 q e
    · rw [no, if_neg (show ¬ (false = true) by decide)]
      show f_X7_takesKey_b12 (jL f_X7_takesKey_b12 (fun _ _ _ => none) 4093) (B + 66) (nI 2) t = _
      rw [k1 2 (by decide)]
      cases isW V 2 q e
      · rw [no, if_neg (show ¬ (false = true) by decide)]
        show f_X7_takesKey_b12 (jL f_X7_takesKey_b12 (fun _ _ _ => none) 4092) (B + 66) (nI 3) t = _
        unfold f_X7_takesKey_b12
        exact ifp (by decide) rfl
      · rw [yes, if_pos rfl]
    · rw [yes, if_pos rfl]
  · rw [yes, if_pos rfl]
theorem GoP.cg {t u : hS} {q : Nat} {cl : Bool} {E : Int32} (h : GoP B V n q cl E t) (e : ∀ k, 8 ≤ k ∧ k ≤ 12 → hI u (B + 66) k = hI t (B + 66) k) : GoP B V n q cl E u := by
  have e8 := e 8 (by omega)
  have e9 := e 9 (by omega)
  have e10 := e 10 (by omega)
  have e11 := e 11 (by omega)
  have e12 := e 12 (by omega)
  unfold GoP at h ⊢
  rw [e8, e9, e10, e11, e12]
  exact h
/-- what the reference's reading brings -/
def MX (B : Nat) (t : hS) (o : Nat ⊕ (Nat × (Nat → Int32) × Nat × Nat)) (r : Option (Int32 × hS)) : Prop := ∃ u, Fx B t u ∧ ((∃ q, o = .inl q ∧ hI u (B + 66) 9 = nI q ∧ r = f_X7_text_b33 (B + 66) 0 u) ∨ ∃ key f c a, o = .inr (key, f, c, a) ∧ r = f_X7_text_b33 (B + 66) 1 u ∧ hI u (B + 66) 17 = nI c ∧ (∀ i, i < c → hI u (B + 75) i = cmap key (f i)) ∧ hI u (B + 66) 13 = nI key ∧ hI u (B + 66) 18 = nI a)
theorem InKey.fx {t u : hS} (h : InKey B t) (hx : Fx B t u) : InKey B u := ⟨fun i hi => (hx.1.2.2.2 _ (by omega) i).trans (h.1 i hi), fun i hi => (hx.1.2.2.2 _ (by omega) i).trans (h.2 i hi)⟩
theorem m_text {t : hS} (h : TpM B t V n) (hK : InKey B t) : MX B t (txtM V n) (f_X7_text t (B + 66)) := by
  have h96 := h.2.1
  have L := h.1
  have bb := bl_b (V := V) (Nat.zero_le n)
  have wb := wdn_b (V := V) bb.2
  have F1 : Fx B t (uI (uI t (B + 66) 8 0) (B + 66) 12 (-1)) := (Fx.u _ _ _ (by omega)).tr (Fx.u _ _ _ (by omega))
  have H1 := h.fx F1
  obtain ⟨u, ku, fu, gu⟩ := m_go (e := 0) H1 (Nat.zero_le n) ((uI_ne (by omega)).trans (uI_eq _ _ _ _))
  rw [uI_eq, decide_eq_false (nI_nn (by omega) (by decide))] at gu
  have FU : Fx B t u := F1.tr fu.fx
  have HU := h.fx FU
  have LU := HU.1
  have KU := hK.fx FU
  have pre : ∀ X, ((cV u (B + 66) 7 (f_X7_takesKey u (B + 66))).bind fun p4 => if p4.1 = 0 then f_X7_text_b32 (B + 66) p4.2 else (cV p4.2 (B + 66) 7 (f_X7_takesE p4.2 (B + 66))).bind fun p5 => if p5.1 = 0 then f_X7_text_b32 (B + 66) p5.2 else f_X7_text_b33 (B + 66) (1 : Int32) p5.2) = X → f_X7_text t (B + 66) = X := by
    intro X hX
    unfold f_X7_text
    exact bnd (pI_ok L.km) (bnd (pI_ok (L.u _ _ _).km) (bnd ((cV_ok ((L.u _ _ _).u _ _ _).km).trans ku) hX))
  have fault : ∀ {q}, hI u (B + 66) 9 = nI q → f_X7_takesKey u (B + 66) = some (0, u) → txtM V n = .inl q → MX B t (txtM V n) (f_X7_text t (B + 66)) := by
    intro q h1 h2 h3
    exact ⟨u, FU, Or.inl ⟨q, h3, h1, pre _ (bnd ((cV_ok LU.km).trans h2) (ifp rfl rfl))⟩⟩
  have nokey : isL (V (bl V n 0)) = false ∨ bl V n 0 = n → txtM V n = .inl (bl V n 0) := by
    intro z
    have : keyM V (bl V n 0) (wdn V n (bl V n 0)) = none := by
      cases ek : keyM V (bl V n 0) (wdn V n (bl V n 0)) with
      | none => rfl
      | some k =>
        have kc := keyM_c ek
        have wc := isW_c kc.1 kc.2
        rcases z with z | z
        · rw [z] at wc; cases wc.2
        · have : wdn V n (bl V n 0) = n := by unfold wdn; rw [if_neg (by omega)]
          omega
    unfold txtM
    rw [this]
  have tk0 : ∀ tok, hI u (B + 66) 10 = tok → tok ≠ 1 → f_X7_takesKey u (B + 66) = some (0, u) := by
    intro tok h1 h2
    unfold f_X7_takesKey
    refine bnd (gI_ok LU.km) ?_
    rw [h1]
    exact ifn h2 rfl
  have g9 := gu.1
  rcases gu.2 with ⟨z, t10, -⟩ | ⟨qn, cL, t10, t11, t8, t12⟩ | ⟨qn, cD, t10, -⟩ | ⟨qn, cL, cD, t10, -⟩
  · exact fault g9 (tk0 0 t10 (by decide)) (nokey (Or.inr z))
  · have t10' : hI u (B + 66) 10 = 1 := t10
    have ew : wdn V n (bl V n 0) = wd V n (bl V n 0) := by unfold wdn; rw [if_pos qn]
    rw [← ew] at t8 t12
    have tk := m_key HU KU t10' g9 t8 wb.1 wb.2
    cases ek : keyM V (bl V n 0) (wdn V n (bl V n 0)) with
    | none =>
      rw [ek] at tk
      refine fault g9 tk ?_
      unfold txtM
      rw [ek]
    | some k =>
      rw [ek] at tk
      have kc := keyM_c ek
      have F2 : Fx B u (uI u (B + 66) 13 (nI k)) := Fx.u _ _ _ (by omega)
      have H2 := HU.fx F2
      have L2 := H2.1
      obtain ⟨v, kv2, fv, gv⟩ := m_go (e := wdn V n (bl V n 0)) H2 wb.2 ((uI_ne (by omega)).trans t8)
      rw [show hI (uI u (B + 66) 13 (nI k)) (B + 66) 12 = nI (wdn V n (bl V n 0)) from (uI_ne (by omega)).trans t12] at gv
      have FV : Fx B t v := (FU.tr F2).tr fv.fx
      have HV := h.fx FV
      have LV := HV.1
      have v13 : hI v (B + 66) 13 = nI k := (fv.2 13 (by omega)).trans (uI_eq _ _ _ _)
      have b2 := bl_b (V := V) wb.2
      obtain ⟨e0, he0⟩ : ∃ e0, e0 = wdn V n (bl V n 0) := ⟨_, rfl⟩
      rw [← he0] at gv b2 wb t8 t12
      -- the state in which the loop begins
      have X4 : Fx B v (uI (uI (uI (uI v (B + 66) 17 0) (B + 66) 18 0) (B + 66) 20 0) (B + 77) 0 0) := (((Fx.u _ _ _ (by omega)).tr (Fx.u _ _ _ (by omega))).tr (Fx.u _ _ _ (by omega))).tr (Fx.v _ _ _ _ (Or.inr (Or.inr rfl)))
      have e66 : ∀ j, j ≠ 17 → j ≠ 18 → j ≠ 20 → hI (uI (uI (uI (uI v (B + 66) 17 0) (B + 66) 18 0) (B + 66) 20 0) (B + 77) 0 0) (B + 66) j = hI v (B + 66) j := fun j a1 a2 a3 => by rw [uI_ne (by omega), uI_ne (by omega), uI_ne (by omega), uI_ne (by omega)]
      have R4 : RdM0 B (uI (uI (uI (uI v (B + 66) 17 0) (B + 66) 18 0) (B + 66) 20 0) (B + 77) 0 0) k m0 := by
        refine ⟨⟨?_, fun i hi => absurd hi (Nat.not_lt_zero i)⟩, ⟨?_, trivial⟩, ?_, ?_⟩
        · rw [uI_ne (by omega), uI_ne (by omega), uI_ne (by omega), uI_eq]; rfl
        · rw [uI_ne (by omega), uI_eq]; rfl
        · rw [e66 13 (by omega) (by omega) (by omega)]; exact v13
        · rw [uI_ne (by omega), uI_ne (by omega), uI_eq]; rfl
      have S4 : TsM B (uI (uI (uI (uI v (B + 66) 17 0) (B + 66) 18 0) (B + 66) 20 0) (B + 77) 0 0) m0.2.1 := by
        intro j hj
        have : j = 0 := Nat.le_zero.mp hj
        rw [this, uI_eq]
        rfl
      have te : ∀ X, jL f_X7_takesE_b28 (fun _ _ _ _ _ => none) jF (B + 66) 0 0 1 (uI (uI (uI (uI v (B + 66) 17 0) (B + 66) 18 0) (B + 66) 20 0) (B + 77) 0 0) = X → f_X7_takesE v (B + 66) = X := by
        intro X hX
        unfold f_X7_takesE
        refine bnd (pI_ok LV.km) (bnd (pI_ok (LV.u _ _ _).km) (bnd (pI_ok ((LV.u _ _ _).u _ _ _).km) (bnd (((LV.u _ _ _).u _ _ _).u _ _ _).m21 ?_)))
        rw [show vp_nar .boolean (0 : Int32) = 0 from rfl]
        exact bnd (sI_ok 0 (((LV.u _ _ _).u _ _ _).u _ _ _).k77 rfl (by decide) (by decide)) hX
      have go2 : ∀ X, ((cV v (B + 66) 7 (f_X7_takesE v (B + 66))).bind fun p5 => if p5.1 = 0 then f_X7_text_b32 (B + 66) p5.2 else f_X7_text_b33 (B + 66) (1 : Int32) p5.2) = X → f_X7_text t (B + 66) = X := by
        intro X hX
        refine pre _ (bnd (x := ((1 : Int32), v)) ((cV_ok LU.km).trans (tk.trans ?_)) (ifn one_ne hX))
        exact bnd ((cV_ok L2.km).trans kv2) rfl
      have tx : txtM V n = (if e0 < n ∧ isD (V e0) = true then .inl e0 else (match runM V n k (n + 1) e0 m0 with | .inl q => .inl q | .inr y => .inr (k, y))) := by
        unfold txtM
        rw [ek, he0]
      have notL : e0 < n → isL (V e0) = false := by
        intro hn
        have ew2 : e0 = skp isL V (n - bl V n 0) (bl V n 0) := by
          rw [he0, ew]
          unfold wd
          rw [cL, if_pos rfl]
        have := skp_s (P := isL) (V := V) (n - bl V n 0) (bl V n 0)
        rw [← ew2] at this
        exact this (by omega)
      by_cases c : e0 < n ∧ isD (V e0) = true
      · have nb : isB (V e0) = false := by
          have d := c.2
          unfold isD at d
          rw [Bool.and_eq_true] at d
          have := of_decide_eq_true d.1
          unfold isB
          exact decide_eq_false (by omega)
        have eb : bl V n e0 = e0 := by
          unfold bl
          obtain ⟨d, hd⟩ : ∃ d, n - e0 = d + 1 := ⟨n - e0 - 1, by omega⟩
          rw [hd, skp_f nb]
        rw [eb, decide_eq_true rfl] at gv
        have t4 : hI v (B + 66) 10 = 4 := by
          rcases gv.2 with ⟨z, -⟩ | ⟨-, z, -⟩ | ⟨-, -, z, -⟩ | ⟨-, -, z, -⟩
          · omega
          · rw [isLD z] at c; cases c.2
          · exact z
          · rw [c.2] at z; cases z
        rw [tx, if_pos c]
        have L4 := LV.sx X4.1
        have t4' := (e66 10 (by omega) (by omega) (by omega)).trans t4
        refine ⟨_, FV.tr X4, Or.inl ⟨e0, rfl, (e66 9 (by omega) (by omega) (by omega)).trans gv.1, go2 _ (bnd (x := ((0 : Int32), uI (uI (uI (uI v (B + 66) 17 0) (B + 66) 18 0) (B + 66) 20 0) (B + 77) 0 0)) ((cV_ok LV.km).trans (te _ ?_)) (ifp rfl rfl))⟩⟩
        generalize uI (uI (uI (uI v (B + 66) 17 0) (B + 66) 18 0) (B + 66) 20 0) (B + 77) 0 0 = v4 at L4 t4'
        show f_X7_takesE_b28 (jL f_X7_takesE_b28 (fun _ _ _ _ _ => none) 4095) (B + 66) 0 0 1 v4 = _
        unfold f_X7_takesE_b28 f_X7_takesE_b39 f_X7_takesE_b97 f_X7_takesE_b158 f_X7_takesPart f_X7_takesPart_b36 f_X7_takesPart_b37
        refine ifn one_ne (ifn one_ne (bnd (gI_ok L4.km) ?_))
        rw [t4']
        refine ifn (by decide) (bnd (gI_ok L4.km) ?_)
        rw [t4']
        refine ifn (by decide) (bnd (x := ((0 : Int32), v4)) ((cV_ok L4.km).trans (bnd (gI_ok L4.km) ?_)) (ifp rfl rfl))
        rw [t4']
        refine ifn (by decide) (bnd (gI_ok L4.km) ?_)
        rw [t4']
        exact ifn (by decide) (ifp rfl rfl)
      · rw [tx, if_neg c]
        have hd : HD B V n k e0 m0 (uI (uI (uI (uI v (B + 66) 17 0) (B + 66) 18 0) (B + 66) 20 0) (B + 77) 0 0) := by
          refine ⟨HV.fx X4, R4, S4, Nat.zero_le _, _, _, gv.cg (fun j hj => e66 j (by omega) (by omega) (by omega)), Or.inr ⟨e0, Nat.le_refl _, rfl⟩, fun _ hn hz => ?_⟩
          apply decide_eq_false
          intro z
          have z' := (nI_eq (by omega) (by omega)).mp z
          rw [z'] at hn hz
          rcases hz with hz | hz
          · rw [notL hn] at hz; cases hz
          · exact c ⟨hn, hz⟩
        obtain ⟨y, fy, hy⟩ := m_run kc.1 (n + 1) e0 m0 _ jF hd (m0_i k e0) wb.2 (by omega) (by unfold jF; omega)
        rcases hy with ⟨q, y1, y2, y3⟩ | ⟨f, c', a, y1, y2, y3⟩
        · rw [y1]
          exact ⟨y, (FV.tr X4).tr fy, Or.inl ⟨q, rfl, y3, go2 _ (bnd ((cV_ok LV.km).trans (te _ y2)) (ifp rfl rfl))⟩⟩
        · rw [y1]
          exact ⟨y, (FV.tr X4).tr fy, Or.inr ⟨k, f, c', a, rfl, go2 _ (bnd ((cV_ok LV.km).trans (te _ y2)) (ifn one_ne rfl)), y3⟩⟩
  · have cL : isL (V (bl V n 0)) = false := by
      cases z : isL (V (bl V n 0))
      · rfl
      · rw [isLD z] at cD; cases cD
    refine fault g9 (tk0 _ t10 ?_) (nokey (Or.inl cL))
    rw [if_neg (show ¬ (false = true) by decide)]
    split <;> decide
  · exact fault g9 (tk0 3 t10 (by decide)) (nokey (Or.inl cL))
end MK
