/-! the fewest talks: what is only thought -/
def Kq (τ σ : Tw) : Prop := (∀ a k, a ≠ 3 → σ.1 a k = τ.1 a k) ∧ σ.2.1.2 = τ.2.1.2 ∧ σ.2.2 = τ.2.2
theorem Kq.rf (τ : Tw) : Kq τ τ := ⟨fun _ _ _ => rfl, rfl, rfl⟩
theorem Kq.tr {τ σ υ : Tw} (h : Kq τ σ) (h2 : Kq σ υ) : Kq τ υ := ⟨fun a k ha => (h2.1 a k ha).trans (h.1 a k ha), h2.2.1.trans h.2.1, h2.2.2.trans h.2.2⟩
theorem Kq.sd (τ : Tw) (x : Int32) : Kq τ (sdT τ x) := ⟨fun _ _ _ => rfl, rfl, rfl⟩
theorem cv0 {σ : Tw} {p q : Nat} (h : gos σ 0 p q = true) : ∃ u v, (cvG σ 0 p q).1 = (upT (upT σ 3 q u) 3 p v).1 ∧ (cvG σ 0 p q).2.1.2 = σ.2.1.2 ∧ (cvG σ 0 p q).2.2 = σ.2.2 := by
  unfold cvG
  rw [if_pos h]
  exact ⟨_, _, rfl, rfl, rfl⟩
theorem cv0n {σ : Tw} {p q : Nat} (h : gos σ 0 p q = false) : cvG σ 0 p q = σ := by
  unfold cvG
  rw [if_neg (by rw [h]; decide)]
theorem Kq.cv {σ : Tw} {p q : Nat} (h : gos σ 0 p q = true) : Kq σ (cvG σ 0 p q) := by
  obtain ⟨u, v, e1, e2, e3⟩ := cv0 h
  refine ⟨fun a k ha => ?_, e2, e3⟩
  rw [e1, up_ne (by omega), up_ne (by omega)]
theorem rest0 {τ : Tw} {x x' : Int32} {p q : Nat} (hne : p ≠ q) (h : gos (sdT τ x) 0 p q = true) : upT (upT (sdT (cvG (sdT τ x) 0 p q) x') 3 p (tR τ 3 p)) 3 q (tR τ 3 q) = sdT τ x' := by
  obtain ⟨u, v, e1, e2, e3⟩ := cv0 h
  have e : (upT (upT (sdT (cvG (sdT τ x) 0 p q) x') 3 p (tR τ 3 p)) 3 q (tR τ 3 q)).1 = τ.1 := by
    funext a i
    by_cases c1 : a = 3 ∧ i = q
    · rw [c1.1, c1.2, up_eq]
    · rw [up_ne c1]
      by_cases c2 : a = 3 ∧ i = p
      · rw [c2.1, c2.2, up_eq]
      · rw [up_ne c2]
        show (cvG (sdT τ x) 0 p q).1 a i = τ.1 a i
        rw [e1, up_ne c2, up_ne c1]
        rfl
  refine Prod.ext e ?_
  show ((x', (cvG (sdT τ x) 0 p q).2.1.2), (cvG (sdT τ x) 0 p q).2.2) = ((x', τ.2.1.2), τ.2.2)
  rw [e2, e3]
  rfl
/-- whom one asks, if it comes to know by just so many talks; and what was said meanwhile -/
def ctl (rec : Tw → Option (List Nat) × Int32) (p : Nat) (τ : Tw) : Nat → Int32 → Option (List Nat) × Int32
  | 0, x => (none, x)
  | r + 1, x => if tP τ - (r + 1) = p ∨ gos (sdT τ x) 0 p (tP τ - (r + 1)) = false then ctl rec p τ r x else
      match rec (cvG (sdT τ x) 0 p (tP τ - (r + 1))) with
      | (some l, x') => (some ((tP τ - (r + 1)) :: l), x')
      | (none, x') => ctl rec p τ r x'
def ctk (p f : Nat) : Nat → Tw → Option (List Nat) × Int32
  | 0, τ => (if pkn τ f p = true then some [] else none, τ.2.1.1)
  | m + 1, τ => ctl (ctk p f m) p τ (tP τ) τ.2.1.1
theorem ctl_skip {rec : Tw → Option (List Nat) × Int32} {p r : Nat} {τ : Tw} {x : Int32} (h : tP τ - (r + 1) = p ∨ gos (sdT τ x) 0 p (tP τ - (r + 1)) = false) : ctl rec p τ (r + 1) x = ctl rec p τ r x := if_pos h
theorem ctl_some {rec : Tw → Option (List Nat) × Int32} {p r : Nat} {τ : Tw} {x x' : Int32} {l : List Nat} (h : ¬ (tP τ - (r + 1) = p ∨ gos (sdT τ x) 0 p (tP τ - (r + 1)) = false)) (e : rec (cvG (sdT τ x) 0 p (tP τ - (r + 1))) = (some l, x')) : ctl rec p τ (r + 1) x = (some ((tP τ - (r + 1)) :: l), x') := by
  conv => lhs; unfold ctl
  rw [if_neg h, e]
theorem ctl_none {rec : Tw → Option (List Nat) × Int32} {p r : Nat} {τ : Tw} {x x' : Int32} (h : ¬ (tP τ - (r + 1) = p ∨ gos (sdT τ x) 0 p (tP τ - (r + 1)) = false)) (e : rec (cvG (sdT τ x) 0 p (tP τ - (r + 1))) = (none, x')) : ctl rec p τ (r + 1) x = ctl rec p τ r x' := by
  conv => lhs; unfold ctl
  rw [if_neg h, e]
/-! the class's search -/
def TQ (B a : Nat) : Prop := TP B (B + 23) a ∨ a = B + 65
theorem Sx.tq {B : Nat} {s t : hS} (h : Sx (TP B (B + 23)) s t) : Sx (TQ B) s t := h.mono (fun a ha => Or.inl ha)
theorem Lay.k65 {B : Nat} {s : hS} (L : Lay B s) : hK s (B + 65) = (10, 3) := L.k 65 10 3 rfl
theorem Lay.g65 {B : Nat} {s : hS} (L : Lay B s) : gR s B 6 10 = some (B + 65) := gR_ok L.kx (L.r 0 10 65 (by decide))
theorem TQ.n65 {B : Nat} : ¬ TP B (B + 23) (B + 65) := by
  rintro (⟨h1, h2⟩ | ⟨j, h⟩) <;> omega
theorem CT.sd0 {B nt T : Nat} {s : hS} {τ : Tw} (h : CT B nt T s τ) : CT B nt T s (sdT τ τ.2.1.1) := h
theorem CT.u65 {B nt : Nat} {s : hS} {τ : Tw} (h : CT B nt (B + 23) s τ) (k : Nat) (v : Int32) : CT B nt (B + 23) (uI s (B + 65) k v) τ := by
  refine ⟨h.1.u _ _ _, ⟨TwN.keep (B := B) h.2.1.1 (fun r hr j => uI_ne (by omega)), fun i hi => ?_⟩, h.2.2.1, h.2.2.2⟩
  obtain ⟨j, hj, h1, h2⟩ := h.2.1.2 i hi
  refine ⟨j, hj, h1, h2.gn (fun _ => rfl) (fun _ => rfl) (fun k => ⟨uI_ne (by omega), uI_ne (by omega)⟩)⟩
/-- what a search of the class brings -/
def CR (B nt d m : Nat) (τ : Tw) (s : hS) (o : Option (List Nat) × Int32) (r : Option (Int32 × hS)) : Prop := ∃ s', r = some (bI o.1.isSome, s') ∧ Sx (TQ B) s s' ∧ (∀ i, i < d → hI s' (B + 65) i = hI s (B + 65) i) ∧ (o.1 = none → CT B nt (B + 23) s' (sdT τ o.2)) ∧ ∀ l, o.1 = some l → l.length = m ∧ ∀ i, i < m → hI s' (B + 65) (d + i) = nI (l.getD i 0)
abbrev kc8 : Type := Nat → Int32 → Int32 → Int32 → Int32 → Nat → Int32 → Int32 → hS → Option (Int32 × hS)
theorem c_ctl {B nt p f m d F : Nat} {τ : Tw} (hok : TwOk τ) (hp : p < tP τ) (hf : f < tF τ) (hd : d + m + 1 ≤ 3) (ih : ∀ σ s, CT B nt (B + 23) s σ → Lay B s → p < tP σ → f < tF σ → CR B nt (d + 1) m σ s (ctk p f m σ) (f_X6_comesToKnow F s (B + 23) (nI p) (nI f) (nI m) (nI (d + 1)) (B + 65))) : ∀ r fuel x s, r ≤ tP τ → r < fuel → CT B nt (B + 23) s (sdT τ x) → Lay B s → CR B nt d (m + 1) τ s (ctl (ctk p f m) p τ r x) (jL (f_X6_comesToKnow_b30 (f_X6_comesToKnow F)) (fun _ _ _ _ _ _ _ _ _ => none) fuel (B + 23) (nI p) (nI f) (nI (m + 1)) (nI d) (B + 65) (nI (tR τ 3 p)) (nI (tP τ - r)) s)
  | 0, fuel + 1, x, s, hr, hfu, h, L => by
    have b8 := hok.1.2.1
    refine ⟨s, ?_, Sx.rf _ s, fun _ _ => rfl, fun _ => h, fun l hl => by cases hl⟩
    show f_X6_comesToKnow_b30 (f_X6_comesToKnow F) (jL (f_X6_comesToKnow_b30 (f_X6_comesToKnow F)) (fun _ _ _ _ _ _ _ _ _ => none) fuel) (B + 23) (nI p) (nI f) (nI (m + 1)) (nI d) (B + 65) (nI (tR τ 3 p)) (nI (tP τ - 0)) s = _
    unfold f_X6_comesToKnow_b30
    refine bnd (gI_ok h.1.1) ?_
    rw [h.2.1.1.1.2.1]
    exact ifp (nI_le (a := tP τ) (by omega) (by omega)) rfl
  | r + 1, fuel + 1, x, s, hr, hfu, h, L => by
    have b8 := hok.1.2.1
    obtain ⟨q, hq⟩ : ∃ q, q = tP τ - (r + 1) := ⟨_, rfl⟩
    have q1 : q < tP τ := by omega
    have qn : nI q + 1 = nI (tP τ - r) := by rw [nI_1, show q + 1 = tP τ - r by omega]
    have pre : ∀ X, (if nI q = nI p then jL (f_X6_comesToKnow_b30 (f_X6_comesToKnow F)) (fun _ _ _ _ _ _ _ _ _ => none) fuel (B + 23) (nI p) (nI f) (nI (m + 1)) (nI d) (B + 65) (nI (tR τ 3 p)) (nI (tP τ - r)) s else (cV s (B + 23) 5 (f_X5_converse s (B + 23) (0 : Int32) (nI p) (nI q))).bind fun p4 => if p4.1 = 0 then jL (f_X6_comesToKnow_b30 (f_X6_comesToKnow F)) (fun _ _ _ _ _ _ _ _ _ => none) fuel (B + 23) (nI p) (nI f) (nI (m + 1)) (nI d) (B + 65) (nI (tR τ 3 p)) (nI (tP τ - r)) p4.2 else (sI p4.2 (B + 65) 10 (nI d) (nI q)).bind fun s5 => (f_X6_comesToKnow F s5 (B + 23) (nI p) (nI f) (nI m) (nI (d + 1)) (B + 65)).bind fun p6 => if p6.1 = 0 then (gR p6.2 (B + 23) 5 10).bind fun a7 => (sI p6.2 a7 10 (nI p) (nI (tR τ 3 p))).bind fun s8 => (gR s8 (B + 23) 5 10).bind fun a9 => (sI s8 a9 10 (nI q) (nI (tR τ 3 q))).bind fun s10 => jL (f_X6_comesToKnow_b30 (f_X6_comesToKnow F)) (fun _ _ _ _ _ _ _ _ _ => none) fuel (B + 23) (nI p) (nI f) (nI (m + 1)) (nI d) (B + 65) (nI (tR τ 3 p)) (nI (tP τ - r)) s10 else some ((1 : Int32), p6.2)) = X → jL (f_X6_comesToKnow_b30 (f_X6_comesToKnow F)) (fun _ _ _ _ _ _ _ _ _ => none) (fuel + 1) (B + 23) (nI p) (nI f) (nI (m + 1)) (nI d) (B + 65) (nI (tR τ 3 p)) (nI (tP τ - (r + 1))) s = X := by
      intro X hX
      rw [← hq]
      show f_X6_comesToKnow_b30 (f_X6_comesToKnow F) (jL (f_X6_comesToKnow_b30 (f_X6_comesToKnow F)) (fun _ _ _ _ _ _ _ _ _ => none) fuel) (B + 23) (nI p) (nI f) (nI (m + 1)) (nI d) (B + 65) (nI (tR τ 3 p)) (nI q) s = X
      unfold f_X6_comesToKnow_b30 f_X6_comesToKnow_b112
      refine bnd (gI_ok h.1.1) ?_
      rw [h.2.1.1.1.2.1]
      refine ifn (nI_ge (b := tP τ) q1 (by omega)) (bnd h.1.g10 (bnd (h.1.a3 (by omega)) ?_))
      rw [(h.2.1.1.2.2.1 q (by omega)).1, qn, nI_pred, nI_1 d]
      exact hX
    by_cases cq : q = p
    · obtain ⟨s', e1, e2⟩ := c_ctl hok hp hf hd ih r fuel x s (by omega) (by omega) h L
      rw [ctl_skip (Or.inl (by omega))]
      exact ⟨s', pre _ (ifp (by rw [cq]) e1), e2⟩
    have nq : ¬ nI q = nI p := fun z => cq ((nI_eq (by omega) (by omega)).mp z)
    obtain ⟨s1, k1, c1, x1⟩ := c_conv h (kind := 0) (p := p) (q := q) (by decide) hp q1
    have L1 := L.sx x1
    have r65 : ∀ k, hI s1 (B + 65) k = hI s (B + 65) k := fun k => x1.2.2.2 _ TQ.n65 k
    cases eg : gos (sdT τ x) 0 p q
    · rw [eg] at k1
      rw [cv0n eg] at c1
      obtain ⟨s', e1, e2, e3, e4⟩ := c_ctl hok hp hf hd ih r fuel x s1 (by omega) (by omega) c1 L1
      rw [ctl_skip (Or.inr (by rw [← hq]; exact eg))]
      exact ⟨s', pre _ (ifn nq (bnd ((cV_ok h.1.1).trans k1) (ifp rfl e1))), x1.tq.tr e2, fun i hi => (e3 i hi).trans (r65 i), e4⟩
    rw [eg] at k1
    have hno : ¬ (tP τ - (r + 1) = p ∨ gos (sdT τ x) 0 p (tP τ - (r + 1)) = false) := by
      rw [← hq]
      rintro (z | z)
      · exact cq z
      · rw [eg] at z; cases z
    have c2 := c1.u65 d (nI q)
    have kp := cvG_k (sdT τ x) 0 p q
    have hp2 : p < tP (cvG (sdT τ x) 0 p q) := by rw [kp.p]; exact hp
    have hf2 : f < tF (cvG (sdT τ x) 0 p q) := by rw [kp.f]; exact hf
    have rr := ih (cvG (sdT τ x) 0 p q) (uI s1 (B + 65) d (nI q)) c2 (L1.u _ _ _) hp2 hf2
    have X1 : Sx (TQ B) s (uI s1 (B + 65) d (nI q)) := x1.tq.tr (Sx.u _ _ _ _ (Or.inr rfl))
    cases er : ctk p f m (cvG (sdT τ x) 0 p q) with
    | mk o x' =>
      rw [er] at rr
      obtain ⟨s3, k3, x3, u3, n3, y3⟩ := rr
      cases o with
      | some l =>
        obtain ⟨l1, l2⟩ := y3 l rfl
        rw [ctl_some hno (by rw [← hq]; exact er)]
        refine ⟨s3, pre _ (ifn nq (bnd ((cV_ok h.1.1).trans k1) (ifn one_ne (bnd (sI_ok d L1.k65 rfl (by omega) (by decide)) (bnd k3 (ifn one_ne rfl)))))), X1.tr x3, fun i hi => ?_, fun z => (by cases z), fun l' hl => ?_⟩
        · rw [u3 i (by omega), uI_ne (by omega), r65]
        · have := Option.some.inj hl
          subst this
          refine ⟨by rw [List.length_cons, l1], fun i hi => ?_⟩
          cases i with
          | zero =>
            show hI s3 (B + 65) d = nI (tP τ - (r + 1))
            rw [u3 d (by omega), uI_eq, hq]
          | succ i =>
            rw [show d + (i + 1) = d + 1 + i by omega, l2 i (by omega)]
            rfl
      | none =>
        have c3 := n3 rfl
        have L3 := (L1.u (B + 65) d (nI q)).sx x3
        have w1 := c3.2.1.w (Or.inr rfl) 3 p (tR τ 3 p) (by unfold wok; omega)
        have w2 := w1.w (Or.inr rfl) 3 q (tR τ 3 q) (by unfold wok; omega)
        rw [rest0 (fun z => cq z.symm) eg] at w2
        have c5 : CT B nt (B + 23) (uI (uI s3 (B + 23 + 3) p (nI (tR τ 3 p))) (B + 23 + 3) q (nI (tR τ 3 q))) (sdT τ x') := ⟨(c3.1.u _ _ _).u _ _ _, w2, hok, Or.inr rfl⟩
        have X5 : Sx (TQ B) s3 (uI (uI s3 (B + 23 + 3) p (nI (tR τ 3 p))) (B + 23 + 3) q (nI (tR τ 3 q))) := (Sx.u _ _ _ _ (Or.inl (TP.r 3 (by omega)))).tr (Sx.u _ _ _ _ (Or.inl (TP.r 3 (by omega))))
        obtain ⟨s', e1, e2, e3, e4⟩ := c_ctl hok hp hf hd ih r fuel x' _ (by omega) (by omega) c5 ((L3.u _ _ _).u _ _ _)
        rw [ctl_none hno (by rw [← hq]; exact er)]
        refine ⟨s', pre _ (ifn nq (bnd ((cV_ok h.1.1).trans k1) (ifn one_ne (bnd (sI_ok d L1.k65 rfl (by omega) (by decide)) (bnd k3 (ifp rfl (bnd c3.1.g10 (bnd (c3.1.s3 (by omega)) (bnd (c3.1.u _ _ _).g10 (bnd ((c3.1.u _ _ _).s3 (by omega)) e1)))))))))), ((X1.tr x3).tr X5).tr e2, fun i hi => ?_, e4⟩
        rw [e3 i hi, uI_ne (by omega), uI_ne (by omega), u3 i (by omega), uI_ne (by omega), r65]
theorem c_ctk {B nt p f : Nat} : ∀ m d F τ s, d + m ≤ 3 → m < F → CT B nt (B + 23) s τ → Lay B s → p < tP τ → f < tF τ → CR B nt d m τ s (ctk p f m τ) (f_X6_comesToKnow F s (B + 23) (nI p) (nI f) (nI m) (nI d) (B + 65))
  | 0, d, F + 1, τ, s, hd, hF, h, L, hp, hf => by
    have b16 := h.2.2.1.1.1
    have kn := c_kn h.1 h.2.1.1 h.2.2.1 hp (f := f) (by omega)
    show CR B nt d 0 τ s (if pkn τ f p = true then some [] else none, τ.2.1.1) (f_X6_comesToKnow_body (f_X6_comesToKnow F) s (B + 23) (nI p) (nI f) (nI 0) (nI d) (B + 65))
    have e : f_X6_comesToKnow_body (f_X6_comesToKnow F) s (B + 23) (nI p) (nI f) (nI 0) (nI d) (B + 65) = some (bI (pkn τ f p), s) := by
      unfold f_X6_comesToKnow_body f_X6_comesToKnow_b12
      refine ifp (by decide) (bnd ((cV_ok h.1.1).trans kn) (ifp ?_ rfl))
      cases pkn τ f p
      · exact Or.inl rfl
      · exact Or.inr rfl
    rw [e]
    cases q : pkn τ f p
    · exact ⟨s, rfl, Sx.rf _ s, fun _ _ => rfl, fun _ => h, fun l hl => by cases hl⟩
    · refine ⟨s, rfl, Sx.rf _ s, fun _ _ => rfl, fun z => (by cases z), fun l hl => ?_⟩
      have := Option.some.inj (show some [] = some l from hl)
      subst this
      exact ⟨rfl, fun i hi => absurd hi (Nat.not_lt_zero i)⟩
  | m + 1, d, F + 1, τ, s, hd, hF, h, L, hp, hf => by
    have b8 := h.2.2.1.1.2.1
    obtain ⟨s', e1, e2⟩ := c_ctl (F := F) (d := d) (m := m) h.2.2.1 hp hf (by omega) (fun σ s hs Ls h1 h2 => c_ctk m (d + 1) F σ s (by omega) (by omega) hs Ls h1 h2) (tP τ) jF τ.2.1.1 s (Nat.le_refl _) (by unfold jF; omega) h.sd0 L
    refine ⟨s', ?_, e2⟩
    show f_X6_comesToKnow_body (f_X6_comesToKnow F) s (B + 23) (nI p) (nI f) (nI (m + 1)) (nI d) (B + 65) = _
    unfold f_X6_comesToKnow_body
    refine ifn (nI_nle (by omega) (by omega)) (bnd (aL_ok L.k65) (ifp (nI_lt (by omega) (by decide)) (bnd h.1.g10 (bnd (h.1.a3 (by omega)) ?_))))
    rw [(h.2.1.1.2.2.1 p (by omega)).1]
    rw [Nat.sub_self] at e1
    exact e1
