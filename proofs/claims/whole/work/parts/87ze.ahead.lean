/-! the reference's tape -/
def TpM (B : Nat) (t : hS) (V : Nat → Nat) (n : Nat) : Prop := Lay B t ∧ n ≤ 96 ∧ hI t (B + 66) 7 = nI n ∧ ∀ i, i < n → V i < 256 ∧ hI t (B + 72) i = nI (V i)
/-- numbers 8 to 12 of the reference have moved, no more -/
def Fg (B : Nat) (t u : hS) : Prop := Sx (fun a => a = B + 66) t u ∧ ∀ k, ¬ (8 ≤ k ∧ k ≤ 12) → hI u (B + 66) k = hI t (B + 66) k
theorem Fg.rf (B : Nat) (t : hS) : Fg B t t := ⟨Sx.rf _ t, fun _ _ => rfl⟩
theorem Fg.tr {B : Nat} {t u v : hS} (h : Fg B t u) (h2 : Fg B u v) : Fg B t v := ⟨h.1.tr h2.1, fun k hk => (h2.2 k hk).trans (h.2 k hk)⟩
theorem Fg.u {B : Nat} (t : hS) (k : Nat) (v : Int32) (hk : 8 ≤ k ∧ k ≤ 12) : Fg B t (uI t (B + 66) k v) := ⟨Sx.u _ _ _ _ rfl, fun j hj => uI_ne (by omega)⟩
theorem Fg.o {B : Nat} {t u : hS} (h : Fg B t u) {a : Nat} (ha : a ≠ B + 66) (k : Nat) : hI u a k = hI t a k := h.1.2.2.2 a ha k
theorem TpM.fg {B : Nat} {t u : hS} {V : Nat → Nat} {n : Nat} (h : TpM B t V n) (hx : Fg B t u) : TpM B u V n := ⟨h.1.sx hx.1, h.2.1, (hx.2 _ (by omega)).trans h.2.2.1, fun i hi => ⟨(h.2.2.2 i hi).1, (hx.o (by omega) i).trans (h.2.2.2 i hi).2⟩⟩
section TM
variable {B : Nat} {t : hS} {V : Nat → Nat} {n : Nat}
theorem m_let (h : TpM B t V n) {i : Nat} (hi : i < n) : f_X7_isLetter t (B + 66) (nI i) = some (bI (isL (V i)), t) := by
  have h96 := h.2.1
  have v := h.2.2.2 i hi
  unfold f_X7_isLetter isL
  refine bnd (gI_ok h.1.km) ?_
  rw [h.2.2.1]
  refine ifn (nI_ge hi (by omega)) (bnd h.1.m6 (bnd (aI_ok i h.1.k72 rfl (by omega) (by decide)) ?_))
  rw [v.2]
  by_cases h1 : 97 ≤ V i
  · refine ifn (nI_nlt (b := 97) h1 (by omega)) (bnd h.1.m6 (bnd (aI_ok i h.1.k72 rfl (by omega) (by decide)) ?_))
    rw [decide_eq_true h1, v.2]
    by_cases h2 : V i ≤ 122
    · rw [decide_eq_true h2]
      exact ifn (nI_nlt (a := 122) h2 (by omega)) rfl
    · rw [decide_eq_false h2]
      exact ifp (nI_lt (a := 122) (by omega) (by omega)) rfl
  · rw [decide_eq_false h1]
    exact ifp (nI_lt (b := 97) (by omega) (by omega)) rfl
theorem m_letn (h : TpM B t V n) {i : Nat} (hi : n ≤ i) (hb : i < 2 ^ 31) : f_X7_isLetter t (B + 66) (nI i) = some (0, t) := by
  unfold f_X7_isLetter
  refine bnd (gI_ok h.1.km) ?_
  rw [h.2.2.1]
  exact ifp (nI_le hi hb) rfl
theorem m_dig (h : TpM B t V n) {i : Nat} (hi : i < n) : f_X7_isFigure t (B + 66) (nI i) = some (bI (isD (V i)), t) := by
  have h96 := h.2.1
  have v := h.2.2.2 i hi
  unfold f_X7_isFigure isD
  refine bnd (gI_ok h.1.km) ?_
  rw [h.2.2.1]
  refine ifn (nI_ge hi (by omega)) (bnd h.1.m6 (bnd (aI_ok i h.1.k72 rfl (by omega) (by decide)) ?_))
  rw [v.2]
  by_cases h1 : 48 ≤ V i
  · refine ifn (nI_nlt (b := 48) h1 (by omega)) (bnd h.1.m6 (bnd (aI_ok i h.1.k72 rfl (by omega) (by decide)) ?_))
    rw [decide_eq_true h1, v.2]
    by_cases h2 : V i ≤ 57
    · rw [decide_eq_true h2]
      exact ifn (nI_nlt (a := 57) h2 (by omega)) rfl
    · rw [decide_eq_false h2]
      exact ifp (nI_lt (a := 57) (by omega) (by omega)) rfl
  · rw [decide_eq_false h1]
    exact ifp (nI_lt (b := 48) (by omega) (by omega)) rfl
theorem m_dign (h : TpM B t V n) {i : Nat} (hi : n ≤ i) (hb : i < 2 ^ 31) : f_X7_isFigure t (B + 66) (nI i) = some (0, t) := by
  unfold f_X7_isFigure
  refine bnd (gI_ok h.1.km) ?_
  rw [h.2.2.1]
  exact ifp (nI_le hi hb) rfl
end TM
section TG
variable {B : Nat} {V : Nat → Nat} {n : Nat}
theorem m_blk : ∀ d e t fuel, TpM B t V n → n - e = d → e ≤ n → d < fuel → hI t (B + 66) 8 = nI e → ∃ u, jL f_X7_go_b0 (fun _ _ => none) fuel (B + 66) t = f_X7_go_b38 (B + 66) u ∧ Fg B t u ∧ hI u (B + 66) 8 = nI (skp isB V d e) ∧ ∀ k, k ≠ 8 → hI u (B + 66) k = hI t (B + 66) k
  | 0, e, t, fuel + 1, h, hd, he, hf, h8 => by
    have h96 := h.2.1
    refine ⟨t, ?_, Fg.rf B t, h8, fun _ _ => rfl⟩
    show f_X7_go_b0 (jL f_X7_go_b0 (fun _ _ => none) fuel) (B + 66) t = _
    unfold f_X7_go_b0
    refine bnd (gI_ok h.1.km) (bnd (gI_ok h.1.km) ?_)
    rw [h8, h.2.2.1]
    exact ifp (nI_le (by omega) (by omega)) rfl
  | d + 1, e, t, fuel + 1, h, hd, he, hf, h8 => by
    have h96 := h.2.1
    have v := h.2.2.2 e (by omega)
    have pre : ∀ X, (if nI (V e) = (32 : Int32) then jL f_X7_go_b0 (fun _ _ => none) fuel (B + 66) (uI t (B + 66) 8 (nI (e + 1))) else f_X7_go_b38 (B + 66) t) = X → jL f_X7_go_b0 (fun _ _ => none) (fuel + 1) (B + 66) t = X := by
      intro X hX
      show f_X7_go_b0 (jL f_X7_go_b0 (fun _ _ => none) fuel) (B + 66) t = X
      unfold f_X7_go_b0
      refine bnd (gI_ok h.1.km) (bnd (gI_ok h.1.km) ?_)
      rw [h8, h.2.2.1]
      refine ifn (nI_ge (by omega) (by omega)) (bnd h.1.m6 (bnd (gI_ok h.1.km) ?_))
      rw [h8]
      refine bnd (aI_ok e h.1.k72 rfl (by omega) (by decide)) ?_
      rw [v.2]
      by_cases q : nI (V e) = 32
      · rw [if_pos q] at hX ⊢
        refine bnd (gI_ok h.1.km) ?_
        rw [h8, nI_1]
        exact bnd (pI_ok h.1.km) hX
      · rw [if_neg q] at hX ⊢
        exact hX
    by_cases c : V e = 32
    · obtain ⟨u, k1, f1, n1, o1⟩ := m_blk d (e + 1) (uI t (B + 66) 8 (nI (e + 1))) fuel (h.fg (Fg.u _ _ _ (by omega))) (by omega) (by omega) (by omega) (uI_eq _ _ _ _)
      rw [skp_t (by unfold isB; exact decide_eq_true c)]
      refine ⟨u, pre _ ((if_pos (by rw [c]; rfl)).trans k1), (Fg.u _ _ _ (by omega)).tr f1, n1, fun k hk => (o1 k hk).trans (uI_ne (by omega))⟩
    · rw [skp_f (by unfold isB; exact decide_eq_false c)]
      exact ⟨t, pre _ (if_neg (fun z => c ((nI_eq (b := 32) (by omega) (by decide)).mp z))), Fg.rf B t, h8, fun _ _ => rfl⟩
/-- what a look ahead leaves: from q on, close to a word or not -/
def GoP (B : Nat) (V : Nat → Nat) (n q : Nat) (cl : Bool) (E : Int32) (u : hS) : Prop := hI u (B + 66) 9 = nI q ∧ ((q = n ∧ hI u (B + 66) 10 = 0 ∧ hI u (B + 66) 12 = E) ∨ (q < n ∧ isL (V q) = true ∧ hI u (B + 66) 10 = (if cl = true then 4 else 1) ∧ hI u (B + 66) 11 = nI (V q) ∧ hI u (B + 66) 8 = nI (wd V n q) ∧ hI u (B + 66) 12 = nI (wd V n q)) ∨ (q < n ∧ isD (V q) = true ∧ hI u (B + 66) 10 = (if cl = true then 4 else if wd V n q - q ≤ 4 then 2 else 4) ∧ (wd V n q - q ≤ 4 → hI u (B + 66) 11 = nI (nmb V q (wd V n q - q))) ∧ hI u (B + 66) 8 = nI (wd V n q) ∧ hI u (B + 66) 12 = nI (wd V n q)) ∨ (q < n ∧ isL (V q) = false ∧ isD (V q) = false ∧ hI u (B + 66) 10 = 3 ∧ hI u (B + 66) 11 = nI (V q) ∧ hI u (B + 66) 8 = nI (q + 1) ∧ hI u (B + 66) 12 = E))
theorem m_lts {q : Nat} (hq : q < n) (cl : Bool) : ∀ d e t fuel, TpM B t V n → n - e = d → e ≤ n → d < fuel → hI t (B + 66) 8 = nI e → hI t (B + 66) 9 = nI q → ∃ u, jL f_X7_go_b93 (fun _ _ _ => none) fuel (B + 66) (bI cl) t = some ((), u) ∧ Fg B t u ∧ hI u (B + 66) 8 = nI (skp isL V d e) ∧ hI u (B + 66) 12 = nI (skp isL V d e) ∧ hI u (B + 66) 9 = nI q ∧ hI u (B + 66) 10 = (if cl = true then 4 else 1) ∧ hI u (B + 66) 11 = nI (V q)
  | 0, e, t, fuel + 1, h, hd, he, hf, h8, h9 => by
    have h96 := h.2.1
    have v := h.2.2.2 q hq
    have L := h.1
    have fin : ∀ x : Int32, f_X7_go_b127 (B + 66) (B + 66) x t = some ((), uI (uI (uI t (B + 66) 10 x) (B + 66) 11 (nI (V q))) (B + 66) 12 (nI e)) := by
      intro x
      unfold f_X7_go_b127
      refine bnd (pI_ok L.km) (bnd (L.u _ _ _).m6 (bnd (gI_ok (L.u _ _ _).km) ?_))
      rw [uI_ne (by omega), h9]
      refine bnd (aI_ok q (L.u _ _ _).k72 rfl (by omega) (by decide)) ?_
      rw [uI_ne (by omega), v.2]
      refine bnd (pI_ok (L.u _ _ _).km) (bnd (gI_ok ((L.u _ _ _).u _ _ _).km) ?_)
      rw [uI_ne (by omega), uI_ne (by omega), h8]
      exact bnd (pI_ok ((L.u _ _ _).u _ _ _).km) rfl
    refine ⟨uI (uI (uI t (B + 66) 10 (if cl = true then 4 else 1)) (B + 66) 11 (nI (V q))) (B + 66) 12 (nI e), ?_, ((Fg.u _ _ _ (by omega)).tr (Fg.u _ _ _ (by omega))).tr (Fg.u _ _ _ (by omega)), ?_, uI_eq _ _ _ _, ?_, ?_, ?_⟩
    · show f_X7_go_b93 (jL f_X7_go_b93 (fun _ _ _ => none) fuel) (B + 66) (bI cl) t = _
      unfold f_X7_go_b93
      refine bnd (gI_ok L.km) ?_
      rw [h8]
      refine bnd ((cV_ok L.km).trans (m_letn h (by omega) (by omega))) (ifp rfl ?_)
      cases cl
      · exact ifp rfl (fin 1)
      · exact ifn one_ne (fin 4)
    · rw [uI_ne (by omega), uI_ne (by omega), uI_ne (by omega)]; exact h8
    · rw [uI_ne (by omega), uI_ne (by omega), uI_ne (by omega)]; exact h9
    · rw [uI_ne (by omega), uI_ne (by omega), uI_eq]
    · rw [uI_ne (by omega), uI_eq]
  | d + 1, e, t, fuel + 1, h, hd, he, hf, h8, h9 => by
    have h96 := h.2.1
    have v := h.2.2.2 q hq
    have L := h.1
    have el := (cV_ok L.km).trans (m_let h (show e < n by omega))
    cases c : isL (V e)
    · rw [c] at el
      have fin : ∀ x : Int32, f_X7_go_b127 (B + 66) (B + 66) x t = some ((), uI (uI (uI t (B + 66) 10 x) (B + 66) 11 (nI (V q))) (B + 66) 12 (nI e)) := by
        intro x
        unfold f_X7_go_b127
        refine bnd (pI_ok L.km) (bnd (L.u _ _ _).m6 (bnd (gI_ok (L.u _ _ _).km) ?_))
        rw [uI_ne (by omega), h9]
        refine bnd (aI_ok q (L.u _ _ _).k72 rfl (by omega) (by decide)) ?_
        rw [uI_ne (by omega), v.2]
        refine bnd (pI_ok (L.u _ _ _).km) (bnd (gI_ok ((L.u _ _ _).u _ _ _).km) ?_)
        rw [uI_ne (by omega), uI_ne (by omega), h8]
        exact bnd (pI_ok ((L.u _ _ _).u _ _ _).km) rfl
      rw [skp_f c]
      refine ⟨uI (uI (uI t (B + 66) 10 (if cl = true then 4 else 1)) (B + 66) 11 (nI (V q))) (B + 66) 12 (nI e), ?_, ((Fg.u _ _ _ (by omega)).tr (Fg.u _ _ _ (by omega))).tr (Fg.u _ _ _ (by omega)), ?_, uI_eq _ _ _ _, ?_, ?_, ?_⟩
      · show f_X7_go_b93 (jL f_X7_go_b93 (fun _ _ _ => none) fuel) (B + 66) (bI cl) t = _
        unfold f_X7_go_b93
        refine bnd (gI_ok L.km) ?_
        rw [h8]
        refine bnd el (ifp rfl ?_)
        cases cl
        · exact ifp rfl (fin 1)
        · exact ifn one_ne (fin 4)
      · rw [uI_ne (by omega), uI_ne (by omega), uI_ne (by omega)]; exact h8
      · rw [uI_ne (by omega), uI_ne (by omega), uI_ne (by omega)]; exact h9
      · rw [uI_ne (by omega), uI_ne (by omega), uI_eq]
      · rw [uI_ne (by omega), uI_eq]
    · rw [c] at el
      obtain ⟨u, k1, f1, r1⟩ := m_lts hq cl d (e + 1) (uI t (B + 66) 8 (nI (e + 1))) fuel (h.fg (Fg.u _ _ _ (by omega))) (by omega) (by omega) (by omega) (uI_eq _ _ _ _) ((uI_ne (by omega)).trans h9)
      rw [skp_t c]
      refine ⟨u, ?_, (Fg.u _ _ _ (by omega)).tr f1, r1⟩
      show f_X7_go_b93 (jL f_X7_go_b93 (fun _ _ _ => none) fuel) (B + 66) (bI cl) t = _
      unfold f_X7_go_b93
      refine bnd (gI_ok L.km) ?_
      rw [h8]
      refine bnd el (ifn one_ne (bnd (gI_ok L.km) ?_))
      rw [h8, nI_1]
      exact bnd (pI_ok L.km) k1
theorem m_dgs {q : Nat} (hq : q < n) (cl : Bool) : ∀ d e t fuel, TpM B t V n → n - e = d → q ≤ e → e ≤ n → d < fuel → hI t (B + 66) 8 = nI e → hI t (B + 66) 9 = nI q → (e - q ≤ 4 → hI t (B + 66) 11 = nI (nmb V q (e - q))) → ∃ u, jL f_X7_go_b170 (fun _ _ _ => none) fuel (B + 66) (bI cl) t = some ((), u) ∧ Fg B t u ∧ hI u (B + 66) 8 = nI (skp isD V d e) ∧ hI u (B + 66) 12 = nI (skp isD V d e) ∧ hI u (B + 66) 9 = nI q ∧ hI u (B + 66) 10 = (if cl = true then 4 else if skp isD V d e - q ≤ 4 then 2 else 4) ∧ (skp isD V d e - q ≤ 4 → hI u (B + 66) 11 = nI (nmb V q (skp isD V d e - q))) := by
  have stop : ∀ e t, TpM B t V n → q ≤ e → e ≤ n → hI t (B + 66) 8 = nI e → hI t (B + 66) 9 = nI q → (e - q ≤ 4 → hI t (B + 66) 11 = nI (nmb V q (e - q))) → ∃ u, (if bI cl = 0 then (gI t (B + 66) 7 8).bind fun x3 => (gI t (B + 66) 7 9).bind fun x4 => if (x3 - x4) ≤ (4 : Int32) then f_X7_go_b261 (B + 66) (B + 66) (2 : Int32) t else f_X7_go_b256 (B + 66) (B + 66) t else f_X7_go_b256 (B + 66) (B + 66) t) = some ((), u) ∧ Fg B t u ∧ hI u (B + 66) 8 = nI e ∧ hI u (B + 66) 12 = nI e ∧ hI u (B + 66) 9 = nI q ∧ hI u (B + 66) 10 = (if cl = true then 4 else if e - q ≤ 4 then 2 else 4) ∧ (e - q ≤ 4 → hI u (B + 66) 11 = nI (nmb V q (e - q))) := by
    intro e t h qe he h8 h9 h11
    have h96 := h.2.1
    have L := h.1
    have fin : ∀ x : Int32, f_X7_go_b261 (B + 66) (B + 66) x t = some ((), uI (uI t (B + 66) 10 x) (B + 66) 12 (nI e)) := by
      intro x
      unfold f_X7_go_b261
      refine bnd (pI_ok L.km) (bnd (gI_ok (L.u _ _ _).km) ?_)
      rw [uI_ne (by omega), h8]
      exact bnd (pI_ok (L.u _ _ _).km) rfl
    refine ⟨uI (uI t (B + 66) 10 (if cl = true then 4 else if e - q ≤ 4 then 2 else 4)) (B + 66) 12 (nI e), ?_, (Fg.u _ _ _ (by omega)).tr (Fg.u _ _ _ (by omega)), ?_, uI_eq _ _ _ _, ?_, ?_, ?_⟩
    · unfold f_X7_go_b256
      cases cl
      · refine ifp rfl (bnd (gI_ok L.km) (bnd (gI_ok L.km) ?_))
        rw [h8, h9, pk_sub qe]
        by_cases c : e - q ≤ 4
        · have e4 : (if false = true then (4 : Int32) else if e - q ≤ 4 then 2 else 4) = 2 := (if_neg (by decide)).trans (if_pos c)
          rw [e4]
          exact ifp (nI_le (b := 4) c (by decide)) (fin 2)
        · have e4 : (if false = true then (4 : Int32) else if e - q ≤ 4 then 2 else 4) = 4 := (if_neg (by decide)).trans (if_neg c)
          rw [e4]
          exact ifn (nI_ge (a := 4) (by omega) (by omega)) (fin 4)
      · exact ifn one_ne (fin 4)
    · rw [uI_ne (by omega), uI_ne (by omega)]; exact h8
    · rw [uI_ne (by omega), uI_ne (by omega)]; exact h9
    · rw [uI_ne (by omega), uI_eq]
    · intro c
      rw [uI_ne (by omega), uI_ne (by omega)]; exact h11 c
  intro d
  induction d with
  | zero =>
    intro e t fuel h hd qe he hf h8 h9 h11
    have h96 := h.2.1
    have L := h.1
    cases fuel with
    | zero => omega
    | succ fuel =>
      obtain ⟨u, k1, r1⟩ := stop e t h qe he h8 h9 h11
      refine ⟨u, ?_, r1⟩
      show f_X7_go_b170 (jL f_X7_go_b170 (fun _ _ _ => none) fuel) (B + 66) (bI cl) t = _
      unfold f_X7_go_b170
      refine bnd (gI_ok L.km) ?_
      rw [h8]
      exact bnd ((cV_ok L.km).trans (m_dign h (by omega) (by omega))) (ifp rfl k1)
  | succ d ih =>
    intro e t fuel h hd qe he hf h8 h9 h11
    have h96 := h.2.1
    have L := h.1
    cases fuel with
    | zero => omega
    | succ fuel =>
      have el := (cV_ok L.km).trans (m_dig h (show e < n by omega))
      cases c : isD (V e)
      · rw [c] at el
        obtain ⟨u, k1, r1⟩ := stop e t h qe he h8 h9 h11
        rw [skp_f c]
        refine ⟨u, ?_, r1⟩
        show f_X7_go_b170 (jL f_X7_go_b170 (fun _ _ _ => none) fuel) (B + 66) (bI cl) t = _
        unfold f_X7_go_b170
        refine bnd (gI_ok L.km) ?_
        rw [h8]
        exact bnd el (ifp rfl k1)
      · rw [c] at el
        rw [skp_t c]
        have d48 : 48 ≤ V e := by
          unfold isD at c
          rw [Bool.and_eq_true] at c
          exact of_decide_eq_true c.1
        have v := h.2.2.2 e (by omega)
        have nx : ∀ x : Int32, (e + 1 - q ≤ 4 → x = nI (nmb V q (e + 1 - q))) → ∃ u, f_X7_go_b222 (jL f_X7_go_b170 (fun _ _ _ => none) fuel) (B + 66) (bI cl) (B + 66) x t = some ((), u) ∧ Fg B t u ∧ hI u (B + 66) 8 = nI (skp isD V d (e + 1)) ∧ hI u (B + 66) 12 = nI (skp isD V d (e + 1)) ∧ hI u (B + 66) 9 = nI q ∧ hI u (B + 66) 10 = (if cl = true then 4 else if skp isD V d (e + 1) - q ≤ 4 then 2 else 4) ∧ (skp isD V d (e + 1) - q ≤ 4 → hI u (B + 66) 11 = nI (nmb V q (skp isD V d (e + 1) - q))) := by
          intro x hx
          have F2 : Fg B t (uI (uI t (B + 66) 11 x) (B + 66) 8 (nI (e + 1))) := (Fg.u _ _ _ (by omega)).tr (Fg.u _ _ _ (by omega))
          obtain ⟨u, k1, f1, r1⟩ := ih (e + 1) (uI (uI t (B + 66) 11 x) (B + 66) 8 (nI (e + 1))) fuel (h.fg F2) (by omega) (by omega) (by omega) (by omega) (uI_eq _ _ _ _) (by rw [uI_ne (by omega), uI_ne (by omega)]; exact h9) (fun z => by rw [uI_ne (by omega), uI_eq]; exact hx z)
          refine ⟨u, ?_, F2.tr f1, r1⟩
          unfold f_X7_go_b222
          refine bnd (pI_ok L.km) (bnd (gI_ok (L.u _ _ _).km) ?_)
          rw [uI_ne (by omega), h8, nI_1]
          exact bnd (pI_ok (L.u _ _ _).km) k1
        have pre : ∀ X, (if (4 : Int32) ≤ nI (e - q) then (gI t (B + 66) 7 11).bind fun x7 => f_X7_go_b222 (jL f_X7_go_b170 (fun _ _ _ => none) fuel) (B + 66) (bI cl) (B + 66) x7 t else (gI t (B + 66) 7 11).bind fun x8 => (gR t (B + 66) 7 6).bind fun a9 => (gI t (B + 66) 7 8).bind fun x10 => (aI t a9 10 x10).bind fun x11 => f_X7_go_b222 (jL f_X7_go_b170 (fun _ _ _ => none) fuel) (B + 66) (bI cl) (B + 66) ((((10 : Int32) * x8) + x11) - (48 : Int32)) t) = X → jL f_X7_go_b170 (fun _ _ _ => none) (fuel + 1) (B + 66) (bI cl) t = X := by
          intro X hX
          show f_X7_go_b170 (jL f_X7_go_b170 (fun _ _ _ => none) fuel) (B + 66) (bI cl) t = X
          unfold f_X7_go_b170
          refine bnd (gI_ok L.km) ?_
          rw [h8]
          refine bnd el (ifn one_ne (bnd (gI_ok L.km) (bnd (gI_ok L.km) ?_)))
          rw [h8, h9, pk_sub qe]
          exact hX
        by_cases c4 : 4 ≤ e - q
        · obtain ⟨u, k1, r1⟩ := nx (hI t (B + 66) 11) (fun z => by omega)
          exact ⟨u, pre _ (ifp (nI_le (a := 4) c4 (by omega)) (bnd (gI_ok L.km) k1)), r1⟩
        · obtain ⟨u, k1, r1⟩ := nx (nI (nmb V q (e + 1 - q))) (fun _ => rfl)
          refine ⟨u, pre _ (ifn (nI_ge (b := 4) (by omega) (by decide)) (bnd (gI_ok L.km) (bnd L.m6 (bnd (gI_ok L.km) ?_)))), r1⟩
          rw [h8]
          refine bnd (aI_ok e L.k72 rfl (by omega) (by decide)) ?_
          rw [v.2, h11 (by omega)]
          show f_X7_go_b222 _ (B + 66) (bI cl) (B + 66) (nI 10 * nI (nmb V q (e - q)) + nI (V e) - nI 48) t = _
          rw [pk_mul, nI_add, pk_sub (by omega)]
          have en : 10 * nmb V q (e - q) + V e - 48 = nmb V q (e + 1 - q) := by
            rw [show e + 1 - q = (e - q) + 1 by omega]
            show _ = 10 * nmb V q (e - q) + (V (q + (e - q)) - 48)
            rw [show q + (e - q) = e by omega]
            omega
          rw [en]
          exact k1
/-- a look ahead -/
theorem m_go {t : hS} {e : Nat} (h : TpM B t V n) (he : e ≤ n) (h8 : hI t (B + 66) 8 = nI e) : ∃ u, f_X7_go t (B + 66) = some ((), u) ∧ Fg B t u ∧ GoP B V n (bl V n e) (decide (nI (bl V n e) = hI t (B + 66) 12)) (hI t (B + 66) 12) u := by
  have h96 := h.2.1
  have bb := bl_b (V := V) he
  obtain ⟨u1, k1, f1, n1, o1⟩ := m_blk (n - e) e t jF h rfl he (by unfold jF; omega) h8
  have n1' : hI u1 (B + 66) 8 = nI (bl V n e) := n1
  have E1 := o1 12 (by omega)
  have H1 := h.fg f1
  obtain ⟨q, hq⟩ : ∃ q, q = bl V n e := ⟨_, rfl⟩
  rw [← hq] at n1' bb ⊢
  have F2 : Fg B u1 (uI u1 (B + 66) 9 (nI q)) := Fg.u _ _ _ (by omega)
  have H2 := H1.fg F2
  have L2 := H2.1
  have g9 : hI (uI u1 (B + 66) 9 (nI q)) (B + 66) 9 = nI q := uI_eq _ _ _ _
  have g8 : hI (uI u1 (B + 66) 9 (nI q)) (B + 66) 8 = nI q := (uI_ne (by omega)).trans n1'
  have g12 : hI (uI u1 (B + 66) 9 (nI q)) (B + 66) 12 = hI t (B + 66) 12 := (uI_ne (by omega)).trans E1
  have fin : ∀ cl, cl = decide (nI q = hI t (B + 66) 12) → ∃ u, f_X7_go_b62 (B + 66) (bI cl) (uI u1 (B + 66) 9 (nI q)) = some ((), u) ∧ Fg B t u ∧ GoP B V n q cl (hI t (B + 66) 12) u := by
    intro cl hcl
    generalize uI u1 (B + 66) 9 (nI q) = u2 at F2 H2 L2 g9 g8 g12
    have F02 : Fg B t u2 := f1.tr F2
    unfold f_X7_go_b62
    by_cases cn : q = n
    · refine ⟨uI u2 (B + 66) 10 0, ?_, F02.tr (Fg.u _ _ _ (by omega)), (uI_ne (by omega)).trans g9, Or.inl ⟨cn, uI_eq _ _ _ _, (uI_ne (by omega)).trans g12⟩⟩
      refine bnd (gI_ok L2.km) (bnd (gI_ok L2.km) ?_)
      rw [g9, H2.2.2.1]
      exact ifp (by rw [cn]) (bnd (pI_ok L2.km) rfl)
    · have qn : q < n := by omega
      have nn : ¬ nI q = nI n := fun z => cn ((nI_eq (by omega) (by omega)).mp z)
      have el := (cV_ok L2.km).trans (m_let H2 qn)
      cases cL : isL (V q)
      · rw [cL] at el
        have ed := (cV_ok L2.km).trans (m_dig H2 qn)
        cases cD : isD (V q)
        · rw [cD] at ed
          refine ⟨uI (uI (uI u2 (B + 66) 10 3) (B + 66) 11 (nI (V q))) (B + 66) 8 (nI (q + 1)), ?_, ((F02.tr (Fg.u _ _ _ (by omega))).tr (Fg.u _ _ _ (by omega))).tr (Fg.u _ _ _ (by omega)), ?_, Or.inr (Or.inr (Or.inr ⟨qn, cL, cD, ?_, ?_, uI_eq _ _ _ _, ?_⟩))⟩
          · refine bnd (gI_ok L2.km) (bnd (gI_ok L2.km) ?_)
            rw [g9, H2.2.2.1]
            refine ifn nn (bnd (gI_ok L2.km) ?_)
            rw [g9]
            refine bnd el (ifp rfl (bnd (gI_ok L2.km) ?_))
            rw [g9]
            refine bnd ed (ifp rfl (bnd (pI_ok L2.km) (bnd (L2.u _ _ _).m6 (bnd (gI_ok (L2.u _ _ _).km) ?_))))
            rw [uI_ne (by omega), g9]
            refine bnd (aI_ok q (L2.u _ _ _).k72 rfl (by omega) (by decide)) ?_
            rw [uI_ne (by omega), (H2.2.2.2 q qn).2]
            refine bnd (pI_ok (L2.u _ _ _).km) (bnd (gI_ok ((L2.u _ _ _).u _ _ _).km) ?_)
            rw [uI_ne (by omega), uI_ne (by omega), g8, nI_1]
            exact bnd (pI_ok ((L2.u _ _ _).u _ _ _).km) rfl
          · rw [uI_ne (by omega), uI_ne (by omega), uI_ne (by omega)]; exact g9
          · rw [uI_ne (by omega), uI_ne (by omega), uI_eq]
          · rw [uI_ne (by omega), uI_eq]
          · rw [uI_ne (by omega), uI_ne (by omega), uI_ne (by omega)]; exact g12
        · rw [cD] at ed
          have ew : wd V n q = skp isD V (n - q) q := by
            unfold wd
            rw [cL, if_neg (by decide), cD, if_pos rfl]
          have F3 : Fg B u2 (uI u2 (B + 66) 11 0) := Fg.u _ _ _ (by omega)
          obtain ⟨u, k2, f2, r1, r2, r3, r4, r5⟩ := m_dgs qn cl (n - q) q (uI u2 (B + 66) 11 0) jF (H2.fg F3) rfl (Nat.le_refl q) (by omega) (by unfold jF; omega) ((uI_ne (by omega)).trans g8) ((uI_ne (by omega)).trans g9) (fun _ => by rw [uI_eq, Nat.sub_self]; rfl)
          rw [← ew] at r1 r2 r4 r5
          refine ⟨u, ?_, (F02.tr F3).tr f2, r3, Or.inr (Or.inr (Or.inl ⟨qn, cD, r4, r5, r1, r2⟩))⟩
          refine bnd (gI_ok L2.km) (bnd (gI_ok L2.km) ?_)
          rw [g9, H2.2.2.1]
          refine ifn nn (bnd (gI_ok L2.km) ?_)
          rw [g9]
          refine bnd el (ifp rfl (bnd (gI_ok L2.km) ?_))
          rw [g9]
          exact bnd ed (ifn one_ne (bnd (pI_ok L2.km) k2))
      · rw [cL] at el
        have ew : wd V n q = skp isL V (n - q) q := by
          unfold wd
          rw [cL, if_pos rfl]
        obtain ⟨u, k2, f2, r1, r2, r3, r4, r5⟩ := m_lts qn cl (n - q) q u2 jF H2 rfl (by omega) (by unfold jF; omega) g8 g9
        rw [← ew] at r1 r2
        refine ⟨u, ?_, F02.tr f2, r3, Or.inr (Or.inl ⟨qn, cL, r4, r5, r1, r2⟩)⟩
        refine bnd (gI_ok L2.km) (bnd (gI_ok L2.km) ?_)
        rw [g9, H2.2.2.1]
        refine ifn nn (bnd (gI_ok L2.km) ?_)
        rw [g9]
        exact bnd el (ifn one_ne k2)
  by_cases c : nI q = hI t (B + 66) 12
  · obtain ⟨u, k2, f2, g⟩ := fin true (decide_eq_true c).symm
    rw [decide_eq_true c]
    refine ⟨u, k1.trans ?_, f2, g⟩
    unfold f_X7_go_b38
    refine bnd (gI_ok H1.1.km) ?_
    rw [n1']
    refine bnd (pI_ok H1.1.km) (bnd (gI_ok L2.km) (bnd (gI_ok L2.km) ?_))
    rw [g9, g12]
    exact ifp c k2
  · obtain ⟨u, k2, f2, g⟩ := fin false (decide_eq_false c).symm
    rw [decide_eq_false c]
    refine ⟨u, k1.trans ?_, f2, g⟩
    unfold f_X7_go_b38
    refine bnd (gI_ok H1.1.km) ?_
    rw [n1']
    refine bnd (pI_ok H1.1.km) (bnd (gI_ok L2.km) (bnd (gI_ok L2.km) ?_))
    rw [g9, g12]
    exact ifn c k2
end TG
