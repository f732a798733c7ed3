/-! the reading of a text, as a machine -/
def rk (x : Nat) : Nat := if x = 124 then 1 else if x = 38 then 2 else if x = 60 ∨ x = 61 ∨ x = 62 then 3 else if x = 43 ∨ x = 45 then 4 else if x = 42 ∨ x = 47 then 5 else 0
theorem rk_c {x : Nat} (h : 1 ≤ rk x) : x = 124 ∨ x = 38 ∨ x = 60 ∨ x = 61 ∨ x = 62 ∨ x = 43 ∨ x = 45 ∨ x = 42 ∨ x = 47 := by
  unfold rk at h
  by_cases h1 : x = 124
  · omega
  rw [if_neg h1] at h
  by_cases h2 : x = 38
  · omega
  rw [if_neg h2] at h
  by_cases h3 : x = 60 ∨ x = 61 ∨ x = 62
  · omega
  rw [if_neg h3] at h
  by_cases h4 : x = 43 ∨ x = 45
  · omega
  rw [if_neg h4] at h
  by_cases h5 : x = 42 ∨ x = 47
  · omega
  rw [if_neg h5] at h
  omega
theorem rk_le (x : Nat) : rk x ≤ 5 := by
  unfold rk
  repeat' split
  all_goals omega
def hd0 (p : List Nat) : Nat := p.headD 0
def wf : List Nat → Prop
  | [] => True
  | x :: r => wf r ∧ (x = 33 ∨ x = 40 ∨ (1 ≤ rk x ∧ hd0 r ≠ 33 ∧ rk (hd0 r) < rk x))
def bins : List Nat → Nat
  | [] => 0
  | x :: r => bins r + (if 1 ≤ rk x then 1 else 0)
def cnt (y : Nat) : List Nat → Nat
  | [] => 0
  | x :: r => cnt y r + (if x = y then 1 else 0)
theorem cnt_le (y : Nat) : ∀ p : List Nat, cnt y p ≤ p.length
  | [] => Nat.le_refl 0
  | x :: r => by
    have := cnt_le y r
    show cnt y r + (if x = y then 1 else 0) ≤ r.length + 1
    split <;> omega
theorem cnt_e (y : Nat) (r : List Nat) : cnt y (y :: r) = cnt y r + 1 := by
  show cnt y r + (if y = y then 1 else 0) = _
  rw [if_pos rfl]
theorem cnt_n {x y : Nat} (h : x ≠ y) (r : List Nat) : cnt y (x :: r) = cnt y r := by
  show cnt y r + (if x = y then 1 else 0) = _
  rw [if_neg h]
  rfl
theorem bins_t {x : Nat} (h : 1 ≤ rk x) (r : List Nat) : bins (x :: r) = bins r + 1 := by
  show bins r + (if 1 ≤ rk x then 1 else 0) = _
  rw [if_pos h]
theorem bins_f {x : Nat} (h : ¬ 1 ≤ rk x) (r : List Nat) : bins (x :: r) = bins r := by
  show bins r + (if 1 ≤ rk x then 1 else 0) = _
  rw [if_neg h]
  rfl
theorem wf_b {p : List Nat} : wf p → ∀ x ∈ p, x < 256 := by
  induction p with
  | nil => intro _ x hx; cases hx
  | cons y r ih =>
    intro h x hx
    rcases List.mem_cons.mp hx with e | e
    · rcases h.2 with q | q | q
      · omega
      · omega
      · have := rk_c q.1
        omega
    · exact ih h.1 x e
/-- signs that have both their sides come out -/
def rel (k : Nat) : List Nat → (Nat → Int32) → Nat → List Nat × (Nat → Int32) × Nat
  | [], f, c => ([], f, c)
  | x :: r, f, c => if k ≤ rk x then rel k r (puts f c (-nI x)) (c + 1) else (x :: r, f, c)
def epc : List Nat → (Nat → Int32) → Nat → List Nat × (Nat → Int32) × Nat
  | [], f, c => ([], f, c)
  | x :: r, f, c => if x = 33 then epc r (puts f c (-33)) (c + 1) else (x :: r, f, c)
theorem rel_t {k x : Nat} {r : List Nat} {f : Nat → Int32} {c : Nat} (h : k ≤ rk x) : rel k (x :: r) f c = rel k r (puts f c (-nI x)) (c + 1) := if_pos h
theorem rel_f {k x : Nat} {r : List Nat} {f : Nat → Int32} {c : Nat} (h : ¬ k ≤ rk x) : rel k (x :: r) f c = (x :: r, f, c) := if_neg h
theorem epc_t {r : List Nat} {f : Nat → Int32} {c : Nat} : epc (33 :: r) f c = epc r (puts f c (-33)) (c + 1) := if_pos rfl
theorem epc_f {x : Nat} {r : List Nat} {f : Nat → Int32} {c : Nat} (h : x ≠ 33) : epc (x :: r) f c = (x :: r, f, c) := if_neg h
theorem puts_e (f : Nat → Int32) (c : Nat) (v : Int32) : puts f c v c = v := if_pos rfl
theorem puts_n {f : Nat → Int32} {c i : Nat} {v : Int32} (h : i ≠ c) : puts f c v i = f i := if_neg h
theorem rpn_cg {f g : Nat → Int32} : ∀ c, (∀ i, i < c → g i = f i) → rpn g c = rpn f c
  | 0, _ => rfl
  | c + 1, h => by
    have ih := rpn_cg c (fun i hi => h i (by omega))
    unfold rpn
    rw [ih, h c (by omega)]
theorem rpn_p3 {f : Nat → Int32} {c h : Nat} {v : Int32} (e : rpn f c = some h) (hv : -3 ≤ v) : rpn (puts f c v) (c + 1) = some (h + 1) := by
  have e1 : rpn (puts f c v) c = some h := (rpn_cg c (fun i hi => puts_n (by omega))).trans e
  conv => lhs; unfold rpn
  rw [e1]
  show (if -3 ≤ puts f c v c then some (h + 1) else _) = _
  rw [puts_e, if_pos hv]
theorem rpn_p33 {f : Nat → Int32} {c h : Nat} (e : rpn f c = some (h + 1)) : rpn (puts f c (-33)) (c + 1) = some (h + 1) := by
  have e1 : rpn (puts f c (-33)) c = some (h + 1) := (rpn_cg c (fun i hi => puts_n (by omega))).trans e
  conv => lhs; unfold rpn
  rw [e1]
  show (if -3 ≤ puts f c (-33) c then some (h + 1 + 1) else if puts f c (-33) c = -33 then (if 1 ≤ h + 1 then some (h + 1) else none) else _) = _
  rw [puts_e]
  exact ifn (by decide) (ifp rfl (ifp (by omega) rfl))
theorem sgn_v {x : Nat} (h : 1 ≤ rk x) : -nI x ∈ sg9 ∧ ¬ -3 ≤ -nI x ∧ -nI x ≠ -33 := by
  rcases rk_c h with rfl | rfl | rfl | rfl | rfl | rfl | rfl | rfl | rfl <;> decide
theorem rpn_ps {f : Nat → Int32} {c h x : Nat} (e : rpn f c = some (h + 2)) (hx : 1 ≤ rk x) : rpn (puts f c (-nI x)) (c + 1) = some (h + 1) := by
  have e1 : rpn (puts f c (-nI x)) c = some (h + 2) := (rpn_cg c (fun i hi => puts_n (by omega))).trans e
  have s := sgn_v hx
  conv => lhs; unfold rpn
  rw [e1]
  show (if -3 ≤ puts f c (-nI x) c then some (h + 2 + 1) else if puts f c (-nI x) c = -33 then (if 1 ≤ h + 2 then some (h + 2) else none) else (if 2 ≤ h + 2 then some (h + 2 - 1) else none)) = _
  rw [puts_e]
  exact ifn s.2.1 (ifn s.2.2 (ifp (by omega) rfl))
theorem cok_s {key x : Nat} (h : 1 ≤ rk x) : cok key (-nI x) := by
  have s := (sgn_v h).1
  refine Or.inr (Or.inr (Or.inr (Or.inr ?_)))
  have e : ([-124, -38, -60, -61, -62, -43, -45, -42, -47, -33] : List Int32) = sg9 ++ [-33] := rfl
  rw [e]
  exact List.mem_append_left _ s
theorem cok_p {key c : Nat} {f : Nat → Int32} {v : Int32} (h : ∀ i, i < c → cok key (f i)) (hv : cok key v) : ∀ i, i < c + 1 → cok key (puts f c v i) := by
  intro i hi
  by_cases e : i = c
  · rw [e, puts_e]; exact hv
  · rw [puts_n e]; exact h i (by omega)
theorem rel_inv {key k : Nat} (hk : 1 ≤ k) : ∀ p f c, wf p → hd0 p ≠ 33 → rpn f c = some (bins p + 1) → (∀ i, i < c → cok key (f i)) → wf (rel k p f c).1 ∧ hd0 (rel k p f c).1 ≠ 33 ∧ rpn (rel k p f c).2.1 (rel k p f c).2.2 = some (bins (rel k p f c).1 + 1) ∧ (∀ i, i < (rel k p f c).2.2 → cok key ((rel k p f c).2.1 i)) ∧ (rel k p f c).2.2 + (rel k p f c).1.length = c + p.length ∧ cnt 40 (rel k p f c).1 = cnt 40 p ∧ cnt 33 (rel k p f c).1 = cnt 33 p ∧ rk (hd0 (rel k p f c).1) < k
  | [], f, c, h1, h2, h3, h4 => ⟨h1, h2, h3, h4, rfl, rfl, rfl, hk⟩
  | x :: r, f, c, h1, h2, h3, h4 => by
    by_cases q : k ≤ rk x
    · rw [rel_t q]
      have x1 : 1 ≤ rk x := by omega
      have xc := rk_c x1
      rw [bins_t x1] at h3
      have w : hd0 r ≠ 33 := by
        rcases h1.2 with z | z | z
        · omega
        · omega
        · exact z.2.1
      have ih := rel_inv hk r (puts f c (-nI x)) (c + 1) h1.1 w (rpn_ps h3 x1) (cok_p h4 (cok_s x1))
      rw [cnt_n (by omega : x ≠ 40), cnt_n (by omega : x ≠ 33), List.length_cons]
      refine ⟨ih.1, ih.2.1, ih.2.2.1, ih.2.2.2.1, ?_, ih.2.2.2.2.2⟩
      have := ih.2.2.2.2.1
      omega
    · rw [rel_f q]
      exact ⟨h1, h2, h3, h4, rfl, rfl, rfl, Nat.lt_of_not_le q⟩
theorem epc_inv {key : Nat} : ∀ p f c, wf p → rpn f c = some (bins p + 1) → (∀ i, i < c → cok key (f i)) → wf (epc p f c).1 ∧ hd0 (epc p f c).1 ≠ 33 ∧ rpn (epc p f c).2.1 (epc p f c).2.2 = some (bins (epc p f c).1 + 1) ∧ (∀ i, i < (epc p f c).2.2 → cok key ((epc p f c).2.1 i)) ∧ (epc p f c).2.2 + (epc p f c).1.length = c + p.length ∧ cnt 40 (epc p f c).1 = cnt 40 p
  | [], f, c, h1, h3, h4 => ⟨h1, (show (0 : Nat) ≠ 33 by decide), h3, h4, rfl, rfl⟩
  | x :: r, f, c, h1, h3, h4 => by
    by_cases q : x = 33
    · subst q
      rw [epc_t]
      rw [bins_f (by decide)] at h3
      have ih := epc_inv r (puts f c (-33)) (c + 1) h1.1 (rpn_p33 h3) (cok_p h4 (Or.inr (Or.inr (Or.inr (Or.inr (by decide))))))
      rw [cnt_n (by decide : (33 : Nat) ≠ 40), List.length_cons]
      refine ⟨ih.1, ih.2.1, ih.2.2.1, ih.2.2.2.1, ?_, ih.2.2.2.2.2⟩
      have := ih.2.2.2.2.1
      omega
    · rw [epc_f q]
      exact ⟨h1, q, h3, h4, rfl, rfl⟩
/-- a closing bracket finds its opening one -/
theorem rel_open {k : Nat} (hk : k = 1) : ∀ p f c, wf p → hd0 p ≠ 33 → cnt 40 p ≠ 0 → ∃ r, (rel k p f c).1 = 40 :: r
  | [], f, c, h1, h2, h3 => absurd rfl h3
  | x :: r, f, c, h1, h2, h3 => by
    by_cases q : k ≤ rk x
    · rw [rel_t q]
      have x1 : 1 ≤ rk x := by omega
      have xc := rk_c x1
      rw [cnt_n (by omega : x ≠ 40)] at h3
      have w : hd0 r ≠ 33 := by
        rcases h1.2 with z | z | z
        · omega
        · omega
        · exact z.2.1
      exact rel_open hk r _ _ h1.1 w h3
    · rw [rel_f q]
      rcases h1.2 with z | z | z
      · exact absurd z h2
      · exact ⟨r, by rw [z]⟩
      · omega
abbrev Mt : Type := Bool × List Nat × (Nat → Int32) × Nat × Nat
def nmC (key v : Nat) : Int32 := if v = 104 then (if key = 2 then -2 else 0) else if v = 107 then (if key = 2 then 0 else -3) else if v = 110 then (if key = 0 then -2 else 0) else if v = 115 then (if key = 2 then -1 else 0) else if v = 119 then (if key = 2 then 0 else -1) else 0
theorem nmC_c (key v : Nat) : nmC key v = 0 ∨ (-3 ≤ nmC key v ∧ cok key (nmC key v)) := by
  unfold nmC
  by_cases h1 : v = 104
  · rw [if_pos h1]
    by_cases k : key = 2
    · rw [if_pos k]; exact Or.inr ⟨by decide, Or.inr (Or.inr (Or.inl ⟨rfl, by omega⟩))⟩
    · rw [if_neg k]; exact Or.inl rfl
  rw [if_neg h1]
  by_cases h2 : v = 107
  · rw [if_pos h2]
    by_cases k : key = 2
    · rw [if_pos k]; exact Or.inl rfl
    · rw [if_neg k]; exact Or.inr ⟨by decide, Or.inr (Or.inr (Or.inr (Or.inl ⟨rfl, k⟩)))⟩
  rw [if_neg h2]
  by_cases h3 : v = 110
  · rw [if_pos h3]
    by_cases k : key = 0
    · rw [if_pos k]; exact Or.inr ⟨by decide, Or.inr (Or.inr (Or.inl ⟨rfl, by omega⟩))⟩
    · rw [if_neg k]; exact Or.inl rfl
  rw [if_neg h3]
  by_cases h4 : v = 115
  · rw [if_pos h4]
    by_cases k : key = 2
    · rw [if_pos k]; exact Or.inr ⟨by decide, Or.inr (Or.inl rfl)⟩
    · rw [if_neg k]; exact Or.inl rfl
  rw [if_neg h4]
  by_cases h5 : v = 119
  · rw [if_pos h5]
    by_cases k : key = 2
    · rw [if_pos k]; exact Or.inl rfl
    · rw [if_neg k]; exact Or.inr ⟨by decide, Or.inr (Or.inl rfl)⟩
  rw [if_neg h5]
  exact Or.inl rfl
def leafM (v : Int32) (m : Mt) : Mt := (false, (epc m.2.1 (puts m.2.2.1 m.2.2.2.1 v) (m.2.2.2.1 + 1)).1, (epc m.2.1 (puts m.2.2.1 m.2.2.2.1 v) (m.2.2.2.1 + 1)).2.1, (epc m.2.1 (puts m.2.2.1 m.2.2.2.1 v) (m.2.2.2.1 + 1)).2.2, m.2.2.2.2 + 1)
def pieceM (V : Nat → Nat) (n key q : Nat) (m : Mt) : Option (Nat × Mt) :=
  if isD (V q) = true then (if wd V n q - q ≤ 4 then some (wd V n q, leafM (nI (nmb V q (wd V n q - q))) m) else none)
  else if isL (V q) = true then (if wd V n q - q ≤ 1 ∧ nmC key (V q) ≠ 0 then some (wd V n q, leafM (nmC key (V q)) m) else none)
  else if V q = 33 ∧ cnt 33 m.2.1 < 8 then some (q + 1, (true, 33 :: m.2.1, m.2.2))
  else if V q = 40 ∧ cnt 40 m.2.1 < 8 then some (q + 1, (true, 40 :: m.2.1, m.2.2))
  else none
def clsM (m : Mt) : Mt := (false, (epc ((rel 1 m.2.1 m.2.2.1 m.2.2.2.1).1.tail) (rel 1 m.2.1 m.2.2.1 m.2.2.2.1).2.1 (rel 1 m.2.1 m.2.2.1 m.2.2.2.1).2.2).1, (epc ((rel 1 m.2.1 m.2.2.1 m.2.2.2.1).1.tail) (rel 1 m.2.1 m.2.2.1 m.2.2.2.1).2.1 (rel 1 m.2.1 m.2.2.1 m.2.2.2.1).2.2).2.1, (epc ((rel 1 m.2.1 m.2.2.1 m.2.2.2.1).1.tail) (rel 1 m.2.1 m.2.2.1 m.2.2.2.1).2.1 (rel 1 m.2.1 m.2.2.1 m.2.2.2.1).2.2).2.2, m.2.2.2.2)
def rkk (x : Nat) : Nat := if rk x = 3 then 4 else rk x
def sgnM (x : Nat) (m : Mt) : Mt := (true, x :: (rel (rkk x) m.2.1 m.2.2.1 m.2.2.2.1).1, (rel (rkk x) m.2.1 m.2.2.1 m.2.2.2.1).2.1, (rel (rkk x) m.2.1 m.2.2.1 m.2.2.2.1).2.2, m.2.2.2.2)
def signM (V : Nat → Nat) (q : Nat) (m : Mt) : Option (Nat × Mt) :=
  if V q = 41 then (if cnt 40 m.2.1 = 0 then none else some (q + 1, clsM m))
  else if rk (V q) = 0 then none
  else if rk (V q) = 3 ∧ rk (hd0 (rel 4 m.2.1 m.2.2.1 m.2.2.2.1).1) = 3 then none
  else some (q + 1, sgnM (V q) m)
/-- what holds all the while -/
def MI (key e : Nat) (m : Mt) : Prop := wf m.2.1 ∧ (m.1 = false → hd0 m.2.1 ≠ 33) ∧ m.2.2.2.1 + m.2.1.length ≤ e ∧ rpn m.2.2.1 m.2.2.2.1 = some (bins m.2.1 + (if m.1 = true then 0 else 1)) ∧ ∀ i, i < m.2.2.2.1 → cok key (m.2.2.1 i)
theorem MI.mono {key e e' : Nat} {m : Mt} (h : MI key e m) (he : e ≤ e') : MI key e' m := ⟨h.1, h.2.1, Nat.le_trans h.2.2.1 he, h.2.2.2⟩
theorem leaf_inv {key e : Nat} {v : Int32} {m : Mt} (h : MI key e m) (hw : m.1 = true) (hv : -3 ≤ v) (hc : cok key v) : MI key (e + 1) (leafM v m) := by
  obtain ⟨h1, -, h3, h4, h5⟩ := h
  rw [if_pos hw] at h4
  have ih := epc_inv (key := key) m.2.1 (puts m.2.2.1 m.2.2.2.1 v) (m.2.2.2.1 + 1) h1 (rpn_p3 h4 hv) (cok_p h5 hc)
  refine ⟨ih.1, fun _ => ih.2.1, ?_, ih.2.2.1, ih.2.2.2.1⟩
  have := ih.2.2.2.2.1
  show (epc m.2.1 (puts m.2.2.1 m.2.2.2.1 v) (m.2.2.2.1 + 1)).2.2 + (epc m.2.1 (puts m.2.2.1 m.2.2.2.1 v) (m.2.2.2.1 + 1)).1.length ≤ e + 1
  omega
theorem piece_inv {V : Nat → Nat} {n key q e' : Nat} {m m' : Mt} (hq : q < n) (h : MI key q m) (hw : m.1 = true) (hs : pieceM V n key q m = some (e', m')) : MI key e' m' ∧ q + 1 ≤ e' ∧ e' ≤ n := by
  have wb := wd_b (V := V) hq
  unfold pieceM at hs
  cases d : isD (V q)
  · rw [d, if_neg (show ¬ (false = true) by decide)] at hs
    cases l : isL (V q)
    · rw [l, if_neg (show ¬ (false = true) by decide)] at hs
      by_cases c1 : V q = 33 ∧ cnt 33 m.2.1 < 8
      · rw [if_pos c1] at hs
        cases hs
        obtain ⟨h1, -, h3, h4, h5⟩ := h
        rw [if_pos hw] at h4
        refine ⟨⟨⟨h1, Or.inl rfl⟩, fun z => (by cases z), ?_, ?_, h5⟩, by omega, by omega⟩
        · show m.2.2.2.1 + (m.2.1.length + 1) ≤ q + 1
          omega
        · show rpn m.2.2.1 m.2.2.2.1 = some (bins (33 :: m.2.1) + 0)
          rw [bins_f (by decide)]
          exact h4
      · rw [if_neg c1] at hs
        by_cases c2 : V q = 40 ∧ cnt 40 m.2.1 < 8
        · rw [if_pos c2] at hs
          cases hs
          obtain ⟨h1, -, h3, h4, h5⟩ := h
          rw [if_pos hw] at h4
          refine ⟨⟨⟨h1, Or.inr (Or.inl rfl)⟩, fun z => (by cases z), ?_, ?_, h5⟩, by omega, by omega⟩
          · show m.2.2.2.1 + (m.2.1.length + 1) ≤ q + 1
            omega
          · show rpn m.2.2.1 m.2.2.2.1 = some (bins (40 :: m.2.1) + 0)
            rw [bins_f (by decide)]
            exact h4
        · rw [if_neg c2] at hs
          cases hs
    · rw [l, if_pos rfl] at hs
      by_cases c : wd V n q - q ≤ 1 ∧ nmC key (V q) ≠ 0
      · rw [if_pos c] at hs
        cases hs
        rcases nmC_c key (V q) with z | z
        · exact absurd z c.2
        · exact ⟨(leaf_inv h hw z.1 z.2).mono (by omega), by omega, by omega⟩
      · rw [if_neg c] at hs
        cases hs
  · rw [d, if_pos rfl] at hs
    by_cases c : wd V n q - q ≤ 4
    · rw [if_pos c] at hs
      cases hs
      have hd : ∀ j, q ≤ j → j < wd V n q → isD (V j) = true := by
        intro j h1 h2
        have el : isL (V q) = false := by
          unfold isD at d
          unfold isL
          rw [Bool.and_eq_true] at d
          have := of_decide_eq_true d.2
          rw [decide_eq_false (by omega : ¬ 97 ≤ V q)]
          rfl
        unfold wd at h2
        rw [el, if_neg (show ¬ (false = true) by decide), d, if_pos rfl] at h2
        exact skp_all _ _ j h1 h2
      have nl := nmb_lt hd (wd V n q - q) (by omega)
      have n4 : 10 ^ (wd V n q - q) ≤ 10 ^ 4 := Nat.pow_le_pow_right (by decide) c
      have n5 : (10 : Nat) ^ 4 = 10000 := by decide
      exact ⟨(leaf_inv h hw (nI_m3 (by omega)) (Or.inl ⟨_, by omega, rfl⟩)).mono (by omega), by omega, by omega⟩
    · rw [if_neg c] at hs
      cases hs
theorem cls_inv {key e : Nat} {m : Mt} (h : MI key e m) (hw : m.1 = false) (hc : cnt 40 m.2.1 ≠ 0) : MI key e (clsM m) ∧ ∃ r, (rel 1 m.2.1 m.2.2.1 m.2.2.2.1).1 = 40 :: r ∧ cnt 40 m.2.1 = cnt 40 r + 1 ∧ cnt 33 r = cnt 33 m.2.1 := by
  obtain ⟨h1, h2, h3, h4, h5⟩ := h
  rw [if_neg (by rw [hw]; decide)] at h4
  have i1 := rel_inv (key := key) (k := 1) (by decide) m.2.1 m.2.2.1 m.2.2.2.1 h1 (h2 hw) h4 h5
  obtain ⟨r, er⟩ := rel_open rfl m.2.1 m.2.2.1 m.2.2.2.1 h1 (h2 hw) hc
  have e40 := i1.2.2.2.2.2.1
  have e33 := i1.2.2.2.2.2.2.1
  have el := i1.2.2.2.2.1
  have wr := i1.1
  have rr := i1.2.2.1
  rw [er] at e40 e33 el wr rr
  rw [cnt_e] at e40
  rw [cnt_n (by decide : (40 : Nat) ≠ 33)] at e33
  rw [bins_f (by decide)] at rr
  have i2 := epc_inv (key := key) r (rel 1 m.2.1 m.2.2.1 m.2.2.2.1).2.1 (rel 1 m.2.1 m.2.2.1 m.2.2.2.1).2.2 wr.1 rr i1.2.2.2.1
  refine ⟨?_, r, er, e40.symm, e33⟩
  unfold clsM
  rw [er]
  refine ⟨i2.1, fun _ => i2.2.1, ?_, i2.2.2.1, i2.2.2.2.1⟩
  have := i2.2.2.2.2.1
  rw [List.length_cons] at el
  show (epc r (rel 1 m.2.1 m.2.2.1 m.2.2.2.1).2.1 (rel 1 m.2.1 m.2.2.1 m.2.2.2.1).2.2).2.2 + (epc r (rel 1 m.2.1 m.2.2.1 m.2.2.2.1).2.1 (rel 1 m.2.1 m.2.2.1 m.2.2.2.1).2.2).1.length ≤ e
  omega
theorem sgn_inv {key e x : Nat} {m : Mt} (h : MI key e m) (hw : m.1 = false) (hx : rk x ≠ 0) (hn : ¬ (rk x = 3 ∧ rk (hd0 (rel 4 m.2.1 m.2.2.1 m.2.2.2.1).1) = 3)) : MI key (e + 1) (sgnM x m) := by
  obtain ⟨h1, h2, h3, h4, h5⟩ := h
  rw [if_neg (by rw [hw]; decide)] at h4
  have kk : 1 ≤ rkk x := by unfold rkk; split <;> omega
  have i1 := rel_inv (key := key) kk m.2.1 m.2.2.1 m.2.2.2.1 h1 (h2 hw) h4 h5
  have lt : rk (hd0 (rel (rkk x) m.2.1 m.2.2.1 m.2.2.2.1).1) < rk x := by
    have := i1.2.2.2.2.2.2.2
    by_cases c : rk x = 3
    · have e4 : rkk x = 4 := if_pos c
      rw [e4] at this ⊢
      have : rk (hd0 (rel 4 m.2.1 m.2.2.1 m.2.2.2.1).1) ≠ 3 := fun z => hn ⟨c, z⟩
      omega
    · have e4 : rkk x = rk x := if_neg c
      rw [e4] at this ⊢
      exact this
  refine ⟨⟨i1.1, Or.inr (Or.inr ⟨by omega, i1.2.1, lt⟩)⟩, fun z => (by cases z), ?_, ?_, i1.2.2.2.1⟩
  · have := i1.2.2.2.2.1
    show (rel (rkk x) m.2.1 m.2.2.1 m.2.2.2.1).2.2 + ((rel (rkk x) m.2.1 m.2.2.1 m.2.2.2.1).1.length + 1) ≤ e + 1
    omega
  · show rpn (rel (rkk x) m.2.1 m.2.2.1 m.2.2.2.1).2.1 (rel (rkk x) m.2.1 m.2.2.1 m.2.2.2.1).2.2 = some (bins (x :: (rel (rkk x) m.2.1 m.2.2.1 m.2.2.2.1).1) + 0)
    rw [bins_t (by omega)]
    exact i1.2.2.1
theorem sign_inv {V : Nat → Nat} {n key q e' : Nat} {m m' : Mt} (hq : q < n) (h : MI key q m) (hw : m.1 = false) (hs : signM V q m = some (e', m')) : MI key e' m' ∧ e' = q + 1 := by
  unfold signM at hs
  by_cases c1 : V q = 41
  · rw [if_pos c1] at hs
    by_cases c2 : cnt 40 m.2.1 = 0
    · rw [if_pos c2] at hs
      cases hs
    · rw [if_neg c2] at hs
      cases hs
      exact ⟨(cls_inv h hw c2).1.mono (by omega), rfl⟩
  · rw [if_neg c1] at hs
    by_cases c2 : rk (V q) = 0
    · rw [if_pos c2] at hs
      cases hs
    · rw [if_neg c2] at hs
      by_cases c3 : rk (V q) = 3 ∧ rk (hd0 (rel 4 m.2.1 m.2.2.1 m.2.2.2.1).1) = 3
      · rw [if_pos c3] at hs
        cases hs
      · rw [if_neg c3] at hs
        cases hs
        exact ⟨sgn_inv h hw c2 c3, rfl⟩
/-- the whole reading behind the key: a fault's place, or the text -/
def stpM (V : Nat → Nat) (n key q : Nat) (m : Mt) : Option (Nat × Mt) := if m.1 = true then pieceM V n key q m else signM V q m
def runM (V : Nat → Nat) (n key : Nat) : Nat → Nat → Mt → Nat ⊕ ((Nat → Int32) × Nat × Nat)
  | 0, _, _ => .inl n
  | d + 1, e, m => if n ≤ bl V n e then (if m.1 = true ∨ cnt 40 m.2.1 ≠ 0 then .inl n else .inr ((rel 1 m.2.1 m.2.2.1 m.2.2.2.1).2.1, (rel 1 m.2.1 m.2.2.1 m.2.2.2.1).2.2, m.2.2.2.2)) else
      match stpM V n key (bl V n e) m with
      | none => .inl (bl V n e)
      | some em => runM V n key d em.1 em.2
theorem stp_inv {V : Nat → Nat} {n key q e' : Nat} {m m' : Mt} (hq : q < n) (h : MI key q m) (hs : stpM V n key q m = some (e', m')) : MI key e' m' ∧ q + 1 ≤ e' ∧ e' ≤ n := by
  unfold stpM at hs
  by_cases c : m.1 = true
  · rw [if_pos c] at hs
    exact piece_inv hq h c hs
  · rw [if_neg c] at hs
    have c' : m.1 = false := by
      cases z : m.1
      · rfl
      · exact absurd z c
    have := sign_inv hq h c' hs
    exact ⟨this.1, by omega, by omega⟩
