/-- slots and sheets in the layout -/
theorem Lay.sk {B : Nat} {s : hS} (L : Lay B s) {j : Nat} (hj : j < 5) : hK s (B + 49 + 3 * j) = (2, 6) := by
  have h : ∀ j, j < 5 → layK[49 + 3 * j]? = some (2, 6) := by decide
  rw [Nat.add_assoc]
  exact L.k _ 2 6 (h j hj)
theorem Lay.sk1 {B : Nat} {s : hS} (L : Lay B s) {j : Nat} (hj : j < 5) : hK s (B + 50 + 3 * j) = (1, 3) := by
  have h : ∀ j, j < 5 → layK[50 + 3 * j]? = some (1, 3) := by decide
  rw [Nat.add_assoc]
  exact L.k _ 1 3 (h j hj)
theorem Lay.sk2 {B : Nat} {s : hS} (L : Lay B s) {j : Nat} (hj : j < 5) : hK s (B + 51 + 3 * j) = (10, 24) := by
  have h : ∀ j, j < 5 → layK[51 + 3 * j]? = some (10, 24) := by decide
  rw [Nat.add_assoc]
  exact L.k _ 10 24 (h j hj)
theorem Lay.sr {B : Nat} {s : hS} (L : Lay B s) {j : Nat} (hj : j < 5) : hR s (B + 48) j = some (B + 49 + 3 * j) := by
  have h : ∀ j, j < 5 → (48, j, 49 + 3 * j) ∈ layR := by decide
  rw [Nat.add_assoc]
  exact L.r 48 j _ (h j hj)
theorem Lay.sr1 {B : Nat} {s : hS} (L : Lay B s) {j : Nat} (hj : j < 5) : hR s (B + 49 + 3 * j) 5 = some (B + 50 + 3 * j) := by
  have h : ∀ j, j < 5 → (49 + 3 * j, 5, 50 + 3 * j) ∈ layR := by decide
  rw [Nat.add_assoc, Nat.add_assoc]
  exact L.r _ 5 _ (h j hj)
theorem Lay.sr2 {B : Nat} {s : hS} (L : Lay B s) {j : Nat} (hj : j < 5) : hR s (B + 50 + 3 * j) 2 = some (B + 51 + 3 * j) := by
  have h : ∀ j, j < 5 → (50 + 3 * j, 2, 51 + 3 * j) ∈ layR := by decide
  rw [Nat.add_assoc, Nat.add_assoc]
  exact L.r _ 2 _ (h j hj)
theorem Lay.hk {B : Nat} {s : hS} (L : Lay B s) {j : Nat} (hj : j < 4) : hK s (B + 40 + 2 * j) = (1, 3) := by
  have h : ∀ j, j < 4 → layK[40 + 2 * j]? = some (1, 3) := by decide
  rw [Nat.add_assoc]
  exact L.k _ 1 3 (h j hj)
theorem Lay.hk1 {B : Nat} {s : hS} (L : Lay B s) {j : Nat} (hj : j < 4) : hK s (B + 41 + 2 * j) = (10, 24) := by
  have h : ∀ j, j < 4 → layK[41 + 2 * j]? = some (10, 24) := by decide
  rw [Nat.add_assoc]
  exact L.k _ 10 24 (h j hj)
theorem Lay.hr {B : Nat} {s : hS} (L : Lay B s) {j : Nat} (hj : j < 4) : hR s (B + 39) j = some (B + 40 + 2 * j) := by
  have h : ∀ j, j < 4 → (39, j, 40 + 2 * j) ∈ layR := by decide
  rw [Nat.add_assoc]
  exact L.r 39 j _ (h j hj)
theorem Lay.hr1 {B : Nat} {s : hS} (L : Lay B s) {j : Nat} (hj : j < 4) : hR s (B + 40 + 2 * j) 2 = some (B + 41 + 2 * j) := by
  have h : ∀ j, j < 4 → (40 + 2 * j, 2, 41 + 2 * j) ∈ layR := by decide
  rw [Nat.add_assoc, Nat.add_assoc]
  exact L.r _ 2 _ (h j hj)
theorem Lay.gsl {B : Nat} {s : hS} (L : Lay B s) : gR s B 6 7 = some (B + 48) := gR_ok L.kx (L.r 0 7 48 (by decide))
theorem Lay.gsh {B : Nat} {s : hS} (L : Lay B s) : gR s B 6 6 = some (B + 39) := gR_ok L.kx (L.r 0 6 39 (by decide))
theorem Lay.k48 {B : Nat} {s : hS} (L : Lay B s) : hK s (B + 48) = (13, 5) := L.k 48 13 5 rfl
theorem Lay.k39 {B : Nat} {s : hS} (L : Lay B s) : hK s (B + 39) = (12, 4) := L.k 39 12 4 rfl
theorem Lay.gm {B : Nat} {s : hS} (L : Lay B s) (f c n : Nat) (h1 : (66, f, c) ∈ layR) : gR s (B + 66) 7 f = some (B + c) := gR_ok L.km (L.r 66 f c h1)
theorem noS_in {s : hS} {j : Nat} (hj : j < 5) : f_X6_isNoSlot s (nI j) = some (0, s) := by
  unfold f_X6_isNoSlot
  exact ifn (nI_pos (by omega)) (ifp (nI_lt (a := j) (b := 5) hj (by decide)) rfl)
theorem noS_out {s : hS} {i : Int32} (hi : i < 0 ∨ nI 5 ≤ i) : f_X6_isNoSlot s i = some (1, s) := by
  unfold f_X6_isNoSlot f_X6_isNoSlot_b9
  by_cases h0 : i < 0
  · exact ifp h0 rfl
  · exact ifn h0 (ifn (Int32.not_lt.mpr (hi.resolve_left h0)) rfl)
theorem isS_in {s : hS} {j : Nat} (hj : j < 5) : f_X7_isSlot s (nI j) = some (1, s) := by
  unfold f_X7_isSlot
  exact bnd (in_yes s (n := 4) (by omega) (by decide) rfl rfl) (ifp (Or.inr rfl) rfl)
theorem isS_out {s : hS} {i : Int32} (hi : i < 0 ∨ nI 5 ≤ i) : f_X7_isSlot s i = some (0, s) := by
  unfold f_X7_isSlot
  refine bnd (in_no s ?_) (ifp (Or.inl rfl) rfl)
  by_cases h0 : i < 0
  · exact Or.inl h0
  · exact Or.inr (nIm1_lt (n := 5) (by decide) h0 (hi.resolve_left h0))
theorem noH_in {s : hS} {j : Nat} (hj : j < 4) : f_X6_isNoSheet s (nI j) = some (0, s) := by
  unfold f_X6_isNoSheet
  exact ifn (nI_pos (by omega)) (ifp (nI_lt (a := j) (b := 4) hj (by decide)) rfl)
theorem noH_out {s : hS} {i : Int32} (hi : i < 0 ∨ nI 4 ≤ i) : f_X6_isNoSheet s i = some (1, s) := by
  unfold f_X6_isNoSheet f_X6_isNoSheet_b9
  by_cases h0 : i < 0
  · exact ifp h0 rfl
  · exact ifn h0 (ifn (Int32.not_lt.mpr (hi.resolve_left h0)) rfl)
theorem isH_in {s : hS} {j : Nat} (hj : j < 4) : f_X7_isSheet s (nI j) = some (1, s) := by
  unfold f_X7_isSheet
  exact bnd (in_yes s (n := 3) (by omega) (by decide) rfl rfl) (ifp (Or.inr rfl) rfl)
theorem isH_out {s : hS} {i : Int32} (hi : i < 0 ∨ nI 4 ≤ i) : f_X7_isSheet s i = some (0, s) := by
  unfold f_X7_isSheet
  refine bnd (in_no s ?_) (ifp (Or.inl rfl) rfl)
  by_cases h0 : i < 0
  · exact Or.inl h0
  · exact Or.inr (nIm1_lt (n := 4) (by decide) h0 (hi.resolve_left h0))
theorem ix24 (a k : Nat) : nI 24 * nI a + nI k = nI (24 * a + k) := by rw [pk_mul, nI_add]
theorem rem_m1 (x : Int32) : x - x / (-1) * (-1) = 0 := by
  have h1 : (-1 : Int32).toInt = -1 := by decide
  apply Int32.toInt_inj.mp
  rw [Int32.toInt_sub, Int32.toInt_mul, Int32.toInt_div, h1, Int.bmod_mul_bmod, Int.sub_bmod_bmod, Int.tdiv_neg, Int.tdiv_one]
  have : x.toInt - -x.toInt * -1 = 0 := by omega
  rw [this]
  decide
theorem stp_rest (B : Nat) (a0 a1 : Int32) : StpC B (fun s => f_X6_rest s B a0 a1) (fun s => f_X7_rest s (B + 66) a0 a1) := by
  refine stp_same fun s nt τ h => ?_
  have L := h.1
  have k83 : hK s (B + 83) = (10, 5) := L.k 83 10 5 rfl
  have k84 : hK s (B + 84) = (10, 5) := L.k 84 10 5 rfl
  have g27 := L.gm 27 83 5 (by decide)
  have g28 := L.gm 28 84 5 (by decide)
  have bad : (a0 < 0 ∨ nI 5 ≤ a0) → ∃ v, f_X6_rest s B a0 a1 = some (v, s) ∧ f_X7_rest s (B + 66) a0 a1 = some (v, s) := by
    intro hb
    refine ⟨-1000000001, ?_, ?_⟩
    · unfold f_X6_rest
      exact bnd (noS_out hb) (ifn one_ne rfl)
    · unfold f_X7_rest
      exact bnd (isS_out hb) (ifp rfl rfl)
  rcases pk_ix a0 (n := 5) (by decide) with hb | hb | ⟨j, hj, rfl⟩
  · exact bad (Or.inl hb)
  · exact bad (Or.inr hb)
  obtain ⟨q, w1, w2, w3, w4, w5, w6⟩ := h.2.2.2.2.2.2.2.2.1 j hj
  have cgo : ∀ {r : Option (Int32 × hS)}, (if nI q = 0 then some ((-1000000011 : Int32), s) else (gI s (B + 49 + 3 * j) 2 0).bind fun x5 => if x5 = (3 : Int32) then (if a1 = 0 then some ((-1000000002 : Int32), s) else (gI s (B + 49 + 3 * j) 2 4).bind fun x6 => if a1 = 0 then none else some ((x6 - x6 / a1 * a1), s)) else some ((-1000000012 : Int32), s)) = r → f_X6_rest s B (nI j) a1 = r := by
    intro r hr
    unfold f_X6_rest
    refine bnd (noS_in hj) (ifp rfl (bnd L.gsl (bnd (aR_ok j L.k48 rfl hj (by decide) (L.sr hj)) (bnd (gI_ok (L.sk hj)) ?_))))
    rw [w2]
    exact hr
  have mgo : ∀ {r : Option (Int32 × hS)}, (if nI q = 0 then some ((-1000000011 : Int32), s) else (gR s (B + 66) 7 27).bind fun a4 => (aI s a4 10 (nI j)).bind fun x5 => if x5 = (3 : Int32) then (if a1 = 0 then some ((-1000000002 : Int32), s) else if a1 = (-1 : Int32) then some ((0 : Int32), s) else (gR s (B + 66) 7 28).bind fun a6 => (aI s a6 10 (nI j)).bind fun x7 => if a1 = 0 then none else some ((x7 - x7 / a1 * a1), s)) else some ((-1000000012 : Int32), s)) = r → f_X7_rest s (B + 66) (nI j) a1 = r := by
    intro r hr
    unfold f_X7_rest
    refine bnd (isS_in hj) (ifn one_ne (bnd g27 (bnd (aI_ok j k83 rfl hj (by decide)) ?_)))
    rw [w3]
    exact hr
  by_cases q0 : q = 0
  · subst q0
    exact ⟨-1000000011, cgo (ifp rfl rfl), mgo (ifp rfl rfl)⟩
  have nq0 : ¬ nI q = 0 := fun e => q0 ((nI_eq (a := q) (b := 0) (by omega) (by decide)).mp e)
  by_cases q3 : q = 3
  · subst q3
    by_cases z : a1 = 0
    · refine ⟨-1000000002, cgo (ifn nq0 (bnd (gI_ok (L.sk hj)) ?_)), mgo (ifn nq0 (bnd g27 (bnd (aI_ok j k83 rfl hj (by decide)) ?_)))⟩
      · rw [w2]; exact ifp rfl (ifp z rfl)
      · rw [w3]; exact ifp rfl (ifp z rfl)
    · have e := w6 rfl
      refine ⟨hI s (B + 84) j - hI s (B + 84) j / a1 * a1, cgo (ifn nq0 (bnd (gI_ok (L.sk hj)) ?_)), mgo (ifn nq0 (bnd g27 (bnd (aI_ok j k83 rfl hj (by decide)) ?_)))⟩
      · rw [w2]
        refine ifp rfl (ifn z (bnd (gI_ok (L.sk hj)) (ifn z ?_)))
        rw [e]
      · rw [w3]
        refine ifp rfl (ifn z ?_)
        by_cases z1 : a1 = -1
        · subst z1
          rw [if_pos rfl, rem_m1]
        · exact ifn z1 (bnd g28 (bnd (aI_ok j k84 rfl hj (by decide)) (ifn z rfl)))
  · have nq3 : ¬ nI q = 3 := fun e => q3 ((nI_eq (a := q) (b := 3) (by omega) (by decide)).mp e)
    refine ⟨-1000000012, cgo (ifn nq0 (bnd (gI_ok (L.sk hj)) ?_)), mgo (ifn nq0 (bnd g27 (bnd (aI_ok j k83 rfl hj (by decide)) ?_)))⟩
    · rw [w2]; exact ifn nq3 rfl
    · rw [w3]; exact ifn nq3 rfl
theorem noPl_in {s : hS} {a j n : Nat} (hk : hK s a = (1, 3)) (hn : hI s a 1 = nI n) (hj : j < n) (hn2 : n < 2 ^ 31) : f_X1_hasNoPlace s a (nI j) = some (0, s) := by
  unfold f_X1_hasNoPlace
  refine ifn (nI_pos (by omega)) (bnd (gI_ok hk) ?_)
  rw [hn]
  exact ifp (nI_lt hj hn2) rfl
theorem noPl_out {s : hS} {a n : Nat} {i : Int32} (hk : hK s a = (1, 3)) (hn : hI s a 1 = nI n) (hi : i < 0 ∨ nI n ≤ i) : f_X1_hasNoPlace s a i = some (1, s) := by
  unfold f_X1_hasNoPlace f_X1_hasNoPlace_b12
  by_cases h0 : i < 0
  · exact ifp h0 rfl
  · refine ifn h0 (bnd (gI_ok hk) ?_)
    rw [hn]
    exact ifn (Int32.not_lt.mpr (hi.resolve_left h0)) rfl
theorem inP_in (s : hS) {j n : Nat} (hj : j < n) (hn : n < 2 ^ 31) : f_X7_in s (nI j) 0 (nI n - 1) = some (1, s) := in_yes s (n := n - 1) (by omega) (by omega) rfl (pk_sub (b := 1) (by omega))
theorem inP_out (s : hS) {n : Nat} {i : Int32} (hn : n < 2 ^ 31) (hi : i < 0 ∨ nI n ≤ i) : f_X7_in s i 0 (nI n - 1) = some (0, s) := by
  refine in_no s ?_
  by_cases h0 : i < 0
  · exact Or.inl h0
  · exact Or.inr (nIm1_lt hn h0 (hi.resolve_left h0))
theorem stp_item (B : Nat) (a0 a1 : Int32) : StpC B (fun s => f_X6_item s B a0 a1) (fun s => f_X7_item s (B + 66) a0 a1) := by
  refine stp_same fun s nt τ h => ?_
  have L := h.1
  have k83 : hK s (B + 83) = (10, 5) := L.k 83 10 5 rfl
  have k84 : hK s (B + 84) = (10, 5) := L.k 84 10 5 rfl
  have k86 : hK s (B + 86) = (10, 120) := L.k 86 10 120 rfl
  have g27 := L.gm 27 83 5 (by decide)
  have g28 := L.gm 28 84 5 (by decide)
  have g30 := L.gm 30 86 120 (by decide)
  have bad : (a0 < 0 ∨ nI 5 ≤ a0) → ∃ v, f_X6_item s B a0 a1 = some (v, s) ∧ f_X7_item s (B + 66) a0 a1 = some (v, s) := by
    intro hb
    refine ⟨-1000000001, ?_, ?_⟩
    · unfold f_X6_item
      exact bnd (noS_out hb) (ifn one_ne rfl)
    · unfold f_X7_item
      exact bnd (isS_out hb) (ifp rfl rfl)
  rcases pk_ix a0 (n := 5) (by decide) with hb | hb | ⟨j, hj, rfl⟩
  · exact bad (Or.inl hb)
  · exact bad (Or.inr hb)
  obtain ⟨q, w1, w2, w3, w4, w5, w6⟩ := h.2.2.2.2.2.2.2.2.1 j hj
  by_cases q0 : q = 0
  · subst q0
    refine ⟨-1000000011, ?_, ?_⟩
    · show f_X6_item s B (nI j) a1 = _
      unfold f_X6_item
      refine bnd (noS_in hj) (ifp rfl (bnd L.gsl (bnd (aR_ok j L.k48 rfl hj (by decide) (L.sr hj)) (bnd (gI_ok (L.sk hj)) ?_))))
      rw [w2]; exact ifp rfl rfl
    · show f_X7_item s (B + 66) (nI j) a1 = _
      unfold f_X7_item
      refine bnd (isS_in hj) (ifn one_ne (bnd g27 (bnd (aI_ok j k83 rfl hj (by decide)) ?_)))
      rw [w3]; exact ifp rfl rfl
  have nq0 : ¬ nI q = 0 := fun e => q0 ((nI_eq (a := q) (b := 0) (by omega) (by decide)).mp e)
  by_cases q2 : q = 2
  · subst q2
    obtain ⟨⟨n, n1, n2, n3⟩, n4⟩ := w5 rfl
    have out : (a1 < 0 ∨ nI n ≤ a1) → ∃ v, f_X6_item s B (nI j) a1 = some (v, s) ∧ f_X7_item s (B + 66) (nI j) a1 = some (v, s) := by
      intro hb
      refine ⟨-1000000013, ?_, ?_⟩
      · unfold f_X6_item
        refine bnd (noS_in hj) (ifp rfl (bnd L.gsl (bnd (aR_ok j L.k48 rfl hj (by decide) (L.sr hj)) (bnd (gI_ok (L.sk hj)) ?_))))
        rw [w2]
        refine ifn nq0 (bnd (gI_ok (L.sk hj)) ?_)
        rw [w2]
        exact ifp rfl (bnd (gR_ok (L.sk hj) (L.sr1 hj)) (bnd ((cV_ok (L.sk1 hj)).trans (noPl_out (L.sk1 hj) n2 hb)) (ifn one_ne rfl)))
      · unfold f_X7_item
        refine bnd (isS_in hj) (ifn one_ne (bnd g27 (bnd (aI_ok j k83 rfl hj (by decide)) ?_)))
        rw [w3]
        refine ifn nq0 (bnd g27 (bnd (aI_ok j k83 rfl hj (by decide)) ?_))
        rw [w3]
        refine ifp rfl (bnd g28 (bnd (aI_ok j k84 rfl hj (by decide)) ?_))
        rw [n3]
        exact bnd (inP_out s (by omega) hb) (ifp rfl rfl)
    rcases pk_ix a1 (n := n) (by omega) with hb | hb | ⟨k, hk, rfl⟩
    · exact out (Or.inl hb)
    · exact out (Or.inr hb)
    · have e := n4 k (by omega)
      refine ⟨if hI s (B + 86) (24 * j + k) = -1000000005 then -1000000012 else hI s (B + 86) (24 * j + k), ?_, ?_⟩
      · show f_X6_item s B (nI j) (nI k) = _
        unfold f_X6_item
        refine bnd (noS_in hj) (ifp rfl (bnd L.gsl (bnd (aR_ok j L.k48 rfl hj (by decide) (L.sr hj)) (bnd (gI_ok (L.sk hj)) ?_))))
        rw [w2]
        refine ifn nq0 (bnd (gI_ok (L.sk hj)) ?_)
        rw [w2]
        refine ifp rfl (bnd (gR_ok (L.sk hj) (L.sr1 hj)) (bnd ((cV_ok (L.sk1 hj)).trans (noPl_in (L.sk1 hj) n2 hk (by omega))) (ifp rfl (bnd (gR_ok (L.sk hj) (L.sr1 hj)) (bnd (gR_ok (L.sk1 hj) (L.sr2 hj)) (bnd (aI_ok k (L.sk2 hj) rfl (by omega) (by decide)) ?_))))))
        rw [e]
        by_cases z : hI s (B + 86) (24 * j + k) = -1000000005
        · rw [if_pos z, if_pos z]
        · rw [if_neg z, if_neg z]
          refine bnd (gR_ok (L.sk hj) (L.sr1 hj)) (bnd (gR_ok (L.sk1 hj) (L.sr2 hj)) (bnd (aI_ok k (L.sk2 hj) rfl (by omega) (by decide)) ?_))
          rw [e]
      · show f_X7_item s (B + 66) (nI j) (nI k) = _
        unfold f_X7_item
        refine bnd (isS_in hj) (ifn one_ne (bnd g27 (bnd (aI_ok j k83 rfl hj (by decide)) ?_)))
        rw [w3]
        refine ifn nq0 (bnd g27 (bnd (aI_ok j k83 rfl hj (by decide)) ?_))
        rw [w3]
        refine ifp rfl (bnd g28 (bnd (aI_ok j k84 rfl hj (by decide)) ?_))
        rw [n3]
        refine bnd (inP_in s hk (by omega)) (ifn one_ne (bnd g30 (bnd (aI_ok (24 * j + k) k86 (ix24 j k) (by omega) (by decide)) ?_)))
        by_cases z : hI s (B + 86) (24 * j + k) = -1000000005
        · rw [if_pos z, if_pos z]
        · rw [if_neg z, if_neg z]
  · have nq2 : ¬ nI q = 2 := fun e => q2 ((nI_eq (a := q) (b := 2) (by omega) (by decide)).mp e)
    refine ⟨-1000000012, ?_, ?_⟩
    · show f_X6_item s B (nI j) a1 = _
      unfold f_X6_item
      refine bnd (noS_in hj) (ifp rfl (bnd L.gsl (bnd (aR_ok j L.k48 rfl hj (by decide) (L.sr hj)) (bnd (gI_ok (L.sk hj)) ?_))))
      rw [w2]
      refine ifn nq0 (bnd (gI_ok (L.sk hj)) ?_)
      rw [w2]
      exact ifn nq2 rfl
    · show f_X7_item s (B + 66) (nI j) a1 = _
      unfold f_X7_item
      refine bnd (isS_in hj) (ifn one_ne (bnd g27 (bnd (aI_ok j k83 rfl hj (by decide)) ?_)))
      rw [w3]
      refine ifn nq0 (bnd g27 (bnd (aI_ok j k83 rfl hj (by decide)) ?_))
      rw [w3]
      exact ifn nq2 rfl
