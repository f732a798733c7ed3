theorem rng_ne {x : Int32} {n : Nat} (hn : n < 2 ^ 31) (h : x < 0 ∨ nI n < x) (j : Nat) (hj : j ≤ n) : ¬ x = nI j := by
  rintro rfl
  rcases h with h | h
  · exact nI_pos (by omega) h
  · exact nI_nlt hj hn h
theorem i_m1 (x : Int32) : x + (-1) = x - 1 := (Int32.sub_eq_add_neg x 1).symm
/-- the last text of a key -/
def lst (τ : Tw) (key : Nat) : Nat → Option Nat
  | 0 => none
  | n + 1 => if (τ.2.2 n).1 = key then some n else lst τ key n
def ltI : Option Nat → Int32
  | none => -1
  | some n => nI n
theorem lst_lt {τ : Tw} {key t : Nat} : ∀ n, lst τ key n = some t → t < n ∧ (τ.2.2 t).1 = key
  | 0, h => by cases h
  | n + 1, h => by
    by_cases e : (τ.2.2 n).1 = key
    · have h2 : lst τ key (n + 1) = some n := if_pos e
      rw [h2] at h
      cases h
      exact ⟨by omega, e⟩
    · have h2 : lst τ key (n + 1) = lst τ key n := if_neg e
      rw [h2] at h
      have := lst_lt n h
      exact ⟨by omega, this.2⟩
theorem c_lst_go {B nt T : Nat} {s : hS} {τ : Tw} (h : TLy s T) (hC : TwC B s nt T τ) (hok : TwOk τ) {key : Nat} (hk : key < 3) : ∀ fuel n, n ≤ tX τ → n < fuel → jL f_X5_lastTextOf_b7 (fun _ _ _ _ => none) fuel T (nI key) (nI n - 1) s = some (ltI (lst τ key n), s)
  | 0, n, _, h2 => by omega
  | fuel + 1, 0, _, _ => by
    show f_X5_lastTextOf_b7 _ T (nI key) _ s = _
    unfold f_X5_lastTextOf_b7
    exact ifp (by decide) rfl
  | fuel + 1, n + 1, h1, h2 => by
    have b1 := hok.1.2.2.2.2.1
    have b2 := (hok.2.2.2.2.2 n (by omega)).1
    obtain ⟨j, hj, hr, hc⟩ := hC.2 n (by omega)
    have e : B + 89 + 3 * j + 1 = B + 90 + 3 * j := by omega
    have k1 := hc.1.2.1
    have k2 := hc.2.2.1.1
    rw [e] at k1 k2
    show f_X5_lastTextOf_b7 (jL f_X5_lastTextOf_b7 (fun _ _ _ _ => none) fuel) T (nI key) (nI (n + 1) - 1) s = _
    rw [nI_pred]
    unfold f_X5_lastTextOf_b7
    refine ifn (nI_pos (by omega)) (bnd h.g17 (bnd (h.al (by omega) hr) (bnd h.g17 (bnd (h.al (by omega) hr) (bnd (gI_ok k1) ?_)))))
    rw [k2]
    by_cases q : (τ.2.2 n).1 = key
    · have h3 : lst τ key (n + 1) = some n := if_pos q
      rw [h3]
      exact ifp (by rw [q]) rfl
    · have h3 : lst τ key (n + 1) = lst τ key n := if_neg q
      rw [h3]
      refine ifn (fun z => q ((nI_eq (by omega) (by omega)).mp z)) ?_
      rw [i_m1]
      exact c_lst_go h hC hok hk fuel n (by omega) (by omega)
theorem c_lst {B nt T : Nat} {s : hS} {τ : Tw} (h : TLy s T) (hC : TwC B s nt T τ) (hok : TwOk τ) {key : Nat} (hk : key < 3) : f_X5_lastTextOf s T (nI key) = some (ltI (lst τ key (tX τ)), s) := by
  have b1 := hok.1.2.2.2.2.1
  unfold f_X5_lastTextOf
  refine bnd (gI_ok h.1) ?_
  rw [hC.1.1.2.2.2.2.1]
  exact c_lst_go h hC hok hk jF (tX τ) (Nat.le_refl _) (by unfold jF; omega)
theorem m_cnt_go {B : Nat} {s : hS} {τ : Tw} (L : Lay B s) (hM : TwM (hI s (B + 67)) τ) (hok : TwOk τ) {key : Nat} (hk : key < 3) : ∀ fuel n, n ≤ tX τ → n < fuel → jL f_X7_counts_b10 (fun _ _ _ _ => none) fuel (B + 66) (nI key) (nI n - 1) s = some (ltI (lst τ key n), s)
  | 0, n, _, h2 => by omega
  | fuel + 1, 0, _, _ => by
    show f_X7_counts_b10 _ (B + 66) (nI key) _ s = _
    unfold f_X7_counts_b10
    exact ifp (by decide) rfl
  | fuel + 1, n + 1, h1, h2 => by
    have b1 := hok.1.2.2.2.2.1
    have b2 := (hok.2.2.2.2.2 n (by omega)).1
    have b3 := (hok.2.2.2.2.2 n (by omega)).2.1
    show f_X7_counts_b10 (jL f_X7_counts_b10 (fun _ _ _ _ => none) fuel) (B + 66) (nI key) (nI (n + 1) - 1) s = _
    rw [nI_pred]
    unfold f_X7_counts_b10
    refine ifn (nI_pos (by omega)) (bnd L.gn (bnd (L.an (104 + 2 * n) (ixm 104 2 n) (by omega)) (ifn (by decide) ?_)))
    rw [(hM.2.2.2.2.2 n (by omega)).1, show (1000 : Int32) = nI 1000 from rfl, pk_div (by omega) (by decide) (by decide), show (1000 * (τ.2.2 n).1 + (τ.2.2 n).2.2.1) / 1000 = (τ.2.2 n).1 by omega]
    by_cases q : (τ.2.2 n).1 = key
    · have h3 : lst τ key (n + 1) = some n := if_pos q
      rw [h3]
      exact ifp (by rw [q]) rfl
    · have h3 : lst τ key (n + 1) = lst τ key n := if_neg q
      rw [h3]
      refine ifn (fun z => q ((nI_eq (by omega) (by omega)).mp z)) ?_
      rw [i_m1]
      exact m_cnt_go L hM hok hk fuel n (by omega) (by omega)
theorem m_cnt {B : Nat} {s : hS} {τ : Tw} (L : Lay B s) (hM : TwM (hI s (B + 67)) τ) (hok : TwOk τ) {key : Nat} (hk : key < 3) : f_X7_counts s (B + 66) (nI key) = some (ltI (lst τ key (tX τ)), s) := by
  have b1 := hok.1.2.2.2.2.1
  unfold f_X7_counts
  refine bnd L.gn (bnd (L.an 7 rfl (by decide)) ?_)
  rw [hM.1.2.2.2.2.1]
  exact m_cnt_go L hM hok hk jF (tX τ) (Nat.le_refl _) (by unfold jF; omega)
theorem ltI_neg {o : Option Nat} {m : Nat} (hm : m < 2 ^ 31) (h : ∀ t, o = some t → t < m) : (o = none ∧ ltI o = -1) ∨ ∃ t, t < m ∧ o = some t ∧ ltI o = nI t ∧ ¬ ltI o = -1 ∧ 0 ≤ ltI o := by
  cases o with
  | none => exact Or.inl ⟨rfl, rfl⟩
  | some t =>
    have ht := h t rfl
    refine Or.inr ⟨t, ht, rfl, rfl, ?_, nI_pos' (by omega)⟩
    intro e
    have z : ¬ nI t < 0 := nI_pos (by omega)
    have e2 : nI t = -1 := e
    rw [e2] at z
    exact z (by decide)
theorem stp_why (B : Nat) (a0 : Int32) : StpC B (fun s => f_X6_why s B a0) (fun s => f_X7_why s (B + 66) a0) := by
  refine stp_same fun s nt τ h => ?_
  have L := h.1
  have hM := h.2.2.2.2.1
  have hok := h.2.2.1
  have T1 := L.tly 1 (Or.inl rfl)
  rcases rng a0 2 (by decide) with hb | ⟨q, hq, rfl⟩
  · refine ⟨-1000000001, ?_, ?_⟩
    · show f_X6_why s B a0 = _
      unfold f_X6_why
      exact bnd (out_no s hb) (ifn one_ne rfl)
    · show f_X7_why s (B + 66) a0 = _
      unfold f_X7_why
      exact bnd (in_no s hb) (ifp rfl rfl)
  · refine ⟨noneOr (ltI (lst τ q (tX τ))), ?_, ?_⟩
    · show f_X6_why s B (nI q) = _
      unfold f_X6_why
      exact bnd (out_in s (n := 2) hq (by decide) rfl rfl) (ifp rfl (bnd L.gt (bnd ((cV_ok T1.1).trans (c_lst T1 h.2.2.2.1 hok (by omega))) (bnd (c_orNone s _) rfl))))
    · show f_X7_why s (B + 66) (nI q) = _
      unfold f_X7_why
      refine bnd (in_yes s (n := 2) hq (by decide) rfl rfl) (ifn one_ne (bnd ((cV_ok L.km).trans (m_cnt L hM hok (by omega))) ?_))
      have hx := hok.1.2.2.2.2.1
      rcases ltI_neg (o := lst τ q (tX τ)) (m := 15) (by decide) (fun t ht => by have := (lst_lt _ ht).1; omega) with ⟨-, e⟩ | ⟨t, h1, h2, h3, h4, h5⟩
      · rw [e]
        exact ifn (show ¬ (0 : Int32) ≤ -1 by decide) rfl
      · unfold noneOr
        rw [if_neg h4]
        exact ifp h5 rfl
theorem stp_textTold (B : Nat) (a0 a1 : Int32) : StpC B (fun s => f_X6_textTold s B a0 a1) (fun s => f_X7_textTold s (B + 66) a0 a1) := by
  refine stp_same fun s nt τ h => ?_
  have L := h.1
  have hM := h.2.2.2.2.1
  have hN := h.2.2.2.1.1
  have hok := h.2.2.1
  have T1 := L.tly 1 (Or.inl rfl)
  have hx := hok.1.2.2.2.2.1
  have bad : (a0 < 0 ∨ nI (tX τ) ≤ a0) → ∃ v, f_X6_textTold s B a0 a1 = some (v, s) ∧ f_X7_textTold s (B + 66) a0 a1 = some (v, s) := by
    intro hb
    refine ⟨-1000000001, ?_, ?_⟩
    · unfold f_X6_textTold
      by_cases z : a0 < 0
      · exact ifp z rfl
      · refine ifn z (bnd L.gt (bnd (gI_ok L.kt) ?_))
        rw [hN.1.2.2.2.2.1]
        exact ifn (Int32.not_lt.mpr (hb.resolve_left z)) rfl
    · unfold f_X7_textTold
      refine bnd L.gn (bnd (L.an 7 rfl (by decide)) ?_)
      rw [hM.1.2.2.2.2.1]
      exact bnd (inP_out s (by omega) hb) (ifp rfl rfl)
  rcases pk_ix a0 (n := tX τ) (by omega) with hb | hb | ⟨t, ht, rfl⟩
  · exact bad (Or.inl hb)
  · exact bad (Or.inr hb)
  obtain ⟨j, hj, hr, hc⟩ := h.2.2.2.1.2 t ht
  have e : B + 89 + 3 * j + 1 = B + 90 + 3 * j := by omega
  have k1 := hc.1.2.1
  have k2 := hc.2.2.1.1
  have k3 := hc.2.2.1.2
  rw [e] at k1 k2 k3
  have b2 := (hok.2.2.2.2.2 t ht).1
  have b3 := (hok.2.2.2.2.2 t ht).2.1
  have m1 := hM.2.2.2.2.2 t ht
  have pre : ∀ {r : Option (Int32 × hS)}, (if a1 = (0 : Int32) then (gI s (B + 90 + 3 * j) 4 0).bind fun x7 => some (x7, s) else if a1 = (1 : Int32) then (gI s (B + 90 + 3 * j) 4 1).bind fun x9 => some (x9, s) else some ((-1000000001 : Int32), s)) = r → f_X6_textTold s B (nI t) a1 = r := by
    intro r hr2
    unfold f_X6_textTold
    refine ifn (nI_pos (by omega)) (bnd L.gt (bnd (gI_ok L.kt) ?_))
    rw [hN.1.2.2.2.2.1]
    exact ifp (nI_lt ht (by omega)) (bnd L.gt (bnd T1.g17 (bnd (T1.al (by omega) hr) hr2)))
  rcases rng a1 1 (by decide) with hb | ⟨q, hq, rfl⟩
  · refine ⟨-1000000001, pre (ifn (rng_ne (by decide) hb 0 (by decide)) (ifn (rng_ne (by decide) hb 1 (by decide)) rfl)), ?_⟩
    show f_X7_textTold s (B + 66) (nI t) a1 = _
    unfold f_X7_textTold
    refine bnd L.gn (bnd (L.an 7 rfl (by decide)) ?_)
    rw [hM.1.2.2.2.2.1]
    exact bnd (inP_in s ht (by omega)) (ifn one_ne (bnd (in_no s hb) (ifp rfl rfl)))
  · have hq2 : q = 0 ∨ q = 1 := by omega
    rcases hq2 with rfl | rfl
    · refine ⟨nI (τ.2.2 t).1, pre (ifp rfl (bnd (gI_ok k1) (by rw [k2]))), ?_⟩
      show f_X7_textTold s (B + 66) (nI t) (nI 0) = _
      unfold f_X7_textTold
      refine bnd L.gn (bnd (L.an 7 rfl (by decide)) ?_)
      rw [hM.1.2.2.2.2.1]
      refine bnd (inP_in s ht (by omega)) (ifn one_ne (bnd (in_yes s (n := 1) (j := 0) (by omega) (by decide) rfl rfl) (ifn one_ne (ifp rfl (bnd L.gn (bnd (L.an (104 + 2 * t) (ixm 104 2 t) (by omega)) (ifn (by decide) ?_)))))))
      rw [m1.1, show (1000 : Int32) = nI 1000 from rfl, pk_div (by omega) (by decide) (by decide), show (1000 * (τ.2.2 t).1 + (τ.2.2 t).2.2.1) / 1000 = (τ.2.2 t).1 by omega]
    · refine ⟨(τ.2.2 t).2.1, pre (ifn (by decide) (ifp rfl (bnd (gI_ok k1) (by rw [k3])))), ?_⟩
      show f_X7_textTold s (B + 66) (nI t) (nI 1) = _
      unfold f_X7_textTold
      refine bnd L.gn (bnd (L.an 7 rfl (by decide)) ?_)
      rw [hM.1.2.2.2.2.1]
      refine bnd (inP_in s ht (by omega)) (ifn one_ne (bnd (in_yes s (n := 1) (j := 1) (by omega) (by decide) rfl rfl) (ifn one_ne (ifn (by decide) (bnd L.gn (bnd (L.an (105 + 2 * t) (ixe 104 2 t 1 (by omega)) (by omega)) ?_))))))
      rw [m1.2.1]
theorem stp_richest (B : Nat) : StpC B (fun s => f_X6_richest s B) (fun s => f_X7_richest s (B + 66)) := by
  refine stp_same fun s nt τ h => ?_
  have L := h.1
  have T1 := L.tly 1 (Or.inl rfl)
  refine ⟨noneOr (rbI τ (tP τ)), ?_, m_rb L h.2.2.2.2.1 h.2.2.1⟩
  show f_X6_richest s B = _
  unfold f_X6_richest
  exact bnd L.gt (bnd ((cV_ok T1.1).trans (c_rb T1 h.2.2.2.1.1 h.2.2.1)) (bnd (c_orNone s _) rfl))
theorem stp_count (B : Nat) (a0 : Int32) : StpC B (fun s => f_X6_count s B a0) (fun s => f_X7_count s (B + 66) a0) := by
  refine stp_same fun s nt τ h => ?_
  have L := h.1
  have hM := h.2.2.2.2.1
  have hN := h.2.2.2.1.1
  have hok := h.2.2.1
  have T1 := L.tly 1 (Or.inl rfl)
  have k35 : hK s (B + 35) = (3, 2) := L.k 35 3 2 rfl
  have g4 : gR s B 6 4 = some (B + 35) := gR_ok L.kx (L.r 0 4 35 (by decide))
  obtain ⟨nw, w1, w2, w3, w4⟩ := h.2.2.2.2.2.2.2.2.2.1
  obtain ⟨nt2, v1, v2, v3, v4⟩ := h.2.2.2.2.2.2.1
  show ∃ v, f_X6_count s B a0 = some (v, s) ∧ f_X7_count s (B + 66) a0 = some (v, s)
  unfold f_X6_count f_X7_count
  rcases rng a0 10 (by decide) with hb | ⟨q, hq, rfl⟩
  · exact ⟨-1000000001, ifn (rng_ne (by decide) hb 0 (by decide)) (ifn (rng_ne (by decide) hb 1 (by decide)) (ifn (rng_ne (by decide) hb 2 (by decide)) (ifn (rng_ne (by decide) hb 3 (by decide)) (ifn (rng_ne (by decide) hb 4 (by decide)) (ifn (rng_ne (by decide) hb 5 (by decide)) (ifn (rng_ne (by decide) hb 6 (by decide)) (ifn (rng_ne (by decide) hb 7 (by decide)) (ifn (rng_ne (by decide) hb 8 (by decide)) (ifn (rng_ne (by decide) hb 9 (by decide)) (ifn (rng_ne (by decide) hb 10 (by decide)) (rfl))))))))))), ifn (rng_ne (by decide) hb 0 (by decide)) (ifn (rng_ne (by decide) hb 1 (by decide)) (ifn (rng_ne (by decide) hb 2 (by decide)) (ifn (rng_ne (by decide) hb 3 (by decide)) (ifn (rng_ne (by decide) hb 4 (by decide)) (ifn (rng_ne (by decide) hb 5 (by decide)) (ifn (rng_ne (by decide) hb 6 (by decide)) (ifn (rng_ne (by decide) hb 7 (by decide)) (ifn (rng_ne (by decide) hb 8 (by decide)) (ifn (rng_ne (by decide) hb 9 (by decide)) (ifn (rng_ne (by decide) hb 10 (by decide)) (rfl)))))))))))⟩
  · match q, hq with
    | 0, _ => exact ⟨nI (tF τ), ifp rfl (bnd L.gt (bnd (gI_ok L.kt) (by rw [hN.1.1]))), ifp rfl (bnd L.gn (bnd (L.an 1 rfl (by decide)) (by rw [hM.1.1])))⟩
    | 1, _ => exact ⟨nI (tP τ), ifn (by decide) (ifp rfl (bnd L.gt (bnd (gI_ok L.kt) (by rw [hN.1.2.1])))), ifn (by decide) (ifp rfl (bnd L.gn (bnd (L.an 2 rfl (by decide)) (by rw [hM.1.2.1]))))⟩
    | 2, _ => exact ⟨nI (tK τ), ifn (by decide) (ifn (by decide) (ifp rfl (bnd L.gt (bnd (gI_ok L.kt) (by rw [hN.1.2.2.2.1]))))), ifn (by decide) (ifn (by decide) (ifp rfl (bnd L.gn (bnd (L.an 3 rfl (by decide)) (by rw [hM.1.2.2.2.1])))))⟩
    | 3, _ => exact ⟨nI (tL τ), ifn (by decide) (ifn (by decide) (ifn (by decide) (ifp rfl (bnd L.gt (bnd (gI_ok L.kt) (by rw [hN.1.2.2.1])))))), ifn (by decide) (ifn (by decide) (ifn (by decide) (ifp rfl (bnd L.gn (bnd (L.an 4 rfl (by decide)) (by rw [hM.1.2.2.1]))))))⟩
    | 4, _ => exact ⟨nI (tH τ), ifn (by decide) (ifn (by decide) (ifn (by decide) (ifn (by decide) (ifp rfl (bnd L.gt (bnd (gI_ok L.kt) (by rw [hN.1.2.2.2.2.2.1]))))))), ifn (by decide) (ifn (by decide) (ifn (by decide) (ifn (by decide) (ifp rfl (bnd L.gn (bnd (L.an 5 rfl (by decide)) (by rw [hM.1.2.2.2.2.2.1])))))))⟩
    | 5, _ => exact ⟨τ.2.1.1, ifn (by decide) (ifn (by decide) (ifn (by decide) (ifn (by decide) (ifn (by decide) (ifp rfl (bnd L.gt (bnd (gI_ok L.kt) (by rw [hN.1.2.2.2.2.2.2.1])))))))), ifn (by decide) (ifn (by decide) (ifn (by decide) (ifn (by decide) (ifn (by decide) (ifp rfl (bnd L.gn (bnd (L.an 6 rfl (by decide)) (by rw [hM.1.2.2.2.2.2.2.1]))))))))⟩
    | 6, _ => exact ⟨nI (kto τ (tP τ)), ifn (by decide) (ifn (by decide) (ifn (by decide) (ifn (by decide) (ifn (by decide) (ifn (by decide) (ifp rfl (bnd L.gt (bnd ((cV_ok T1.1).trans (c_kto T1 hN hok)) rfl)))))))), ifn (by decide) (ifn (by decide) (ifn (by decide) (ifn (by decide) (ifn (by decide) (ifn (by decide) (ifp rfl (bnd ((cV_ok L.km).trans (m_kto L hM hok)) rfl)))))))⟩
    | 7, _ => exact ⟨nI (tX τ), ifn (by decide) (ifn (by decide) (ifn (by decide) (ifn (by decide) (ifn (by decide) (ifn (by decide) (ifn (by decide) (ifp rfl (bnd L.gt (bnd (gI_ok L.kt) (by rw [hN.1.2.2.2.2.1])))))))))), ifn (by decide) (ifn (by decide) (ifn (by decide) (ifn (by decide) (ifn (by decide) (ifn (by decide) (ifn (by decide) (ifp rfl (bnd L.gn (bnd (L.an 7 rfl (by decide)) (by rw [hM.1.2.2.2.2.1]))))))))))⟩
    | 8, _ => exact ⟨nI nw, ifn (by decide) (ifn (by decide) (ifn (by decide) (ifn (by decide) (ifn (by decide) (ifn (by decide) (ifn (by decide) (ifn (by decide) (ifp rfl (bnd (gI_ok L.kx) (by rw [w2])))))))))), ifn (by decide) (ifn (by decide) (ifn (by decide) (ifn (by decide) (ifn (by decide) (ifn (by decide) (ifn (by decide) (ifn (by decide) (ifp rfl (bnd (gI_ok L.km) (by rw [w3]))))))))))⟩
    | 9, _ => exact ⟨nI nt2, ifn (by decide) (ifn (by decide) (ifn (by decide) (ifn (by decide) (ifn (by decide) (ifn (by decide) (ifn (by decide) (ifn (by decide) (ifn (by decide) (ifp rfl (bnd g4 (bnd (gI_ok k35) (by rw [v2])))))))))))), ifn (by decide) (ifn (by decide) (ifn (by decide) (ifn (by decide) (ifn (by decide) (ifn (by decide) (ifn (by decide) (ifn (by decide) (ifn (by decide) (ifp rfl (bnd (gI_ok L.km) (by rw [v3])))))))))))⟩
    | 10, _ => exact ⟨τ.2.1.2, ifn (by decide) (ifn (by decide) (ifn (by decide) (ifn (by decide) (ifn (by decide) (ifn (by decide) (ifn (by decide) (ifn (by decide) (ifn (by decide) (ifn (by decide) (ifp rfl (bnd L.gt (bnd (gI_ok L.kt) (by rw [hN.1.2.2.2.2.2.2.2]))))))))))))), ifn (by decide) (ifn (by decide) (ifn (by decide) (ifn (by decide) (ifn (by decide) (ifn (by decide) (ifn (by decide) (ifn (by decide) (ifn (by decide) (ifn (by decide) (ifp rfl (bnd L.gn (bnd (L.an 0 rfl (by decide)) (by rw [hM.1.2.2.2.2.2.2.2])))))))))))))⟩
    | q + 11, hq => omega
theorem stp_personTold (B : Nat) (a0 a1 : Int32) : StpC B (fun s => f_X6_personTold s B a0 a1) (fun s => f_X7_personTold s (B + 66) a0 a1) := by
  refine stp_same fun s nt τ h => ?_
  have L := h.1
  have hM := h.2.2.2.2.1
  have hN := h.2.2.2.1.1
  have hok := h.2.2.1
  have T1 := L.tly 1 (Or.inl rfl)
  have b8 := hok.1.2.1
  show ∃ v, f_X6_personTold s B a0 a1 = some (v, s) ∧ f_X7_personTold s (B + 66) a0 a1 = some (v, s)
  have bad : (a0 < 0 ∨ nI (tP τ) ≤ a0) → ∃ v, f_X6_personTold s B a0 a1 = some (v, s) ∧ f_X7_personTold s (B + 66) a0 a1 = some (v, s) := by
    intro hb
    refine ⟨-1000000001, ?_, ?_⟩
    · unfold f_X6_personTold
      exact bnd ((cV_ok L.kx).trans (noP_out L hN hb)) (ifn one_ne rfl)
    · unfold f_X7_personTold
      exact bnd ((cV_ok L.km).trans (isP_out L hM hok hb)) (ifp rfl rfl)
  rcases pk_ix a0 (n := tP τ) (by omega) with hb | hb | ⟨p, hp, rfl⟩
  · exact bad (Or.inl hb)
  · exact bad (Or.inr hb)
  have p8 : p < 8 := by omega
  have cc := (cV_ok L.kx).trans (noP_in L hN hok hp)
  have mm := (cV_ok L.km).trans (isP_in L hM hok hp)
  unfold f_X6_personTold f_X7_personTold
  rcases rng a1 4 (by decide) with hb | ⟨q, hq, rfl⟩
  · exact ⟨-1000000001, bnd cc (ifp rfl (ifn (rng_ne (by decide) hb 0 (by decide)) (ifn (rng_ne (by decide) hb 1 (by decide)) (ifn (rng_ne (by decide) hb 2 (by decide)) (ifn (rng_ne (by decide) hb 3 (by decide)) (ifn (rng_ne (by decide) hb 4 (by decide)) (rfl))))))), bnd mm (ifn one_ne (ifn (rng_ne (by decide) hb 0 (by decide)) (ifn (rng_ne (by decide) hb 1 (by decide)) (ifn (rng_ne (by decide) hb 2 (by decide)) (ifn (rng_ne (by decide) hb 3 (by decide)) (ifn (rng_ne (by decide) hb 4 (by decide)) (rfl)))))))⟩
  · match q, hq with
    | 0, _ => exact ⟨nI (tR τ 3 p), bnd cc (ifp rfl (ifp rfl (bnd L.gt (bnd T1.g10 (bnd (T1.a3 p8) (by rw [(hN.2.2.1 p p8).1])))))), bnd mm (ifn one_ne (ifp rfl (bnd ((cV_ok L.km).trans (m_kt L hM p8)) rfl)))⟩
    | 1, _ => exact ⟨nI (tR τ 4 p), bnd cc (ifp rfl (ifn (by decide) (ifp rfl (bnd L.gt (bnd T1.g11 (bnd (T1.a4 p8) (by rw [(hN.2.2.1 p p8).2]))))))), bnd mm (ifn one_ne (ifn (by decide) (ifp rfl (bnd ((cV_ok L.km).trans (m_nb L hM p8)) rfl))))⟩
    | 2, _ => exact ⟨nI (tR τ 4 p) &&& (nI (tR τ 3 p) ^^^ (-1)), bnd cc (ifp rfl (ifn (by decide) (ifn (by decide) (ifp rfl (bnd L.gt (bnd T1.g11 (bnd (T1.a4 p8) (bnd L.gt (bnd T1.g10 (bnd (T1.a3 p8) (by rw [(hN.2.2.1 p p8).1, (hN.2.2.1 p p8).2]))))))))))), bnd mm (ifn one_ne (ifn (by decide) (ifn (by decide) (ifp rfl (bnd ((cV_ok L.km).trans (m_nb L hM p8)) (bnd ((cV_ok L.km).trans (m_kt L hM p8)) rfl))))))⟩
    | 3, _ => exact ⟨nI (ct (nwP τ p) (tF τ)), bnd cc (ifp rfl (ifn (by decide) (ifn (by decide) (ifn (by decide) (ifp rfl (bnd L.gt (bnd ((cV_ok T1.1).trans (c_nws T1 hN hok hp)) rfl))))))), bnd mm (ifn one_ne (ifn (by decide) (ifn (by decide) (ifn (by decide) (ifp rfl (bnd ((cV_ok L.km).trans (m_nws L hM hok hp)) rfl))))))⟩
    | 4, _ => exact ⟨nI (rch τ p (tF τ)), bnd cc (ifp rfl (ifn (by decide) (ifn (by decide) (ifn (by decide) (ifn (by decide) (ifp rfl (bnd L.gt (bnd ((cV_ok T1.1).trans (c_rch T1 hN hok hp)) rfl)))))))), bnd mm (ifn one_ne (ifn (by decide) (ifn (by decide) (ifn (by decide) (ifn (by decide) (ifp rfl (bnd ((cV_ok L.km).trans (m_rch L hM hok hp)) rfl)))))))⟩
    | q + 5, hq => omega
theorem bI_if (b : Bool) (s : hS) : (if bI b = 0 then some ((0 : Int32), s) else some ((1 : Int32), s)) = some (bI b, s) := by
  cases b
  · exact ifp rfl rfl
  · exact ifn one_ne rfl
theorem stp_factTold (B : Nat) (a0 a1 : Int32) : StpC B (fun s => f_X6_factTold s B a0 a1) (fun s => f_X7_factTold s (B + 66) a0 a1) := by
  refine stp_same fun s nt τ h => ?_
  have L := h.1
  have hM := h.2.2.2.2.1
  have hN := h.2.2.2.1.1
  have hok := h.2.2.1
  have T1 := L.tly 1 (Or.inl rfl)
  have b16 := hok.1.1
  show ∃ v, f_X6_factTold s B a0 a1 = some (v, s) ∧ f_X7_factTold s (B + 66) a0 a1 = some (v, s)
  have bad : (a0 < 0 ∨ nI (tF τ) ≤ a0) → ∃ v, f_X6_factTold s B a0 a1 = some (v, s) ∧ f_X7_factTold s (B + 66) a0 a1 = some (v, s) := by
    intro hb
    refine ⟨-1000000001, ?_, ?_⟩
    · unfold f_X6_factTold
      exact bnd ((cV_ok L.kx).trans (noF_out L hN hb)) (ifn one_ne rfl)
    · unfold f_X7_factTold
      exact bnd ((cV_ok L.km).trans (isF_out L hM hok hb)) (ifp rfl rfl)
  rcases pk_ix a0 (n := tF τ) (by omega) with hb | hb | ⟨f, hf, rfl⟩
  · exact bad (Or.inl hb)
  · exact bad (Or.inr hb)
  have f16 : f < 16 := by omega
  have cc := (cV_ok L.kx).trans (noF_in L hN hok hf)
  have mm := (cV_ok L.km).trans (isF_in L hM hok hf)
  unfold f_X6_factTold f_X7_factTold
  rcases rng a1 3 (by decide) with hb | ⟨q, hq, rfl⟩
  · exact ⟨-1000000001, bnd cc (ifp rfl (ifn (rng_ne (by decide) hb 0 (by decide)) (ifn (rng_ne (by decide) hb 1 (by decide)) (ifn (rng_ne (by decide) hb 2 (by decide)) (ifn (rng_ne (by decide) hb 3 (by decide)) rfl))))), bnd mm (ifn one_ne (bnd (in_no s hb) (ifp rfl rfl)))⟩
  · match q, hq with
    | 0, _ => exact ⟨nI (tR τ 1 f), bnd cc (ifp rfl (ifp rfl (bnd L.gt (bnd T1.g8 (bnd (T1.a1 f16) (by rw [(hN.2.1 f f16).1])))))), bnd mm (ifn one_ne (bnd (in_yes s (n := 3) (j := 0) (by omega) (by decide) rfl rfl) (ifn one_ne (ifn (by decide) (bnd L.gn (bnd (L.an (8 + 2 * f) (ixe 8 2 f 0 (by omega)) (by omega)) (by rw [(hM.2.1 f f16).1])))))))⟩
    | 1, _ => exact ⟨nI (tR τ 2 f), bnd cc (ifp rfl (ifn (by decide) (ifp rfl (bnd L.gt (bnd T1.g9 (bnd (T1.a2 f16) (by rw [(hN.2.1 f f16).2]))))))), bnd mm (ifn one_ne (bnd (in_yes s (n := 3) (j := 1) (by omega) (by decide) rfl rfl) (ifn one_ne (ifn (by decide) (bnd L.gn (bnd (L.an (9 + 2 * f) (ixe 8 2 f 1 (by omega)) (by omega)) (by rw [(hM.2.1 f f16).2])))))))⟩
    | 2, _ => exact ⟨bI (pfr τ f), bnd cc (ifp rfl (ifn (by decide) (ifn (by decide) (ifp rfl (bnd L.gt (bnd ((cV_ok T1.1).trans (c_fr1 T1 hN hok hf)) (bI_if _ s))))))), bnd mm (ifn one_ne (bnd (in_yes s (n := 3) (j := 2) (by omega) (by decide) rfl rfl) (ifn one_ne (ifp (by decide) (ifp rfl (bnd ((cV_ok L.km).trans (m_fr1 L hM hok hf)) (bI_if _ s)))))))⟩
    | 3, _ => exact ⟨nI (kws τ f), bnd cc (ifp rfl (ifn (by decide) (ifn (by decide) (ifn (by decide) (ifp rfl (bnd L.gt (bnd ((cV_ok T1.1).trans (c_kws T1 hN hok (by omega))) rfl))))))), bnd mm (ifn one_ne (bnd (in_yes s (n := 3) (j := 3) (by omega) (by decide) rfl rfl) (ifn one_ne (ifp (by decide) (ifn (by decide) (bnd ((cV_ok L.km).trans (m_kws L hM hok (by omega))) rfl))))))⟩
    | q + 4, hq => omega
