def cfo (B : Nat) (s : hS) (ws : List (Nat × Nat × Nat)) : hS := ws.foldl (fun t e => uI t (B + 1 + ci2 e.1) e.2.1 (nI e.2.2)) s
def mfo (B : Nat) (s : hS) (ws : List (Nat × Nat × Nat)) : hS := ws.foldl (fun t e => uI t (B + 67) (mi e.1 e.2.1) (nI e.2.2)) s
def tfo (τ : Tw) (ws : List (Nat × Nat × Nat)) : Tw := ws.foldl (fun t e => upT t e.1 e.2.1 e.2.2) τ
theorem wok_free {r k : Nat} (hr : wok r k) : 1 + ci2 r ∈ freeL ∧ ci2 r < 10 := by
  unfold wok at hr
  have h8 : ∀ r, r < 11 → (r = 5 ∨ r = 6 ∨ r = 7) ∨ (1 + ci2 r ∈ freeL ∧ ci2 r < 10) := by decide
  exact (h8 r (by omega)).resolve_left (by omega)
theorem cfo_N {B : Nat} : ∀ (ws : List (Nat × Nat × Nat)) (s : hS) (τ : Tw), TwN s (B + 1) τ → (∀ e ∈ ws, wok e.1 e.2.1) → TwN (cfo B s ws) (B + 1) (tfo τ ws)
  | [], _, _, h, _ => h
  | e :: ws, s, τ, h, hw => cfo_N ws _ _ (h.w e.1 e.2.1 e.2.2 (hw e List.mem_cons_self)) (fun f hf => hw f (List.mem_cons_of_mem _ hf))
theorem cfo_S {B : Nat} : ∀ (ws : List (Nat × Nat × Nat)) (s : hS), (∀ e ∈ ws, wok e.1 e.2.1) → Sx (FrP B) s (cfo B s ws) ∧ ∀ k, hI (cfo B s ws) (B + 67) k = hI s (B + 67) k
  | [], s, _ => ⟨Sx.rf _ s, fun _ => rfl⟩
  | e :: ws, s, hw => by
    have h1 := wok_free (hw e List.mem_cons_self)
    have h2 := cfo_S (B := B) ws (uI s (B + 1 + ci2 e.1) e.2.1 (nI e.2.2)) (fun f hf => hw f (List.mem_cons_of_mem _ hf))
    refine ⟨(Sx.u s _ e.2.1 _ (by rw [Nat.add_assoc]; exact FrP.i h1.1)).tr h2.1, fun k => (h2.2 k).trans (uI_ne (by omega))⟩
theorem mfo_M {B : Nat} : ∀ (ws : List (Nat × Nat × Nat)) (s : hS) (τ : Tw), TwM (hI s (B + 67)) τ → tL τ ≤ 8 → (∀ e ∈ ws, wok e.1 e.2.1) → TwM (hI (mfo B s ws) (B + 67)) (tfo τ ws)
  | [], _, _, h, _, _ => h
  | e :: ws, s, τ, h, hl, hw => by
    have hr := hw e List.mem_cons_self
    refine mfo_M ws (uI s (B + 67) (mi e.1 e.2.1) (nI e.2.2)) (upT τ e.1 e.2.1 e.2.2) (h.w hl e.1 e.2.1 e.2.2 hr (fun i => ?_)) ?_ (fun f hf => hw f (List.mem_cons_of_mem _ hf))
    · by_cases hi : i = mi e.1 e.2.1
      · rw [hi, if_pos rfl, uI_eq]
      · rw [if_neg hi, uI_ne (by omega)]
    · show (if 0 = e.1 ∧ 2 = e.2.1 then e.2.2 else τ.1 0 2) ≤ 8
      rw [if_neg (by unfold wok at hr; omega)]
      exact hl
theorem mfo_S {B : Nat} : ∀ (ws : List (Nat × Nat × Nat)) (s : hS), Sx (FrP B) s (mfo B s ws) ∧ ∀ r, r < 10 → ∀ k, hI (mfo B s ws) (B + 1 + r) k = hI s (B + 1 + r) k
  | [], s => ⟨Sx.rf _ s, fun _ _ _ => rfl⟩
  | e :: ws, s => by
    have h2 := mfo_S (B := B) ws (uI s (B + 67) (mi e.1 e.2.1) (nI e.2.2))
    exact ⟨(Sx.u s _ _ _ (FrP.i (by decide))).tr h2.1, fun r hr k => (h2.2 r hr k).trans (uI_ne (by omega))⟩
theorem tfo_X : ∀ (ws : List (Nat × Nat × Nat)) (τ : Tw), (∀ e ∈ ws, wok e.1 e.2.1) → tX (tfo τ ws) = tX τ ∧ (tfo τ ws).2 = τ.2
  | [], _, _ => ⟨rfl, rfl⟩
  | e :: ws, τ, hw => by
    have hr := hw e List.mem_cons_self
    have h2 := tfo_X ws (upT τ e.1 e.2.1 e.2.2) (fun f hf => hw f (List.mem_cons_of_mem _ hf))
    refine ⟨h2.1.trans ?_, h2.2⟩
    show (if 0 = e.1 ∧ 4 = e.2.1 then e.2.2 else τ.1 0 4) = τ.1 0 4
    rw [if_neg (by unfold wok at hr; omega)]
/-- numbers of the town are put, on both sides -/
theorem InvT.puts {B nt : Nat} {s : hS} {τ : Tw} (h : InvT B s nt τ) (ws : List (Nat × Nat × Nat)) (hw : ∀ e ∈ ws, wok e.1 e.2.1) (hok : TwOk (tfo τ ws)) : InvT B (mfo B (cfo B s ws) ws) nt (tfo τ ws) := by
  have a1 := cfo_S (B := B) ws s hw
  have a2 := mfo_S (B := B) ws (cfo B s ws)
  refine h.town (a1.1.tr a2.1) (tfo_X ws τ hw).1 (by rw [(tfo_X ws τ hw).2]) hok ?_ ?_
  · exact TwN.keep (B := B) (cfo_N ws s τ h.2.2.2.1.1 hw) (fun r hr k => a2.2 r hr k)
  · refine mfo_M ws (cfo B s ws) τ ?_ h.2.2.1.1.2.2.1 hw
    rw [show hI (cfo B s ws) (B + 67) = hI s (B + 67) from funext a1.2]
    exact h.2.2.2.2.1
theorem rlN_0 (ρ : Nat → Nat → Nat) : ∀ n, rlN ρ n 0 = 0
  | 0 => rfl
  | n + 1 => by
    show rl1 ρ n (rlN ρ n 0) = 0
    rw [rlN_0 ρ n]
    simp [rl1]
theorem rlP_tf {τ : Tw} {r k w : Nat} (h : r ≠ 5 ∧ r ≠ 6 ∧ r ≠ 7 ∧ ¬ (r = 0 ∧ k = 2)) (set : Nat) : rlP (upT τ r k w).1 set = rlP τ.1 set := by
  unfold rlP
  rw [up_ne (by omega), rlN_congr (fun q i hq => up_ne (by omega)) set]
theorem stp_fact (B : Nat) (a0 : Int32) : StpC B (fun s => f_X6_fact s B a0) (fun s => f_X7_fact s (B + 66) a0) := by
  rcases rng a0 99 (by decide) with hb | ⟨w, hw, rfl⟩
  · refine stp_same fun s nt τ h => ⟨-1000000001, ?_, ?_⟩
    · show f_X6_fact s B a0 = _
      unfold f_X6_fact
      exact bnd (out_no s hb) (ifn one_ne rfl)
    · show f_X7_fact s (B + 66) a0 = _
      unfold f_X7_fact
      exact bnd (in_no s hb) (ifp rfl rfl)
  refine stp_set fun s nt τ h => ?_
  have L := h.1
  have hN := h.2.2.2.1.1
  have hM := h.2.2.2.2.1
  have hok := h.2.2.1
  have h16 := hok.1.1
  have cF := hN.1.1
  have mF := hM.1.1
  generalize hF : tF τ = F at cF mF h16
  by_cases hf : F = 16
  · subst hf
    refine ⟨-1000000003, s, s, ?_, ?_, L, h.inv, rfl, rfl⟩
    · show f_X6_fact s B (nI w) = _
      unfold f_X6_fact
      refine bnd (out_in s (n := 99) hw (by decide) rfl rfl) (ifp rfl (bnd L.gt (bnd (gI_ok L.kt) ?_)))
      rw [cF]
      exact ifn (by decide) rfl
    · show f_X7_fact s (B + 66) (nI w) = _
      unfold f_X7_fact
      refine bnd (in_yes s (n := 99) hw (by decide) rfl rfl) (ifn one_ne (bnd L.gn (bnd (L.an 1 rfl (by decide)) ?_)))
      rw [mF]
      exact ifp rfl rfl
  · have hf2 : F < 16 := by omega
    refine ⟨nI F, uI (uI (uI s (B + 2) F (nI w)) (B + 3) F (nI 999)) (B + 1) 0 (nI (F + 1)), uI (uI (uI (uI (uI (uI s (B + 2) F (nI w)) (B + 3) F (nI 999)) (B + 1) 0 (nI (F + 1))) (B + 67) (8 + 2 * F) (nI w)) (B + 67) (9 + 2 * F) (nI 999)) (B + 67) 1 (nI (F + 1)), ?_, ?_, ((L.u _ _ _).u _ _ _).u _ _ _, ?_, rfl, rfl⟩
    · show f_X6_fact s B (nI w) = _
      unfold f_X6_fact
      refine bnd (out_in s (n := 99) hw (by decide) rfl rfl) (ifp rfl (bnd L.gt (bnd (gI_ok L.kt) ?_)))
      rw [cF]
      refine ifp (nI_lt (a := F) (b := 16) hf2 (by decide)) (bnd L.gt (bnd (x := (nI F, _)) ((cV_ok L.kt).trans ?_) rfl))
      show f_X5_addFact s (B + 1) (nI w) = some (nI F, _)
      unfold f_X5_addFact
      refine bnd (gI_ok L.kt) ?_
      rw [cF]
      refine ifn (nI_ge hf2 (by decide)) (bnd L.gw (bnd (sI_ok F L.k2 rfl hf2 (by decide)) (bnd (L.u _ _ _).gl (bnd (sI_ok F (L.u _ _ _).k3 rfl hf2 (by decide)) (bnd (gI_ok ((L.u _ _ _).u _ _ _).kt) ?_)))))
      rw [uI_ne (by omega), uI_ne (by omega), cF]
      exact bnd (pI_ok ((L.u _ _ _).u _ _ _).kt) (by rw [nI_1]; rfl)
    · have L3 : Lay B (uI (uI (uI s (B + 2) F (nI w)) (B + 3) F (nI 999)) (B + 1) 0 (nI (F + 1))) := ((L.u _ _ _).u _ _ _).u _ _ _
      have e3 : ∀ k, hI (uI (uI (uI s (B + 2) F (nI w)) (B + 3) F (nI 999)) (B + 1) 0 (nI (F + 1))) (B + 67) k = hI s (B + 67) k := fun k => by rw [uI_ne (by omega), uI_ne (by omega), uI_ne (by omega)]
      show f_X7_fact (uI (uI (uI s (B + 2) F (nI w)) (B + 3) F (nI 999)) (B + 1) 0 (nI (F + 1))) (B + 66) (nI w) = _
      generalize uI (uI (uI s (B + 2) F (nI w)) (B + 3) F (nI 999)) (B + 1) 0 (nI (F + 1)) = s1 at L3 e3
      have f1 : hI s1 (B + 67) 1 = nI F := (e3 1).trans mF
      unfold f_X7_fact
      refine bnd (in_yes _ (n := 99) hw (by decide) rfl rfl) (ifn one_ne (bnd L3.gn (bnd (L3.an 1 rfl (by decide)) ?_)))
      rw [f1]
      refine ifn (fun e => hf ((nI_eq (by omega) (by decide)).mp e)) (bnd L3.gn (bnd L3.gn (bnd (L3.an 1 rfl (by decide)) ?_)))
      rw [f1]
      refine bnd (L3.sn (8 + 2 * F) (ixm 8 2 F) (by omega)) (bnd (L3.u _ _ _).gn (bnd (L3.u _ _ _).gn (bnd ((L3.u _ _ _).an 1 rfl (by decide)) ?_)))
      rw [uI_ne (by omega), f1]
      refine bnd ((L3.u _ _ _).sn (9 + 2 * F) ((ixn 8 2 F 1).trans (by rw [show 8 + 2 * F + 1 = 9 + 2 * F by omega])) (by omega)) (bnd ((L3.u _ _ _).u _ _ _).gn (bnd (((L3.u _ _ _).u _ _ _).an 1 rfl (by decide)) ?_))
      rw [uI_ne (by omega), uI_ne (by omega), f1]
      refine bnd (((L3.u _ _ _).u _ _ _).sn 1 rfl (by decide)) (bnd (((L3.u _ _ _).u _ _ _).u _ _ _).gn (bnd ((((L3.u _ _ _).u _ _ _).u _ _ _).an 1 rfl (by decide)) ?_))
      rw [uI_eq, nI_1, nI_pred]
      rfl
    · refine (h.puts [(1, F, w), (2, F, 999), (0, 0, F + 1)] ?_ ?_).inv
      · intro e he
        simp only [List.mem_cons, List.not_mem_nil, or_false] at he
        unfold wok
        rcases he with rfl | rfl | rfl
        · exact Or.inr (Or.inl ⟨Or.inl rfl, hf2⟩)
        · exact Or.inr (Or.inl ⟨Or.inr rfl, hf2⟩)
        · exact Or.inl ⟨rfl, by show 0 < 6; omega, by show 0 ≠ 2; omega, by show 0 ≠ 4; omega⟩
      · obtain ⟨q, w1, w2, w3, w4, w5⟩ := (hok.r1 F w hw).r2 F 999 (by omega)
        show TwOk (upT (upT (upT τ 1 F w) 2 F 999) 0 0 (F + 1))
        have q1 : tF (upT (upT τ 1 F w) 2 F 999) = F := hF
        rw [q1] at q w1 w2 w3
        refine ⟨⟨by show F + 1 ≤ 16; omega, q.2⟩, fun i hi => ?_, fun p hp => ?_, fun r hr => ?_, w4, w5⟩
        · have hi2 : i < F + 1 := hi
          by_cases hiF : i = F
          · subst hiF
            refine ⟨?_, ?_⟩
            · show (upT (upT (upT τ 1 i w) 2 i 999) 0 0 (i + 1)).1 1 i ≤ 99
              rw [up_ne (by omega), up_ne (by omega), up_eq]; exact hw
            · show (upT (upT (upT τ 1 i w) 2 i 999) 0 0 (i + 1)).1 2 i ≤ 999
              rw [up_ne (by omega), up_eq]; exact Nat.le_refl 999
          · exact w1 i (by omega)
        · obtain ⟨g1, g2, g3⟩ := w2 p hp
          refine ⟨Nat.lt_of_lt_of_le g1 (Nat.pow_le_pow_right (by omega) (by show F ≤ F + 1; omega)), Nat.lt_of_lt_of_le g2 (Nat.pow_le_pow_right (by omega) (by show F ≤ F + 1; omega)), ?_⟩
          rw [rlP_tf (by omega)]
          exact g3
        · obtain ⟨g1, g2, g3⟩ := w3 r hr
          exact ⟨Nat.lt_succ_of_lt g1, Nat.lt_succ_of_lt g2, Nat.lt_succ_of_lt g3⟩
