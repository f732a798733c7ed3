section HS
variable {B : Nat} {V : Nat → Nat} {n : Nat}
theorem m_sh {t : hS} {x : Nat} (L : Lay B t) (h10 : hI t (B + 66) 10 = 3) (h11 : hI t (B + 66) 11 = nI x) (hx : x < 256) : f_X7_signHere t (B + 66) = some ((if 1 ≤ rk x then wm x else 0), t) := by
  have ne : ∀ k : Nat, k < 256 → x ≠ k → ¬ nI x = nI k := fun k hk h e => h ((nI_eq (by omega) (by omega)).mp e)
  unfold f_X7_signHere
  refine bnd (gI_ok L.km) ?_
  rw [h10]
  refine ifp rfl (bnd (gI_ok L.km) ?_)
  rw [h11]
  by_cases h : 1 ≤ rk x
  · rw [if_pos h]
    rcases rk_c h with rfl | rfl | rfl | rfl | rfl | rfl | rfl | rfl | rfl <;> rfl
  · rw [if_neg h]
    have h0 : rk x = 0 := by omega
    have n1 : x ≠ 124 ∧ x ≠ 38 ∧ x ≠ 60 ∧ x ≠ 61 ∧ x ≠ 62 ∧ x ≠ 43 ∧ x ≠ 45 ∧ x ≠ 42 ∧ x ≠ 47 := by
      refine ⟨?_, ?_, ?_, ?_, ?_, ?_, ?_, ?_, ?_⟩ <;> (rintro rfl; exact absurd h0 (by decide))
    exact ifn (ne 38 (by decide) n1.2.1) (ifn (ne 42 (by decide) n1.2.2.2.2.2.2.2.1) (ifn (ne 43 (by decide) n1.2.2.2.2.2.1) (ifn (ne 45 (by decide) n1.2.2.2.2.2.2.1) (ifn (ne 47 (by decide) n1.2.2.2.2.2.2.2.2) (ifn (ne 60 (by decide) n1.2.2.1) (ifn (ne 61 (by decide) n1.2.2.2.1) (ifn (ne 62 (by decide) n1.2.2.2.2.1) (ifn (ne 124 (by decide) n1.1) rfl))))))))
theorem wm_0 {x : Nat} (h : 1 ≤ rk x) : ¬ wm x = 0 := by
  rcases rk_c h with rfl | rfl | rfl | rfl | rfl | rfl | rfl | rfl | rfl <;> decide
theorem isL_rk {v : Nat} (h : isL v = true ∨ isD v = true) : rk v = 0 ∧ v ≠ 41 := by
  have hv : (97 ≤ v ∧ v ≤ 122) ∨ (48 ≤ v ∧ v ≤ 57) := by
    rcases h with h | h
    · unfold isL at h
      rw [Bool.and_eq_true] at h
      exact Or.inl ⟨of_decide_eq_true h.1, of_decide_eq_true h.2⟩
    · unfold isD at h
      rw [Bool.and_eq_true] at h
      exact Or.inr ⟨of_decide_eq_true h.1, of_decide_eq_true h.2⟩
  refine ⟨?_, by omega⟩
  cases e : rk v with
  | zero => rfl
  | succ k =>
    have := rk_c (show 1 ≤ rk v by omega)
    omega
theorem nar_b (b : Bool) : vp_nar .boolean (bI b) = bI b := by cases b <;> rfl
theorem m_sign {t : hS} {key e : Nat} {m : Mt} (h : HD B V n key e m t) (hm : MI key e m) (hw : m.1 = false) (he : e ≤ n) (hq : bl V n e < n) (k28 : kr3) : SM B V n key (bl V n e) t k28 (signM V (bl V n e) m) (f_X7_takesE_b28 k28 (B + 66) (nI (cnt 40 m.2.1)) (nI (cnt 33 m.2.1)) (bI m.1) t) := by
  obtain ⟨hT, hR, hS1, h8, cl, E, hG, hE, -⟩ := h
  have L := hT.1
  have h96 := hT.2.1
  have bb := bl_b (V := V) he
  have hl := hm.2.2.1
  generalize bl V n e = q at hG hq bb ⊢
  have vb := (hT.2.2.2 q hq).1
  have g9 := hG.1
  have c33 := cnt_le 33 m.2.1
  have c40 := cnt_le 40 m.2.1
  obtain ⟨w, p, f, c, a⟩ := m
  dsimp only at hw hl h8 hS1 c33 c40 ⊢
  subst hw
  have hh : hd0 p ≠ 33 := hm.2.1 rfl
  have notok : ∀ tok, hI t (B + 66) 10 = tok → tok ≠ 0 → tok ≠ 3 → f_X7_takesE_b28 k28 (B + 66) (nI (cnt 40 p)) (nI (cnt 33 p)) (bI false) t = some (0, t) := by
    intro tok h1 h2 h3
    unfold f_X7_takesE_b28 f_X7_takesE_b39 f_X7_takesE_b237 f_X7_signHere
    refine ifp rfl (bnd (gI_ok L.km) ?_)
    rw [h1]
    refine ifn h2 (ifp rfl (bnd (gI_ok L.km) ?_))
    rw [h1]
    refine ifn h3 (bnd (x := ((0 : Int32), t)) ((cV_ok L.km).trans (bnd (gI_ok L.km) ?_)) (ifp rfl rfl))
    rw [h1]
    exact ifn h3 rfl
  have noneS : (isL (V q) = true ∨ isD (V q) = true) → signM V q (false, p, f, c, a) = none := by
    intro z
    have := isL_rk z
    unfold signM
    rw [if_neg this.2, if_pos this.1]
  rcases hG.2 with ⟨z, -⟩ | ⟨-, cL, t10, -⟩ | ⟨-, cD, t10, -⟩ | ⟨-, cL, cD, t10, t11, t8, t12⟩
  · omega
  · rw [noneS (Or.inl cL)]
    refine Or.inl ⟨rfl, t, notok _ t10 ?_ ?_, Fx.rf B t, g9⟩
    · cases cl <;> decide
    · cases cl <;> decide
  · rw [noneS (Or.inr cD)]
    refine Or.inl ⟨rfl, t, notok _ t10 ?_ ?_, Fx.rf B t, g9⟩
    · cases cl
      · rw [if_neg (show ¬ (false = true) by decide)]
        split <;> decide
      · rw [if_pos rfl]
        decide
    · cases cl
      · rw [if_neg (show ¬ (false = true) by decide)]
        split <;> decide
      · rw [if_pos rfl]
        decide
  have sh := (cV_ok L.km).trans (m_sh L t10 t11 vb)
  have E0 : ∀ w : Bool, hI t (B + 66) 12 = -1 ∨ ∃ k, k ≤ q + 1 ∧ hI t (B + 66) 12 = nI k ∧ (w = true → k < q + 1) := by
    intro w
    rcases hE with y | ⟨k, y1, y2⟩
    · exact Or.inl (t12.trans y)
    · exact Or.inr ⟨k, by omega, t12.trans y2, fun _ => by omega⟩
  have pre : ∀ X, (if nI (V q) = (41 : Int32) then (if nI (cnt 40 p) ≤ 0 then f_X7_takesE_b237 k28 (B + 66) (nI (cnt 40 p)) (nI (cnt 33 p)) t else (cV t (B + 66) 7 (f_X7_settle t (B + 66) (0 : Int32))).bind fun p3 => (gI p3.2 (B + 66) 7 20).bind fun x4 => (pI p3.2 (B + 66) 7 20 (x4 - (1 : Int32))).bind fun s5 => (cV s5 (B + 66) 7 (f_X7_settle s5 (B + 66) (6 : Int32))).bind fun p6 => (cV p6.2 (B + 66) 7 (f_X7_notsOpen p6.2 (B + 66))).bind fun p7 => (cV p7.2 (B + 66) 7 (f_X7_go p7.2 (B + 66))).bind fun p8 => k28 (B + 66) (nI (cnt 40 p) + (-1 : Int32)) p7.1 0 p8.2) else f_X7_takesE_b237 k28 (B + 66) (nI (cnt 40 p)) (nI (cnt 33 p)) t) = X → f_X7_takesE_b28 k28 (B + 66) (nI (cnt 40 p)) (nI (cnt 33 p)) (bI false) t = X := by
    intro X hX
    unfold f_X7_takesE_b28 f_X7_takesE_b39
    refine ifp rfl (bnd (gI_ok L.km) ?_)
    rw [t10]
    refine ifn (by decide) (ifp rfl (bnd (gI_ok L.km) ?_))
    rw [t10]
    refine ifp rfl (bnd (gI_ok L.km) ?_)
    rw [t11]
    exact hX
  have no237 : rk (V q) = 0 → f_X7_takesE_b237 k28 (B + 66) (nI (cnt 40 p)) (nI (cnt 33 p)) t = some (0, t) := by
    intro z
    unfold f_X7_takesE_b237
    refine bnd sh (ifp ?_ rfl)
    show (if 1 ≤ rk (V q) then wm (V q) else 0) = 0
    rw [if_neg (by omega)]
  unfold signM
  by_cases e1 : V q = 41
  · rw [if_pos e1]
    have q41 : nI (V q) = (41 : Int32) := by rw [e1]; rfl
    by_cases e2 : cnt 40 p = 0
    · rw [if_pos e2]
      exact Or.inl ⟨rfl, t, pre _ (ifp q41 (ifp (by rw [e2]; decide) (no237 (by rw [e1]; rfl)))), Fx.rf B t, g9⟩
    · rw [if_neg e2]
      obtain ⟨mi, r, er, e40, e33⟩ := cls_inv hm rfl e2
      dsimp only at er e40 e33
      obtain ⟨u1, k1, R1, F1⟩ := m_rel (k := 1) (ℓ := 0) (by decide) (by decide) (fun x hx => ⟨fun _ => Nat.zero_le _, fun _ => hx⟩) p f c t jF L hR hm.1 hh (by omega) (by unfold jF; omega)
      have L1 := L.sx F1.1
      rw [er] at R1
      have ri := rel_inv (key := key) (k := 1) (by decide) p f c hm.1 hh hm.2.2.2.1 hm.2.2.2.2
      rw [er, List.length_cons] at ri
      have rl := ri.2.2.2.2.1
      have wr := ri.1
      have h20 : hI u1 (B + 66) 20 = nI (r.length + 1) := R1.2.1.1
      have L2 := L1.u (B + 66) 20 (nI r.length)
      have R2 : RdM0 B (uI u1 (B + 66) 20 (nI r.length)) key (false, r, (rel 1 p f c).2.1, (rel 1 p f c).2.2, a) := by
        obtain ⟨⟨g1, g2⟩, ⟨g3, g4⟩, g5, g6⟩ := R1
        refine ⟨⟨?_, fun i hi => ?_⟩, ⟨uI_eq _ _ _ _, ?_⟩, ?_, ?_⟩
        · rw [uI_ne (by omega)]; exact g1
        · rw [uI_ne (by omega)]; exact g2 i hi
        · refine stk_cg r (fun i hi => ?_) g4.2
          rw [uI_ne (by omega)]
        · rw [uI_ne (by omega)]; exact g5
        · rw [uI_ne (by omega)]; exact g6
      obtain ⟨u3, k3, R3, F3⟩ := m_epc r (rel 1 p f c).2.1 (rel 1 p f c).2.2 _ jF L2 R2 wr.1 (by omega) (by unfold jF; omega)
      have ec : clsM (false, p, f, c, a) = (false, (epc r (rel 1 p f c).2.1 (rel 1 p f c).2.2).1, (epc r (rel 1 p f c).2.1 (rel 1 p f c).2.2).2.1, (epc r (rel 1 p f c).2.1 (rel 1 p f c).2.2).2.2, a) := by
        unfold clsM
        dsimp only
        rw [er]
        rfl
      have FF : Fx B t u3 := (F1.fx.tr (Fx.u _ _ _ (by omega))).tr F3.fx
      have H3 := hT.fx FF
      have L3 := H3.1
      have e66 : ∀ k, k ≠ 17 → k ≠ 20 → hI u3 (B + 66) k = hI t (B + 66) k := fun k h1 h2 => by rw [F3.2 k h1 h2, uI_ne (by omega), F1.2 k h1 h2]
      have T3 : TsM B u3 (clsM (false, p, f, c, a)).2.1 := by
        rw [ec]
        intro j hj
        dsimp only at hj ⊢
        rw [cnt_epc] at hj
        rw [tv_epc, F3.1.2.2.2 _ (by omega), uI_ne (by omega), F1.1.2.2.2 _ (by omega), hS1 j (by omega)]
        have tl := tv_low (k := 1) (by decide) p f c j (by omega)
        rw [er, tv_40, if_neg (by omega)] at tl
        rw [tl]
      have R3' : RdM0 B u3 key (clsM (false, p, f, c, a)) := by rw [ec]; exact R3
      have c4 : cnt 40 (clsM (false, p, f, c, a)).2.1 = cnt 40 r := by
        rw [ec]
        exact cnt_epc _ _ _
      have nt := m_nots L3 R3' mi.1 (by have := mi.2.2.1; omega)
      obtain ⟨u4, k4, F4, hd4⟩ := m_ahead (e := q + 1) (m := clsM (false, p, f, c, a)) H3 R3' T3 (by omega) (by omega) ((e66 8 (by omega) (by omega)).trans t8) (by
        rw [e66 12 (by omega) (by omega)]
        exact E0 _)
      refine Or.inr ⟨(q + 1, clsM (false, p, f, c, a)), u4, rfl, pre _ (ifp q41 (ifn (nI_nle (by omega) (by omega)) (bnd ((cV_ok L.km).trans k1) (bnd (gI_ok L1.km) ?_)))), FF.tr F4.fx, hd4⟩
      rw [h20, nI_pred]
      refine bnd (pI_ok L1.km) (bnd ((cV_ok L2.km).trans k3) (bnd ((cV_ok L3.km).trans nt) (bnd ((cV_ok L3.km).trans k4) ?_)))
      show k28 (B + 66) (nI (cnt 40 p) + (-1 : Int32)) (nI (cnt 33 (clsM (false, p, f, c, a)).2.1)) 0 u4 = k28 (B + 66) (nI (cnt 40 (clsM (false, p, f, c, a)).2.1)) (nI (cnt 33 (clsM (false, p, f, c, a)).2.1)) (bI (clsM (false, p, f, c, a)).1) u4
      rw [c4, e40, pk_m1]
      rfl
  · rw [if_neg e1]
    have q41 : ¬ nI (V q) = (41 : Int32) := fun z => e1 ((nI_eq (b := 41) (by omega) (by decide)).mp z)
    by_cases e2 : rk (V q) = 0
    · rw [if_pos e2]
      exact Or.inl ⟨rfl, t, pre _ (ifn q41 (no237 e2)), Fx.rf B t, g9⟩
    · rw [if_neg e2]
      have x1 : 1 ≤ rk (V q) := by omega
      have r5 := rk_le (V q)
      have s := wm_s x1
      have xc := rk_c x1
      have t77 : hI t (B + 77) (cnt 40 p) = bI (tv p (cnt 40 p)) := hS1 _ (Nat.le_refl _)
      have t3 := tv_3 p f c hm.1 hh
      have n3 : rk (V q) ≠ 3 → ¬ nI (rk (V q)) = 3 := fun z y => z ((nI_eq (b := 3) (by omega) (by decide)).mp y)
      have shx : cV t (B + 66) 7 (f_X7_signHere t (B + 66)) = some (wm (V q), t) := by
        rw [sh, if_pos x1]
      by_cases e3 : rk (V q) = 3 ∧ rk (hd0 (rel 4 p f c).1) = 3
      · rw [if_pos e3]
        refine Or.inl ⟨rfl, t, pre _ (ifn q41 ?_), Fx.rf B t, g9⟩
        unfold f_X7_takesE_b237
        refine bnd shx (ifn (wm_0 x1) (bnd (s.2.2.2 t) (ifp (by show nI (rk (V q)) = 3; rw [e3.1]; rfl) (bnd L.m21 (bnd (aI_ok (cnt 40 p) L.k77 rfl (by omega) (by decide)) ?_)))))
        rw [t77, t3.mpr e3.2]
        exact ifn one_ne rfl
      · rw [if_neg e3]
        obtain ⟨b, hb⟩ : ∃ b : Bool, b = (decide (rk (V q) = 3) || (decide (3 < rk (V q)) && tv p (cnt 40 p))) := ⟨_, rfl⟩
        have kk : 1 ≤ rkk (V q) := by unfold rkk; split <;> omega
        have ri := rel_inv (key := key) kk p f c hm.1 hh hm.2.2.2.1 hm.2.2.2.2
        have rl := ri.2.2.2.2.1
        have mi := sgn_inv hm rfl e2 e3
        have LT := L.u (B + 77) (cnt 40 p) (bI b)
        have RT : RdM0 B (uI t (B + 77) (cnt 40 p) (bI b)) key (false, p, f, c, a) := hR.cgr (fun k _ => uI_ne (by omega)) (fun k => uI_ne (by omega)) (fun k => uI_ne (by omega))
        have st : ∃ u, f_X7_settle (uI t (B + 77) (cnt 40 p) (bI b)) (B + 66) (nI (rk (V q))) = some ((), u) ∧ RdM0 B u key (false, (rel (rkk (V q)) p f c).1, (rel (rkk (V q)) p f c).2.1, (rel (rkk (V q)) p f c).2.2, a) ∧ Fs B (uI t (B + 77) (cnt 40 p) (bI b)) u := by
          by_cases z : rk (V q) = 3
          · have e4 : rkk (V q) = 4 := if_pos z
            rw [e4]
            have r34 := rel34 p f c (fun y => e3 ⟨z, y⟩)
            obtain ⟨u, k1, R1, F1⟩ := m_rel (k := 3) (ℓ := 3) (by decide) (by decide) (fun _ _ => Iff.rfl) p f c _ jF LT RT hm.1 hh (by omega) (by unfold jF; omega)
            rw [r34] at R1
            rw [z]
            exact ⟨u, k1, R1, F1⟩
          · have e4 : rkk (V q) = rk (V q) := if_neg z
            rw [e4]
            exact m_rel (k := rk (V q)) (ℓ := rk (V q)) (by omega) (by omega) (fun _ _ => Iff.rfl) p f c _ jF LT RT hm.1 hh (by omega) (by unfold jF; omega)
        obtain ⟨u1, k1, R1, F1⟩ := st
        have L1 := LT.sx F1.1
        obtain ⟨pl, hpl⟩ : ∃ pl, pl = (rel (rkk (V q)) p f c).1 := ⟨_, rfl⟩
        have h20 : hI u1 (B + 66) 20 = nI pl.length := by rw [hpl]; exact R1.2.1.1
        have R2 : RdM0 B (uI (uI u1 (B + 76) pl.length (wm (V q))) (B + 66) 20 (nI (pl.length + 1))) key (sgnM (V q) (false, p, f, c, a)) := by
          obtain ⟨⟨g1, g2⟩, ⟨g3, g4⟩, g5, g6⟩ := R1
          rw [hpl]
          refine ⟨⟨?_, fun i hi => ?_⟩, ⟨uI_eq _ _ _ _, ?_, ?_⟩, ?_, ?_⟩
          · rw [uI_ne (by omega), uI_ne (by omega)]; exact g1
          · rw [uI_ne (by omega), uI_ne (by omega)]; exact g2 i hi
          · rw [uI_ne (by omega), uI_eq]
          · refine stk_cg _ (fun i hi => ?_) g4
            have hi' : i < (rel (rkk (V q)) p f c).1.length := hi
            rw [uI_ne (by omega), uI_ne (by omega)]
          · rw [uI_ne (by omega), uI_ne (by omega)]; exact g5
          · rw [uI_ne (by omega), uI_ne (by omega)]; exact g6
        have F2 : Fx B t (uI (uI u1 (B + 76) pl.length (wm (V q))) (B + 66) 20 (nI (pl.length + 1))) := (((Fx.v _ _ _ _ (Or.inr (Or.inr rfl))).tr F1.fx).tr (Fx.v _ _ _ _ (Or.inr (Or.inl rfl)))).tr (Fx.u _ _ _ (by omega))
        have e66 : ∀ k, k ≠ 17 → k ≠ 20 → hI (uI (uI u1 (B + 76) pl.length (wm (V q))) (B + 66) 20 (nI (pl.length + 1))) (B + 66) k = hI t (B + 66) k := fun k h1 h2 => by rw [uI_ne (by omega), uI_ne (by omega), F1.2 k h1 h2, uI_ne (by omega)]
        have cs : cnt 40 (sgnM (V q) (false, p, f, c, a)).2.1 = cnt 40 p := by
          show cnt 40 (V q :: (rel (rkk (V q)) p f c).1) = _
          rw [cnt_n (by omega)]
          exact ri.2.2.2.2.2.1
        have cs3 : cnt 33 (sgnM (V q) (false, p, f, c, a)).2.1 = cnt 33 p := by
          show cnt 33 (V q :: (rel (rkk (V q)) p f c).1) = _
          rw [cnt_n (by omega)]
          exact ri.2.2.2.2.2.2.1
        have T2 : TsM B (uI (uI u1 (B + 76) pl.length (wm (V q))) (B + 66) 20 (nI (pl.length + 1))) (sgnM (V q) (false, p, f, c, a)).2.1 := by
          intro j hj
          rw [cs] at hj
          rw [uI_ne (by omega), uI_ne (by omega), F1.1.2.2.2 _ (by omega)]
          show _ = bI (tv (V q :: (rel (rkk (V q)) p f c).1) j)
          have c4 := ri.2.2.2.2.2.1
          by_cases ej : j = cnt 40 p
          · rw [ej, uI_eq, ← c4, tv_b (by omega), c4, hb]
            by_cases z : rk (V q) = 3
            · rw [decide_eq_true z]
              rfl
            · rw [decide_eq_false z, Bool.false_or, Bool.false_or]
              have e4 : rkk (V q) = rk (V q) := if_neg z
              by_cases z4 : 3 < rk (V q)
              · rw [decide_eq_true z4, Bool.true_and, e4, tv_hi (by omega)]
              · rw [decide_eq_false z4, Bool.false_and]
                have hr := ri.2.2.2.2.2.2.2
                have := tv_no _ ri.1 ri.2.1 (by rw [e4] at hr ⊢; omega)
                rw [c4] at this
                rw [this]
          · rw [uI_ne (by omega), tv_o (by omega) (by rw [c4]; exact ej), tv_low kk p f c j (by omega)]
            exact hS1 j hj
        obtain ⟨u4, k4, F4, hd4⟩ := m_ahead (e := q + 1) (m := sgnM (V q) (false, p, f, c, a)) (hT.fx F2) R2 T2 (by omega) (by omega) ((e66 8 (by omega) (by omega)).trans t8) (by
          rw [e66 12 (by omega) (by omega)]
          exact E0 _)
        have b305 : f_X7_takesE_b305 k28 (B + 66) (nI (cnt 40 p)) (nI (cnt 33 p)) (wm (V q)) (B + 77) (nI (cnt 40 p)) (bI b) t = k28 (B + 66) (nI (cnt 40 (sgnM (V q) (false, p, f, c, a)).2.1)) (nI (cnt 33 (sgnM (V q) (false, p, f, c, a)).2.1)) (bI (sgnM (V q) (false, p, f, c, a)).1) u4 := by
          unfold f_X7_takesE_b305
          rw [nar_b, cs, cs3]
          refine bnd (sI_ok (cnt 40 p) L.k77 rfl (by omega) (by decide)) (bnd (s.2.2.2 _) (bnd ((cV_ok LT.km).trans k1) (bnd L1.m19 (bnd (gI_ok L1.km) ?_))))
          rw [h20]
          refine bnd (sI_ok pl.length L1.k76 rfl (by rw [hpl]; omega) (by decide)) (bnd (gI_ok (L1.u _ _ _).km) ?_)
          rw [uI_ne (by omega), h20, nI_1]
          exact bnd (pI_ok (L1.u _ _ _).km) (bnd ((cV_ok ((L1.u _ _ _).u _ _ _).km).trans k4) rfl)
        have b268 : f_X7_takesE_b268 k28 (B + 66) (nI (cnt 40 p)) (nI (cnt 33 p)) (wm (V q)) t = k28 (B + 66) (nI (cnt 40 (sgnM (V q) (false, p, f, c, a)).2.1)) (nI (cnt 33 (sgnM (V q) (false, p, f, c, a)).2.1)) (bI (sgnM (V q) (false, p, f, c, a)).1) u4 := by
          unfold f_X7_takesE_b268 f_X7_takesE_b300 f_X7_takesE_b304
          refine bnd L.m21 (bnd (s.2.2.2 t) ?_)
          by_cases z : rk (V q) = 3
          · rw [decide_eq_true z, Bool.true_or] at hb
            rw [hb] at b305
            exact ifp (by show nI (rk (V q)) = 3; rw [z]; rfl) b305
          · rw [decide_eq_false z, Bool.false_or] at hb
            refine ifn (n3 z) (bnd (s.2.2.2 t) ?_)
            by_cases z4 : 3 < rk (V q)
            · rw [decide_eq_true z4, Bool.true_and] at hb
              refine ifn (nI_ge (a := 3) z4 (by omega)) (bnd L.m21 (bnd (aI_ok (cnt 40 p) L.k77 rfl (by omega) (by decide)) ?_))
              rw [t77, ← hb]
              cases b
              · exact ifp rfl b305
              · exact ifn one_ne b305
            · rw [decide_eq_false z4, Bool.false_and] at hb
              rw [hb] at b305
              exact ifp (nI_le (b := 3) (by omega) (by decide)) b305
        refine Or.inr ⟨(q + 1, sgnM (V q) (false, p, f, c, a)), u4, rfl, pre _ (ifn q41 ?_), F2.tr F4.fx, hd4⟩
        unfold f_X7_takesE_b237
        refine bnd shx (ifn (wm_0 x1) (bnd (s.2.2.2 t) ?_))
        by_cases z : rk (V q) = 3
        · refine ifp (by show nI (rk (V q)) = 3; rw [z]; rfl) (bnd L.m21 (bnd (aI_ok (cnt 40 p) L.k77 rfl (by omega) (by decide)) ?_))
          have tf : tv p (cnt 40 p) = false := by
            cases y : tv p (cnt 40 p)
            · rfl
            · exact absurd ⟨z, t3.mp y⟩ e3
          rw [t77, tf]
          exact ifp rfl b268
        · exact ifn (n3 z) b268
/-- the whole reading -/
def MF (B key : Nat) (t : hS) (o : Nat ⊕ ((Nat → Int32) × Nat × Nat)) (r : Option (Int32 × hS)) : Prop := ∃ u, Fx B t u ∧ ((∃ q, o = .inl q ∧ r = some (0, u) ∧ hI u (B + 66) 9 = nI q) ∨ ∃ f c a, o = .inr (f, c, a) ∧ r = some (1, u) ∧ hI u (B + 66) 17 = nI c ∧ (∀ i, i < c → hI u (B + 75) i = cmap key (f i)) ∧ hI u (B + 66) 13 = nI key ∧ hI u (B + 66) 18 = nI a)
theorem m_run {key : Nat} (hk : key < 3) : ∀ d e m t fuel, HD B V n key e m t → MI key e m → e ≤ n → n < e + d → d < fuel → MF B key t (runM V n key d e m) (jL f_X7_takesE_b28 (fun _ _ _ _ _ => none) fuel (B + 66) (nI (cnt 40 m.2.1)) (nI (cnt 33 m.2.1)) (bI m.1) t)
  | 0, e, m, t, fuel, h, hm, he, hd, hf => by omega
  | d + 1, e, m, t, fuel + 1, h, hm, he, hd, hf => by
    have L := h.1.1
    have h96 := h.1.2.1
    have bb := bl_b (V := V) he
    have hl := hm.2.2.1
    have c40 := cnt_le 40 m.2.1
    by_cases c : n ≤ bl V n e
    · have er : runM V n key (d + 1) e m = (if m.1 = true ∨ cnt 40 m.2.1 ≠ 0 then .inl n else .inr ((rel 1 m.2.1 m.2.2.1 m.2.2.2.1).2.1, (rel 1 m.2.1 m.2.2.1 m.2.2.2.1).2.2, m.2.2.2.2)) := if_pos c
      rw [er]
      obtain ⟨cl, E, hG, -⟩ := h.2.2.2.2
      have g9 : hI t (B + 66) 9 = nI n := by
        rw [hG.1, show bl V n e = n by omega]
      have t10 : hI t (B + 66) 10 = 0 := by
        rcases hG.2 with ⟨-, z, -⟩ | ⟨z, -⟩ | ⟨z, -⟩ | ⟨z, -⟩
        · exact z
        · omega
        · omega
        · omega
      by_cases w : m.1 = true
      · rw [if_pos (Or.inl w), w]
        refine ⟨t, Fx.rf B t, Or.inl ⟨n, rfl, ?_, g9⟩⟩
        show f_X7_takesE_b28 (jL f_X7_takesE_b28 (fun _ _ _ _ _ => none) fuel) (B + 66) (nI (cnt 40 m.2.1)) (nI (cnt 33 m.2.1)) (bI true) t = _
        unfold f_X7_takesE_b28 f_X7_takesE_b39 f_X7_takesE_b97 f_X7_takesE_b158 f_X7_takesPart f_X7_takesPart_b36 f_X7_takesPart_b37
        refine ifn one_ne (ifn one_ne (bnd (gI_ok L.km) ?_))
        rw [t10]
        refine ifn (by decide) (bnd (gI_ok L.km) ?_)
        rw [t10]
        refine ifn (by decide) (bnd (x := ((0 : Int32), t)) ((cV_ok L.km).trans (bnd (gI_ok L.km) ?_)) (ifp rfl rfl))
        rw [t10]
        refine ifn (by decide) (bnd (gI_ok L.km) ?_)
        rw [t10]
        exact ifn (by decide) (ifp rfl rfl)
      · have w' : m.1 = false := by
          cases z : m.1
          · rfl
          · exact absurd z w
        have hR := h.2.1
        obtain ⟨u, k1, R1, F1⟩ := m_rel (k := 1) (ℓ := 0) (by decide) (by decide) (fun x hx => ⟨fun _ => Nat.zero_le _, fun _ => hx⟩) m.2.1 m.2.2.1 m.2.2.2.1 t jF L (show RdM0 B t key (m.1, m.2.1, m.2.2.1, m.2.2.2.1, m.2.2.2.2) from hR) hm.1 (hm.2.1 w') (by omega) (by unfold jF; omega)
        have pre : ∀ X, (if nI (cnt 40 m.2.1) = 0 then some ((1 : Int32), u) else some ((0 : Int32), u)) = X → jL f_X7_takesE_b28 (fun _ _ _ _ _ => none) (fuel + 1) (B + 66) (nI (cnt 40 m.2.1)) (nI (cnt 33 m.2.1)) (bI m.1) t = X := by
          intro X hX
          rw [w']
          show f_X7_takesE_b28 (jL f_X7_takesE_b28 (fun _ _ _ _ _ => none) fuel) (B + 66) (nI (cnt 40 m.2.1)) (nI (cnt 33 m.2.1)) (bI false) t = X
          unfold f_X7_takesE_b28
          refine ifp rfl (bnd (gI_ok L.km) ?_)
          rw [t10]
          exact ifp rfl (bnd ((cV_ok L.km).trans k1) hX)
        by_cases b : cnt 40 m.2.1 = 0
        · rw [if_neg (by rintro (z | z); exact w z; exact z b)]
          exact ⟨u, F1.fx, Or.inr ⟨_, _, _, rfl, pre _ (ifp (by rw [b]; rfl) rfl), R1.1.1, R1.1.2, R1.2.2.1, R1.2.2.2⟩⟩
        · rw [if_pos (Or.inr b)]
          exact ⟨u, F1.fx, Or.inl ⟨n, rfl, pre _ (ifn (nI_ne0 (by omega) (by omega)) rfl), (F1.2 9 (by omega) (by omega)).trans g9⟩⟩
    · have st : SM B V n key (bl V n e) t (jL f_X7_takesE_b28 (fun _ _ _ _ _ => none) fuel) (stpM V n key (bl V n e) m) (f_X7_takesE_b28 (jL f_X7_takesE_b28 (fun _ _ _ _ _ => none) fuel) (B + 66) (nI (cnt 40 m.2.1)) (nI (cnt 33 m.2.1)) (bI m.1) t) := by
        unfold stpM
        cases w : m.1
        · rw [if_neg (by decide), ← w]
          exact m_sign h hm w he (by omega) _
        · rw [if_pos rfl, ← w]
          exact m_piece h hm w hk he (by omega) _
      rcases st with ⟨z1, u, z2, z3, z4⟩ | ⟨em, u, z1, z2, z3, z4⟩
      · have er : runM V n key (d + 1) e m = .inl (bl V n e) := by
          conv => lhs; unfold runM
          rw [if_neg c, z1]
        rw [er]
        exact ⟨u, z3, Or.inl ⟨_, rfl, z2, z4⟩⟩
      · have er : runM V n key (d + 1) e m = runM V n key d em.1 em.2 := by
          conv => lhs; unfold runM
          rw [if_neg c, z1]
        rw [er]
        have iv := stp_inv (e' := em.1) (m' := em.2) (by omega) (hm.mono bb.1) z1
        obtain ⟨u2, f2, y⟩ := m_run hk d em.1 em.2 u fuel z4 iv.1 iv.2.2 (by omega) (by omega)
        refine ⟨u2, z3.tr f2, ?_⟩
        rcases y with ⟨q, y1, y2, y3⟩ | ⟨f, c', a, y1, y2, y3⟩
        · exact Or.inl ⟨q, y1, z2.trans y2, y3⟩
        · exact Or.inr ⟨f, c', a, y1, z2.trans y2, y3⟩
end HS
