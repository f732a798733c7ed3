theorem isLD {v : Nat} (h : isL v = true) : isD v = false := by
  unfold isL at h
  unfold isD
  rw [Bool.and_eq_true] at h
  have := of_decide_eq_true h.1
  rw [decide_eq_false (by omega : ¬ v ≤ 57), Bool.and_false]
section HP
variable {B : Nat} {V : Nat → Nat} {n : Nat}
theorem cnt_epc : ∀ (p : List Nat) f c, cnt 40 (epc p f c).1 = cnt 40 p := by
  intro p
  induction p with
  | nil => intro f c; rfl
  | cons x r ih =>
    intro f c
    by_cases q : x = 33
    · subst q
      rw [epc_t, ih, cnt_n (by decide)]
    · rw [epc_f q]
theorem m_172 {u : hS} {key e : Nat} {m : Mt} (h : HD B V n key e m u) (hw : wf m.2.1) (hl : m.2.1.length ≤ 96) (k28 : kr3) (l1 : Int32) (e1 : l1 = nI (cnt 40 m.2.1)) (w : Int32) (e2 : w = bI m.1) : f_X7_takesE_b172 k28 (B + 66) l1 w u = k28 (B + 66) (nI (cnt 40 m.2.1)) (nI (cnt 33 m.2.1)) (bI m.1) u := by
  subst e1
  subst e2
  unfold f_X7_takesE_b172
  exact bnd ((cV_ok h.1.1.km).trans (m_nots h.1.1 h.2.1 hw hl)) rfl
theorem m_piece {t : hS} {key e : Nat} {m : Mt} (h : HD B V n key e m t) (hm : MI key e m) (hw : m.1 = true) (hk : key < 3) (he : e ≤ n) (hq : bl V n e < n) (k28 : kr3) : SM B V n key (bl V n e) t k28 (pieceM V n key (bl V n e) m) (f_X7_takesE_b28 k28 (B + 66) (nI (cnt 40 m.2.1)) (nI (cnt 33 m.2.1)) (bI m.1) t) := by
  obtain ⟨hT, hR, hS1, h8, cl, E, hG, hE, hcl⟩ := h
  have L := hT.1
  have h96 := hT.2.1
  have bb := bl_b (V := V) he
  have wb := wd_b (V := V) hq
  have hl := hm.2.2.1
  generalize bl V n e = q at hG hcl hq bb wb ⊢
  have vb := (hT.2.2.2 q hq).1
  rw [hw]
  have cl0 : (isL (V q) = true ∨ isD (V q) = true) → cl = false := hcl hw hq
  have g9 := hG.1
  have fail : ∀ X, f_X7_takesE_b28 k28 (B + 66) (nI (cnt 40 m.2.1)) (nI (cnt 33 m.2.1)) (bI true) t = X → X = some (0, t) → SM B V n key q t k28 none (f_X7_takesE_b28 k28 (B + 66) (nI (cnt 40 m.2.1)) (nI (cnt 33 m.2.1)) (bI true) t) := fun X h1 h2 => Or.inl ⟨rfl, t, h1.trans h2, Fx.rf B t, g9⟩
  have n3 : ∀ X tok, hI t (B + 66) 10 = tok → tok ≠ 3 → f_X7_takesE_b158 k28 (B + 66) (nI (cnt 40 m.2.1)) t = X → f_X7_takesE_b28 k28 (B + 66) (nI (cnt 40 m.2.1)) (nI (cnt 33 m.2.1)) (bI true) t = X := by
    intro X tok h1 h2 hX
    unfold f_X7_takesE_b28 f_X7_takesE_b39 f_X7_takesE_b97
    refine ifn one_ne (ifn one_ne (bnd (gI_ok L.km) ?_))
    rw [h1]
    refine ifn h2 (bnd (gI_ok L.km) ?_)
    rw [h1]
    exact ifn h2 hX
  have p0 : f_X7_takesPart t (B + 66) = some (0, t) → f_X7_takesE_b158 k28 (B + 66) (nI (cnt 40 m.2.1)) t = some (0, t) := by
    intro hp
    unfold f_X7_takesE_b158
    exact bnd ((cV_ok L.km).trans hp) (ifp rfl rfl)
  have p1 : ∀ v u e', f_X7_takesPart t (B + 66) = some (1, u) → Fx B t u → HD B V n key e' (leafM v m) u → -3 ≤ v → cok key v → (∀ X, f_X7_takesE_b158 k28 (B + 66) (nI (cnt 40 m.2.1)) t = X → f_X7_takesE_b28 k28 (B + 66) (nI (cnt 40 m.2.1)) (nI (cnt 33 m.2.1)) (bI true) t = X) → SM B V n key q t k28 (some (e', leafM v m)) (f_X7_takesE_b28 k28 (B + 66) (nI (cnt 40 m.2.1)) (nI (cnt 33 m.2.1)) (bI true) t) := by
    intro v u e' hp fx hd hv hc go
    have mi := leaf_inv hm hw hv hc
    refine Or.inr ⟨(e', leafM v m), u, rfl, go _ ?_, fx, hd⟩
    unfold f_X7_takesE_b158
    refine bnd ((cV_ok L.km).trans hp) (ifn one_ne ?_)
    refine m_172 hd mi.1 ?_ k28 _ ?_ _ rfl
    · have := mi.2.2.1
      omega
    · show nI (cnt 40 m.2.1) = nI (cnt 40 (epc m.2.1 _ _).1)
      rw [cnt_epc]
  have pn : ∀ tok, hI t (B + 66) 10 = tok → tok ≠ 1 → tok ≠ 2 → f_X7_takesPart t (B + 66) = some (0, t) := by
    intro tok h1 h2 h3
    unfold f_X7_takesPart f_X7_takesPart_b36 f_X7_takesPart_b37
    refine bnd (gI_ok L.km) ?_
    rw [h1]
    refine ifn h2 (bnd (gI_ok L.km) ?_)
    rw [h1]
    exact ifn h3 (ifp rfl rfl)
  rcases hG.2 with ⟨z, -⟩ | ⟨-, cL, t10, t11, t8, t12⟩ | ⟨-, cD, t10, t11, t8, t12⟩ | ⟨-, cL, cD, t10, t11, t8, t12⟩
  · omega
  · have cD := isLD cL
    rw [cl0 (Or.inl cL)] at t10
    have t10' : hI t (B + 66) 10 = 1 := t10
    unfold pieceM
    rw [cD, if_neg (show ¬ (false = true) by decide), cL, if_pos rfl]
    by_cases c1 : wd V n q - q ≤ 1
    · obtain ⟨x, kx, hx⟩ := m_nam (v := V q) L hR.2.2.1 hk vb
      have c1' : wd V n q - q = 1 := by omega
      rcases hx with ⟨y1, y2⟩ | ⟨y1, y2, y3⟩
      · rw [if_neg (fun z => z.2 y1)]
        refine fail _ (n3 _ 1 t10' (by decide) (p0 ?_)) rfl
        unfold f_X7_takesPart f_X7_takesPart_b36 f_X7_takesPart_b37
        refine bnd (gI_ok L.km) ?_
        rw [t10']
        refine ifp rfl (bnd (gI_ok L.km) (bnd (gI_ok L.km) ?_))
        rw [t8, g9, pk_sub (by omega), c1']
        refine ifp rfl (bnd (gI_ok L.km) ?_)
        rw [t11]
        refine bnd ((cV_ok L.km).trans kx) (ifp (show x < 0 by rw [y2]; decide) (bnd (gI_ok L.km) ?_))
        rw [t10']
        exact ifn (by decide) (ifp rfl rfl)
      · rw [if_pos ⟨c1, y1⟩]
        obtain ⟨u, ku, fu, hu⟩ := m_leafb (v := nmC key (V q)) (vv := 10000 + x) hT hR hS1 h8 hm.1 (by omega) wb.2 t8 t12 y3
        have nc := nmC_c key (V q)
        refine p1 _ u _ ?_ fu hu (nc.resolve_left y1).1 (nc.resolve_left y1).2 (fun X hX => n3 X 1 t10' (by decide) hX)
        unfold f_X7_takesPart f_X7_takesPart_b37 f_X7_takesPart_b52
        refine bnd (gI_ok L.km) ?_
        rw [t10']
        refine ifp rfl (bnd (gI_ok L.km) (bnd (gI_ok L.km) ?_))
        rw [t8, g9, pk_sub (by omega), c1']
        refine ifp rfl (bnd (gI_ok L.km) ?_)
        rw [t11]
        refine bnd ((cV_ok L.km).trans kx) (ifn y2 (bnd (gI_ok L.km) ?_))
        rw [t10']
        refine ifn (by decide) (ifn one_ne (bnd L.m16 (bnd (gI_ok L.km) (bnd (gI_ok L.km) ?_))))
        rw [t10', hR.1.1]
        refine ifn (by decide) (bnd (gI_ok L.km) ?_)
        rw [t11]
        exact bnd ((cV_ok L.km).trans kx) ku
    · rw [if_neg (fun z => c1 z.1)]
      refine fail _ (n3 _ 1 t10' (by decide) (p0 ?_)) rfl
      unfold f_X7_takesPart f_X7_takesPart_b36 f_X7_takesPart_b37
      refine bnd (gI_ok L.km) ?_
      rw [t10']
      refine ifp rfl (bnd (gI_ok L.km) (bnd (gI_ok L.km) ?_))
      rw [t8, g9, pk_sub (by omega)]
      refine ifn (fun z => c1 (by have := (nI_eq (b := 1) (by omega) (by decide)).mp z; omega)) (bnd (gI_ok L.km) ?_)
      rw [t10']
      exact ifn (by decide) (ifp rfl rfl)
  · rw [cl0 (Or.inr cD)] at t10
    have t10' : hI t (B + 66) 10 = (if wd V n q - q ≤ 4 then 2 else 4) := t10
    unfold pieceM
    rw [cD, if_pos rfl]
    by_cases c : wd V n q - q ≤ 4
    · rw [if_pos c] at t10' ⊢
      have hd : ∀ j, q ≤ j → j < wd V n q → isD (V j) = true := by
        intro j h1 h2
        have el : isL (V q) = false := by
          cases z : isL (V q)
          · rfl
          · have := isLD z
            rw [cD] at this
            cases this
        unfold wd at h2
        rw [el, if_neg (show ¬ (false = true) by decide), cD, if_pos rfl] at h2
        exact skp_all _ _ j h1 h2
      have nl := nmb_lt hd (wd V n q - q) (by omega)
      have n4 : 10 ^ (wd V n q - q) ≤ 10 ^ 4 := Nat.pow_le_pow_right (by decide) c
      have n5 : (10 : Nat) ^ 4 = 10000 := by decide
      obtain ⟨u, ku, fu, hu⟩ := m_leafb (v := nI (nmb V q (wd V n q - q))) (vv := nI (nmb V q (wd V n q - q))) hT hR hS1 h8 hm.1 (by omega) wb.2 t8 t12 (cmap_n (by omega) key).symm
      refine p1 _ u _ ?_ fu hu (nI_m3 (by omega)) (Or.inl ⟨_, by omega, rfl⟩) (fun X hX => n3 X 2 t10' (by decide) hX)
      unfold f_X7_takesPart f_X7_takesPart_b36 f_X7_takesPart_b37 f_X7_takesPart_b52
      refine bnd (gI_ok L.km) ?_
      rw [t10']
      refine ifn (by decide) (bnd (gI_ok L.km) ?_)
      rw [t10']
      refine ifp rfl (bnd L.m16 (bnd (gI_ok L.km) (bnd (gI_ok L.km) ?_)))
      rw [t10', hR.1.1]
      refine ifp rfl (bnd (gI_ok L.km) ?_)
      rw [t11 c]
      exact ku
    · rw [if_neg c] at t10' ⊢
      exact fail _ (n3 _ 4 t10' (by decide) (p0 (pn 4 t10' (by decide) (by decide)))) rfl
  · unfold pieceM
    rw [cD, if_neg (show ¬ (false = true) by decide), cL, if_neg (show ¬ (false = true) by decide)]
    have c33 := cnt_le 33 m.2.1
    have c40 := cnt_le 40 m.2.1
    have pf : f_X7_takesE_b158 k28 (B + 66) (nI (cnt 40 m.2.1)) t = some (0, t) := p0 (pn 3 t10 (by decide) (by decide))
    have E0 : hI t (B + 66) 12 = -1 ∨ ∃ k, k ≤ q + 1 ∧ hI t (B + 66) 12 = nI k ∧ (true = true → k < q + 1) := by
      rcases hE with y | ⟨k, y1, y2⟩
      · exact Or.inl (t12.trans y)
      · exact Or.inr ⟨k, by omega, t12.trans y2, fun _ => by omega⟩
    have pre : ∀ X, (if nI (V q) = (33 : Int32) then (if (8 : Int32) ≤ nI (cnt 33 m.2.1) then f_X7_takesE_b97 k28 (B + 66) (nI (cnt 40 m.2.1)) 1 t else (gR t (B + 66) 7 19).bind fun a11 => (gI t (B + 66) 7 20).bind fun x12 => (sI t a11 10 x12 (-10 : Int32)).bind fun s13 => (gI s13 (B + 66) 7 20).bind fun x14 => (pI s13 (B + 66) 7 20 (x14 + (1 : Int32))).bind fun s15 => (cV s15 (B + 66) 7 (f_X7_go s15 (B + 66))).bind fun p16 => f_X7_takesE_b172 k28 (B + 66) (nI (cnt 40 m.2.1)) 1 p16.2) else f_X7_takesE_b97 k28 (B + 66) (nI (cnt 40 m.2.1)) 1 t) = X → f_X7_takesE_b28 k28 (B + 66) (nI (cnt 40 m.2.1)) (nI (cnt 33 m.2.1)) (bI true) t = X := by
      intro X hX
      unfold f_X7_takesE_b28 f_X7_takesE_b39
      refine ifn one_ne (ifn one_ne (bnd (gI_ok L.km) ?_))
      rw [t10]
      refine ifp rfl (bnd (gI_ok L.km) ?_)
      rw [t11]
      exact hX
    have push : ∀ x : Nat, (x = 33 ∨ x = 40) → RdM0 B (uI (uI t (B + 76) m.2.1.length (wm x)) (B + 66) 20 (nI (m.2.1.length + 1))) key (true, x :: m.2.1, m.2.2) := by
      intro x hx
      obtain ⟨⟨g1, g2⟩, ⟨g3, g4⟩, g5, g6⟩ := hR
      refine ⟨⟨?_, fun i hi => ?_⟩, ⟨uI_eq _ _ _ _, ?_, ?_⟩, ?_, ?_⟩
      · rw [uI_ne (by omega), uI_ne (by omega)]; exact g1
      · rw [uI_ne (by omega), uI_ne (by omega)]; exact g2 i hi
      · rw [uI_ne (by omega), uI_eq]
      · refine stk_cg m.2.1 (fun i hi => ?_) g4
        rw [uI_ne (by omega), uI_ne (by omega)]
      · rw [uI_ne (by omega), uI_ne (by omega)]; exact g5
      · rw [uI_ne (by omega), uI_ne (by omega)]; exact g6
    have b97 : SM B V n key q t k28 (if V q = 40 ∧ cnt 40 m.2.1 < 8 then some (q + 1, (true, 40 :: m.2.1, m.2.2)) else none) (f_X7_takesE_b97 k28 (B + 66) (nI (cnt 40 m.2.1)) 1 t) := by
      by_cases c : V q = 40
      · by_cases c2 : cnt 40 m.2.1 < 8
        · rw [if_pos ⟨c, c2⟩]
          have R2 := push 40 (Or.inr rfl)
          rw [wm_40] at R2
          have F2 : Fx B t (uI (uI t (B + 76) m.2.1.length (-11)) (B + 66) 20 (nI (m.2.1.length + 1))) := (Fx.v _ _ _ _ (Or.inr (Or.inl rfl))).tr (Fx.u _ _ _ (by omega))
          have L2 : Lay B (uI (uI t (B + 76) m.2.1.length (-11)) (B + 66) 20 (nI (m.2.1.length + 1))) := (L.u _ _ _).u _ _ _
          have e66 : ∀ k, k ≠ 20 → hI (uI (uI t (B + 76) m.2.1.length (-11)) (B + 66) 20 (nI (m.2.1.length + 1))) (B + 66) k = hI t (B + 66) k := fun k hk => by rw [uI_ne (by omega), uI_ne (by omega)]
          have e77 : ∀ k, hI (uI (uI t (B + 76) m.2.1.length (-11)) (B + 66) 20 (nI (m.2.1.length + 1))) (B + 77) k = hI t (B + 77) k := fun k => by rw [uI_ne (by omega), uI_ne (by omega)]
          have F3 : Fx B (uI (uI t (B + 76) m.2.1.length (-11)) (B + 66) 20 (nI (m.2.1.length + 1))) (uI (uI (uI t (B + 76) m.2.1.length (-11)) (B + 66) 20 (nI (m.2.1.length + 1))) (B + 77) (cnt 40 m.2.1 + 1) 0) := Fx.v _ _ _ _ (Or.inr (Or.inr rfl))
          have R3 : RdM0 B (uI (uI (uI t (B + 76) m.2.1.length (-11)) (B + 66) 20 (nI (m.2.1.length + 1))) (B + 77) (cnt 40 m.2.1 + 1) 0) key (true, 40 :: m.2.1, m.2.2) := R2.cgr (fun k _ => uI_ne (by omega)) (fun k => uI_ne (by omega)) (fun k => uI_ne (by omega))
          have T3 : TsM B (uI (uI (uI t (B + 76) m.2.1.length (-11)) (B + 66) 20 (nI (m.2.1.length + 1))) (B + 77) (cnt 40 m.2.1 + 1) 0) (40 :: m.2.1) := by
            intro j hj
            rw [cnt_e] at hj
            rw [tv_40]
            by_cases ej : j = cnt 40 m.2.1 + 1
            · rw [ej, uI_eq, if_pos rfl]
              rfl
            · rw [if_neg ej, uI_ne (by omega), e77]
              exact hS1 j (by omega)
          have w8 : cnt 40 (40 :: m.2.1) ≤ 8 := by rw [cnt_e]; omega
          obtain ⟨u4, k4, F4, hd4⟩ := m_ahead (e := q + 1) (m := (true, 40 :: m.2.1, m.2.2)) ((hT.fx F2).fx F3) R3 T3 w8 (by omega) ((uI_ne (by omega)).trans ((e66 8 (by omega)).trans t8)) (by
            rw [show hI (uI (uI (uI t (B + 76) m.2.1.length (-11)) (B + 66) 20 (nI (m.2.1.length + 1))) (B + 77) (cnt 40 m.2.1 + 1) 0) (B + 66) 12 = hI t (B + 66) 12 from (uI_ne (by omega)).trans (e66 12 (by omega))]
            exact E0)
          refine Or.inr ⟨(q + 1, (true, 40 :: m.2.1, m.2.2)), u4, rfl, ?_, (F2.tr F3).tr F4.fx, hd4⟩
          have m17 := m_172 hd4 ⟨hm.1, Or.inr (Or.inl rfl)⟩ (by show (40 :: m.2.1).length ≤ 96; rw [List.length_cons]; omega) k28 (nI (cnt 40 m.2.1) + 1) (by rw [nI_1]; show _ = nI (cnt 40 (40 :: m.2.1)); rw [cnt_e]) 1 rfl
          unfold f_X7_takesE_b97
          refine bnd (gI_ok L.km) ?_
          rw [t10]
          refine ifp rfl (bnd (gI_ok L.km) ?_)
          rw [t11]
          refine ifp (by rw [c]; rfl) (ifn (nI_ge (b := 8) c2 (by decide)) (bnd L.m19 (bnd (gI_ok L.km) ?_)))
          rw [hR.2.1.1]
          refine bnd (sI_ok m.2.1.length L.k76 rfl (by omega) (by decide)) (bnd (gI_ok (L.u _ _ _).km) ?_)
          rw [uI_ne (by omega), hR.2.1.1, nI_1]
          refine bnd (pI_ok (L.u _ _ _).km) ?_
          rw [show vp_nar .boolean (0 : Int32) = 0 from rfl]
          refine bnd L2.m21 (bnd (sI_ok (cnt 40 m.2.1 + 1) L2.k77 (nI_1 _) (by omega) (by decide)) ?_)
          exact bnd ((cV_ok (L2.u _ _ _).km).trans k4) m17
        · rw [if_neg (fun z => c2 z.2)]
          refine Or.inl ⟨rfl, t, ?_, Fx.rf B t, g9⟩
          unfold f_X7_takesE_b97
          refine bnd (gI_ok L.km) ?_
          rw [t10]
          refine ifp rfl (bnd (gI_ok L.km) ?_)
          rw [t11]
          exact ifp (by rw [c]; rfl) (ifp (nI_le (a := 8) (by omega) (by omega)) pf)
      · rw [if_neg (fun z => c z.1)]
        refine Or.inl ⟨rfl, t, ?_, Fx.rf B t, g9⟩
        unfold f_X7_takesE_b97
        refine bnd (gI_ok L.km) ?_
        rw [t10]
        refine ifp rfl (bnd (gI_ok L.km) ?_)
        rw [t11]
        exact ifn (fun z => c ((nI_eq (b := 40) (by omega) (by decide)).mp z)) pf
    have lift : ∀ o, SM B V n key q t k28 o (f_X7_takesE_b97 k28 (B + 66) (nI (cnt 40 m.2.1)) 1 t) → (∀ X, f_X7_takesE_b97 k28 (B + 66) (nI (cnt 40 m.2.1)) 1 t = X → f_X7_takesE_b28 k28 (B + 66) (nI (cnt 40 m.2.1)) (nI (cnt 33 m.2.1)) (bI true) t = X) → SM B V n key q t k28 o (f_X7_takesE_b28 k28 (B + 66) (nI (cnt 40 m.2.1)) (nI (cnt 33 m.2.1)) (bI true) t) := by
      intro o ho hX
      rcases ho with ⟨y1, u, y2, y3⟩ | ⟨em, u, y1, y2, y3⟩
      · exact Or.inl ⟨y1, u, hX _ y2, y3⟩
      · exact Or.inr ⟨em, u, y1, hX _ y2, y3⟩
    by_cases c1 : V q = 33
    · by_cases c2 : cnt 33 m.2.1 < 8
      · rw [if_pos ⟨c1, c2⟩]
        have R2 := push 33 (Or.inl rfl)
        have F2 : Fx B t (uI (uI t (B + 76) m.2.1.length (wm 33)) (B + 66) 20 (nI (m.2.1.length + 1))) := (Fx.v _ _ _ _ (Or.inr (Or.inl rfl))).tr (Fx.u _ _ _ (by omega))
        have e66 : ∀ k, k ≠ 20 → hI (uI (uI t (B + 76) m.2.1.length (wm 33)) (B + 66) 20 (nI (m.2.1.length + 1))) (B + 66) k = hI t (B + 66) k := fun k hk => by rw [uI_ne (by omega), uI_ne (by omega)]
        have T2 : TsM B (uI (uI t (B + 76) m.2.1.length (wm 33)) (B + 66) 20 (nI (m.2.1.length + 1))) (33 :: m.2.1) := by
          intro j hj
          rw [cnt_n (by decide)] at hj
          rw [tv_33, uI_ne (by omega), uI_ne (by omega)]
          exact hS1 j hj
        obtain ⟨u4, k4, F4, hd4⟩ := m_ahead (e := q + 1) (m := (true, 33 :: m.2.1, m.2.2)) (hT.fx F2) R2 T2 (by rw [cnt_n (by decide)]; exact h8) (by omega) ((e66 8 (by omega)).trans t8) (by
          rw [e66 12 (by omega)]
          exact E0)
        refine Or.inr ⟨(q + 1, (true, 33 :: m.2.1, m.2.2)), u4, rfl, pre _ (ifp (by rw [c1]; rfl) (ifn (nI_ge (b := 8) c2 (by decide)) (bnd L.m19 (bnd (gI_ok L.km) ?_)))), F2.tr F4.fx, hd4⟩
        have m17 := m_172 hd4 ⟨hm.1, Or.inl rfl⟩ (by show (33 :: m.2.1).length ≤ 96; rw [List.length_cons]; omega) k28 (nI (cnt 40 m.2.1)) (by show _ = nI (cnt 40 (33 :: m.2.1)); rw [cnt_n (by decide)]) 1 rfl
        rw [hR.2.1.1]
        refine bnd (sI_ok m.2.1.length L.k76 rfl (by omega) (by decide)) (bnd (gI_ok (L.u _ _ _).km) ?_)
        rw [uI_ne (by omega), hR.2.1.1, nI_1]
        refine bnd (pI_ok (L.u _ _ _).km) ?_
        rw [wm_33] at k4
        exact bnd ((cV_ok ((L.u _ _ _).u _ _ _).km).trans k4) m17
      · rw [if_neg (fun z => c2 z.2)]
        exact lift _ b97 (fun X hX => pre _ (ifp (by rw [c1]; rfl) (ifp (nI_le (a := 8) (by omega) (by omega)) hX)))
    · rw [if_neg (fun z => c1 z.1)]
      exact lift _ b97 (fun X hX => pre _ (ifn (fun z => c1 ((nI_eq (b := 33) (by omega) (by decide)).mp z)) hX))
end HP
