section RE
variable {B : Nat}
theorem RdC.push {s : hS} {key x : Nat} {m : Mt} (h : RdC B s key m) (n40 : x ≠ 40) (n33 : x ≠ 33) : RdC B (uI (uI s (B + 38) m.2.1.length (nI x)) (B + 34) 4 (nI (m.2.1.length + 1))) key (m.1, x :: m.2.1, m.2.2) := by
  obtain ⟨⟨h1, h2⟩, ⟨h3, h4⟩, ⟨h5, h6⟩, h7, h8, h9⟩ := h
  have e : ∀ k, k ≠ 4 → hI (uI (uI s (B + 38) m.2.1.length (nI x)) (B + 34) 4 (nI (m.2.1.length + 1))) (B + 34) k = hI s (B + 34) k := fun k hk => by rw [uI_ne (by omega), uI_ne (by omega)]
  refine ⟨⟨(e _ (by omega)).trans h1, fun i hi => ?_⟩, ⟨uI_eq _ _ _ _, ?_, ?_⟩, ⟨(e _ (by omega)).trans h5, (e _ (by omega)).trans h6⟩, (e _ (by omega)).trans ?_, (e _ (by omega)).trans ?_, (e _ (by omega)).trans h9⟩
  · rw [uI_ne (by omega), uI_ne (by omega)]; exact h2 i hi
  · rw [uI_ne (by omega), uI_eq]
  · refine stk_cg m.2.1 (fun i hi => ?_) h4
    rw [uI_ne (by omega), uI_ne (by omega)]
  · show _ = nI (cnt 40 (x :: m.2.1))
    rw [cnt_n n40]; exact h7
  · show _ = nI (cnt 33 (x :: m.2.1))
    rw [cnt_n n33]; exact h8
theorem RdC.push33 {s : hS} {key : Nat} {m : Mt} (h : RdC B s key m) : RdC B (uI (uI (uI s (B + 34) 8 (nI (cnt 33 m.2.1 + 1))) (B + 38) m.2.1.length (nI 33)) (B + 34) 4 (nI (m.2.1.length + 1))) key (m.1, 33 :: m.2.1, m.2.2) := by
  obtain ⟨⟨h1, h2⟩, ⟨h3, h4⟩, ⟨h5, h6⟩, h7, h8, h9⟩ := h
  have e : ∀ k, k ≠ 4 → k ≠ 8 → hI (uI (uI (uI s (B + 34) 8 (nI (cnt 33 m.2.1 + 1))) (B + 38) m.2.1.length (nI 33)) (B + 34) 4 (nI (m.2.1.length + 1))) (B + 34) k = hI s (B + 34) k := fun k hk hk2 => by rw [uI_ne (by omega), uI_ne (by omega), uI_ne (by omega)]
  refine ⟨⟨(e _ (by omega) (by omega)).trans h1, fun i hi => ?_⟩, ⟨uI_eq _ _ _ _, ?_, ?_⟩, ⟨(e _ (by omega) (by omega)).trans h5, (e _ (by omega) (by omega)).trans h6⟩, (e _ (by omega) (by omega)).trans ?_, ?_, (e _ (by omega) (by omega)).trans h9⟩
  · rw [uI_ne (by omega), uI_ne (by omega), uI_ne (by omega)]; exact h2 i hi
  · rw [uI_ne (by omega), uI_eq]
  · refine stk_cg m.2.1 (fun i hi => ?_) h4
    rw [uI_ne (by omega), uI_ne (by omega), uI_ne (by omega)]
  · show _ = nI (cnt 40 (33 :: m.2.1))
    rw [cnt_n (by decide)]; exact h7
  · show _ = nI (cnt 33 (33 :: m.2.1))
    rw [cnt_e, uI_ne (by omega), uI_ne (by omega), uI_eq]
theorem RdC.push40 {s : hS} {key : Nat} {m : Mt} (h : RdC B s key m) : RdC B (uI (uI (uI s (B + 34) 7 (nI (cnt 40 m.2.1 + 1))) (B + 38) m.2.1.length (nI 40)) (B + 34) 4 (nI (m.2.1.length + 1))) key (m.1, 40 :: m.2.1, m.2.2) := by
  obtain ⟨⟨h1, h2⟩, ⟨h3, h4⟩, ⟨h5, h6⟩, h7, h8, h9⟩ := h
  have e : ∀ k, k ≠ 4 → k ≠ 7 → hI (uI (uI (uI s (B + 34) 7 (nI (cnt 40 m.2.1 + 1))) (B + 38) m.2.1.length (nI 40)) (B + 34) 4 (nI (m.2.1.length + 1))) (B + 34) k = hI s (B + 34) k := fun k hk hk2 => by rw [uI_ne (by omega), uI_ne (by omega), uI_ne (by omega)]
  refine ⟨⟨(e _ (by omega) (by omega)).trans h1, fun i hi => ?_⟩, ⟨uI_eq _ _ _ _, ?_, ?_⟩, ⟨(e _ (by omega) (by omega)).trans h5, (e _ (by omega) (by omega)).trans h6⟩, ?_, (e _ (by omega) (by omega)).trans ?_, (e _ (by omega) (by omega)).trans h9⟩
  · rw [uI_ne (by omega), uI_ne (by omega), uI_ne (by omega)]; exact h2 i hi
  · rw [uI_ne (by omega), uI_eq]
  · refine stk_cg m.2.1 (fun i hi => ?_) h4
    rw [uI_ne (by omega), uI_ne (by omega), uI_ne (by omega)]
  · show _ = nI (cnt 40 (40 :: m.2.1))
    rw [cnt_e, uI_ne (by omega), uI_ne (by omega), uI_eq]
  · show _ = nI (cnt 33 (40 :: m.2.1))
    rw [cnt_n (by decide)]; exact h8
theorem RdC.pop40 {s : hS} {key : Nat} {w : Bool} {r : List Nat} {y : (Nat → Int32) × Nat × Nat} (h : RdC B s key (w, 40 :: r, y)) : RdC B (uI (uI s (B + 34) 4 (nI r.length)) (B + 34) 7 (nI (cnt 40 r))) key (w, r, y) := by
  obtain ⟨⟨h1, h2⟩, ⟨h3, h4⟩, ⟨h5, h6⟩, h7, h8, h9⟩ := h
  have e : ∀ k, k ≠ 4 → k ≠ 7 → hI (uI (uI s (B + 34) 4 (nI r.length)) (B + 34) 7 (nI (cnt 40 r))) (B + 34) k = hI s (B + 34) k := fun k hk hk2 => by rw [uI_ne (by omega), uI_ne (by omega)]
  refine ⟨⟨(e _ (by omega) (by omega)).trans h1, fun i hi => ?_⟩, ⟨?_, ?_⟩, ⟨(e _ (by omega) (by omega)).trans h5, (e _ (by omega) (by omega)).trans h6⟩, uI_eq _ _ _ _, (e _ (by omega) (by omega)).trans (h8.trans ?_), (e _ (by omega) (by omega)).trans h9⟩
  · rw [uI_ne (by omega), uI_ne (by omega)]; exact h2 i hi
  · rw [uI_ne (by omega), uI_eq]
  · refine stk_cg r (fun i hi => ?_) h4.2
    rw [uI_ne (by omega), uI_ne (by omega)]
  · show nI (cnt 33 (40 :: r)) = nI (cnt 33 r)
    rw [cnt_n (by decide)]
def CM (B key : Nat) (s : hS) (o : Option (Nat × Mt)) (r : Option (Int32 × hS)) : Prop := ∃ s', Sx (RP B) s s' ∧ ((o = none ∧ r = some (-1, s')) ∨ ∃ em, o = some em ∧ r = some (nI em.1, s') ∧ RdC B s' key em.2)
theorem c_piece {s : hS} {V : Nat → Nat} {n key q : Nat} {m : Mt} (h : TpC B s V n) (hR : RdC B s key m) (hm : MI key q m) (hw : m.1 = true) (hk : key < 3) (hq : q < n) : CM B key s (pieceM V n key q m) (f_X0_takePiece s (B + 34) (nI q)) := by
  have L := h.1
  have h96 := h.2.1
  have wb := wd_b (V := V) hq
  have vb := (h.2.2.2 q hq).1
  have hl := hm.2.2.1
  have hb := wf_b hm.1
  have pre : ∀ X, (if bI (isD (V q)) = 0 then (gR s (B + 34) 0 0).bind fun a7 => (cV s a7 3 (f_X3_hasLetter s a7 (nI q))).bind fun p8 => if p8.1 = 0 then (if nI (V q) = (33 : Int32) then (gI p8.2 (B + 34) 0 8).bind fun x9 => if (8 : Int32) ≤ x9 then f_X0_takePiece_b127 (B + 34) (nI (wd V n q)) (nI (V q)) p8.2 else (gI p8.2 (B + 34) 0 8).bind fun x10 => (pI p8.2 (B + 34) 0 8 (x10 + (1 : Int32))).bind fun s11 => (cV s11 (B + 34) 0 (f_X0_pileUp s11 (B + 34) (nI (V q)))).bind fun p12 => some (nI (wd V n q), p12.2) else f_X0_takePiece_b127 (B + 34) (nI (wd V n q)) (nI (V q)) p8.2) else (if (1 : Int32) < nI (wd V n q - q) then some ((-1 : Int32), p8.2) else (cV p8.2 (B + 34) 0 (f_X0_nameOf p8.2 (B + 34) (nI (V q)))).bind fun p13 => if p13.1 = 0 then some ((-1 : Int32), p13.2) else (cV p13.2 (B + 34) 0 (f_X0_nameOf p13.2 (B + 34) (nI (V q)))).bind fun p14 => (cV p14.2 (B + 34) 0 (f_X0_putLeaf p14.2 (B + 34) p14.1)).bind fun p15 => some (nI (wd V n q), p15.2)) else (if nI (wd V n q - q) ≤ (4 : Int32) then (gR s (B + 34) 0 0).bind fun a16 => (cV s a16 3 (f_X3_numberAt s a16 (nI q) (nI (wd V n q)))).bind fun p17 => (cV p17.2 (B + 34) 0 (f_X0_putLeaf p17.2 (B + 34) p17.1)).bind fun p18 => some (nI (wd V n q), p18.2) else some ((-1 : Int32), s))) = X → f_X0_takePiece s (B + 34) (nI q) = X := by
    intro X hX
    unfold f_X0_takePiece
    refine bnd L.q0 (bnd ((cV_ok L.k35).trans (c_wd h hq)) (bnd L.q0 (bnd ((cV_ok L.k35).trans (c_at h hq)) (bnd L.q0 (bnd ((cV_ok L.k35).trans (c_dig h hq)) ?_)))))
    rw [pk_sub (by omega)]
    exact hX
  unfold pieceM
  cases d : isD (V q)
  · rw [if_neg (show ¬ (false = true) by decide)]
    have el := (cV_ok L.k35).trans (c_let h hq)
    cases l : isL (V q)
    · rw [if_neg (show ¬ (false = true) by decide)]
      rw [l] at el
      have ew : wd V n q = q + 1 := by
        unfold wd
        rw [l, d, if_neg (by decide), if_neg (by decide)]
      have c33 := cnt_le 33 m.2.1
      have c40 := cnt_le 40 m.2.1
      have b127 : CM B key s (if V q = 40 ∧ cnt 40 m.2.1 < 8 then some (q + 1, (true, 40 :: m.2.1, m.2.2)) else none) (f_X0_takePiece_b127 (B + 34) (nI (wd V n q)) (nI (V q)) s) := by
        unfold f_X0_takePiece_b127
        by_cases c : V q = 40
        · by_cases c2 : cnt 40 m.2.1 < 8
          · rw [if_pos ⟨c, c2⟩]
            refine ⟨uI (uI (uI s (B + 34) 7 (nI (cnt 40 m.2.1 + 1))) (B + 38) m.2.1.length (nI 40)) (B + 34) 4 (nI (m.2.1.length + 1)), ((Sx.u _ _ _ _ RP.a).tr (Sx.u _ _ _ _ RP.c)).tr (Sx.u _ _ _ _ RP.a), Or.inr ⟨_, rfl, ?_, ?_⟩⟩
            · refine ifp (by rw [c]; rfl) (bnd (gI_ok L.k34) ?_)
              rw [hR.2.2.2.1]
              refine ifn (nI_ge (b := 8) c2 (by decide)) (bnd (gI_ok L.k34) ?_)
              rw [hR.2.2.2.1, nI_1]
              refine bnd (pI_ok L.k34) (bnd ((cV_ok (L.u _ _ _).k34).trans (c_pile (l := m.2.1.length) (x := V q) (L.u _ _ _) ((uI_ne (by omega)).trans hR.2.1.1) (by omega))) ?_)
              rw [c, ew]
            · have := hR.push40
              rw [hw] at this
              exact this
          · rw [if_neg (fun z => c2 z.2)]
            refine ⟨s, Sx.rf _ s, Or.inl ⟨rfl, ?_⟩⟩
            refine ifp (by rw [c]; rfl) (bnd (gI_ok L.k34) ?_)
            rw [hR.2.2.2.1]
            exact ifp (nI_le (a := 8) (by omega) (by omega)) rfl
        · rw [if_neg (fun z => c z.1)]
          exact ⟨s, Sx.rf _ s, Or.inl ⟨rfl, ifn (fun z => c ((nI_eq (b := 40) (by omega) (by decide)).mp z)) rfl⟩⟩
      by_cases c1 : V q = 33
      · by_cases c2 : cnt 33 m.2.1 < 8
        · rw [if_pos ⟨c1, c2⟩]
          refine ⟨uI (uI (uI s (B + 34) 8 (nI (cnt 33 m.2.1 + 1))) (B + 38) m.2.1.length (nI 33)) (B + 34) 4 (nI (m.2.1.length + 1)), ((Sx.u _ _ _ _ RP.a).tr (Sx.u _ _ _ _ RP.c)).tr (Sx.u _ _ _ _ RP.a), Or.inr ⟨_, rfl, pre _ ?_, ?_⟩⟩
          · rw [d]
            refine ifp rfl (bnd L.q0 (bnd el (ifp rfl (ifp (by rw [c1]; rfl) (bnd (gI_ok L.k34) ?_)))))
            rw [hR.2.2.2.2.1]
            refine ifn (nI_ge (b := 8) c2 (by decide)) (bnd (gI_ok L.k34) ?_)
            rw [hR.2.2.2.2.1, nI_1]
            refine bnd (pI_ok L.k34) (bnd ((cV_ok (L.u _ _ _).k34).trans (c_pile (l := m.2.1.length) (x := V q) (L.u _ _ _) ((uI_ne (by omega)).trans hR.2.1.1) (by omega))) ?_)
            rw [c1, ew]
          · have := hR.push33
            rw [hw] at this
            exact this
        · rw [if_neg (fun z => c2 z.2)]
          obtain ⟨s', x1, z⟩ := b127
          have go : ∀ X, f_X0_takePiece_b127 (B + 34) (nI (wd V n q)) (nI (V q)) s = X → f_X0_takePiece s (B + 34) (nI q) = X := by
            intro X hX
            refine pre _ ?_
            rw [d]
            refine ifp rfl (bnd L.q0 (bnd el (ifp rfl (ifp (by rw [c1]; rfl) (bnd (gI_ok L.k34) ?_)))))
            rw [hR.2.2.2.2.1]
            exact ifp (nI_le (a := 8) (by omega) (by omega)) hX
          rcases z with ⟨z1, z2⟩ | ⟨em, z1, z2, z3⟩
          · exact ⟨s', x1, Or.inl ⟨z1, go _ z2⟩⟩
          · exact ⟨s', x1, Or.inr ⟨em, z1, go _ z2, z3⟩⟩
      · rw [if_neg (fun z => c1 z.1)]
        obtain ⟨s', x1, z⟩ := b127
        have go : ∀ X, f_X0_takePiece_b127 (B + 34) (nI (wd V n q)) (nI (V q)) s = X → f_X0_takePiece s (B + 34) (nI q) = X := by
          intro X hX
          refine pre _ ?_
          rw [d]
          exact ifp rfl (bnd L.q0 (bnd el (ifp rfl (ifn (fun z => c1 ((nI_eq (b := 33) (by omega) (by decide)).mp z)) hX))))
        rcases z with ⟨z1, z2⟩ | ⟨em, z1, z2, z3⟩
        · exact ⟨s', x1, Or.inl ⟨z1, go _ z2⟩⟩
        · exact ⟨s', x1, Or.inr ⟨em, z1, go _ z2, z3⟩⟩
    · rw [if_pos rfl]
      rw [l] at el
      have nm := (cV_ok L.k34).trans (c_nam (v := V q) L hR.2.2.1.1 hk vb)
      by_cases c1 : wd V n q - q ≤ 1
      · by_cases c2 : nmC key (V q) = 0
        · rw [if_neg (fun z => z.2 c2)]
          refine ⟨s, Sx.rf _ s, Or.inl ⟨rfl, pre _ ?_⟩⟩
          rw [d]
          exact ifp rfl (bnd L.q0 (bnd el (ifn one_ne (ifn (nI_nlt (a := 1) c1 (by omega)) (bnd nm (ifp c2 rfl))))))
        · rw [if_pos ⟨c1, c2⟩]
          obtain ⟨s', k1, r1, x1⟩ := c_leaf (v := nmC key (V q)) L hR (by omega) hb
          refine ⟨s', x1, Or.inr ⟨_, rfl, pre _ ?_, r1⟩⟩
          rw [d]
          exact ifp rfl (bnd L.q0 (bnd el (ifn one_ne (ifn (nI_nlt (a := 1) c1 (by omega)) (bnd nm (ifn c2 (bnd nm (bnd ((cV_ok L.k34).trans k1) rfl))))))))
      · rw [if_neg (fun z => c1 z.1)]
        refine ⟨s, Sx.rf _ s, Or.inl ⟨rfl, pre _ ?_⟩⟩
        rw [d]
        exact ifp rfl (bnd L.q0 (bnd el (ifn one_ne (ifp (nI_lt (a := 1) (by omega) (by omega)) rfl))))
  · rw [if_pos rfl]
    by_cases c : wd V n q - q ≤ 4
    · rw [if_pos c]
      have hd : ∀ j, q ≤ j → j < wd V n q → isD (V j) = true := by
        intro j h1 h2
        have el : isL (V q) = false := by
          unfold isD at d
          unfold isL
          rw [Bool.and_eq_true] at d
          have := of_decide_eq_true d.2
          rw [decide_eq_false (by omega : ¬ 97 ≤ V q)]
          rfl
        unfold wd at h2
        rw [el, if_neg (show ¬ (false = true) by decide), d, if_pos rfl] at h2
        exact skp_all _ _ j h1 h2
      obtain ⟨s', k1, r1, x1⟩ := c_leaf (v := nI (nmb V q (wd V n q - q))) L hR (by omega) hb
      refine ⟨s', x1, Or.inr ⟨_, rfl, pre _ ?_, r1⟩⟩
      rw [d]
      exact ifn one_ne (ifp (nI_le (b := 4) c (by decide)) (bnd L.q0 (bnd ((cV_ok L.k35).trans (c_num h (by omega) wb.2 hd)) (bnd ((cV_ok L.k34).trans k1) rfl))))
    · rw [if_neg c]
      refine ⟨s, Sx.rf _ s, Or.inl ⟨rfl, pre _ ?_⟩⟩
      rw [d]
      exact ifn one_ne (ifn (nI_ge (a := 4) (by omega) (by omega)) rfl)
theorem c_sign {s : hS} {V : Nat → Nat} {n key q : Nat} {m : Mt} (h : TpC B s V n) (hR : RdC B s key m) (hm : MI key q m) (hw : m.1 = false) (hq : q < n) : CM B key s (signM V q m) (f_X0_takeSign s (B + 34) (nI q)) := by
  have L := h.1
  have h96 := h.2.1
  have vb := (h.2.2.2 q hq).1
  have hl := hm.2.2.1
  have hb := wf_b hm.1
  have c40 := cnt_le 40 m.2.1
  have a1 := (cV_ok L.k35).trans (c_at h hq)
  obtain ⟨w, p, f, c, a⟩ := m
  dsimp only at hw hl hb c40
  subst hw
  unfold signM
  by_cases e1 : V q = 41
  · rw [if_pos e1]
    by_cases e2 : cnt 40 p = 0
    · rw [if_pos e2]
      refine ⟨s, Sx.rf _ s, Or.inl ⟨rfl, ?_⟩⟩
      unfold f_X0_takeSign
      refine bnd L.q0 (bnd a1 (ifp (by rw [e1]; rfl) (bnd (gI_ok L.k34) ?_)))
      rw [hR.2.2.2.1]
      exact ifp (by show nI (cnt 40 p) = 0; rw [e2]; rfl) rfl
    · rw [if_neg e2]
      obtain ⟨mi, r, er, e40, e33⟩ := cls_inv hm rfl e2
      dsimp only at er e40 e33
      obtain ⟨s1, k1, r1, x1⟩ := c_rel (k := 1) (by decide) (by decide) p f c s jF L hR hm.1 (by omega) (by unfold jF; omega)
      have L1 := L.sx x1
      rw [er] at r1
      have r2 := r1.pop40
      have L2 : Lay B (uI (uI s1 (B + 34) 4 (nI r.length)) (B + 34) 7 (nI (cnt 40 r))) := (L1.u _ _ _).u _ _ _
      have ri := rel_inv (key := key) (k := 1) (by decide) p f c hm.1 (hm.2.1 rfl) hm.2.2.2.1 hm.2.2.2.2
      rw [er, List.length_cons] at ri
      have rl := ri.2.2.2.2.1
      have wr := ri.1
      obtain ⟨s3, k3, r3, x3⟩ := c_end L2 r2 (by show (rel 1 p f c).2.2 + r.length ≤ 96; omega) (wf_b wr.1)
      refine ⟨s3, ((x1.tr (Sx.u _ _ _ _ RP.a)).tr (Sx.u _ _ _ _ RP.a)).tr x3, Or.inr ⟨_, rfl, ?_, ?_⟩⟩
      · unfold f_X0_takeSign
        refine bnd L.q0 (bnd a1 (ifp (by rw [e1]; rfl) (bnd (gI_ok L.k34) ?_)))
        rw [hR.2.2.2.1]
        refine ifn (nI_ne0 (n := cnt 40 p) (by omega) (by omega)) (bnd (gI_ok L.k34) ?_)
        rw [hR.2.1.1]
        refine ifn (nI_ne0 (n := p.length) (by omega) (by omega)) (bnd ((cV_ok L.k34).trans k1) (bnd (gI_ok L1.k34) ?_))
        rw [r1.2.1.1]
        show ((pI s1 (B + 34) 0 4 (nI (r.length + 1) - 1)).bind _) = _
        rw [nI_pred]
        refine bnd (pI_ok L1.k34) (bnd (gI_ok (L1.u _ _ _).k34) ?_)
        rw [uI_ne (by omega), r1.2.2.2.1]
        show ((pI _ (B + 34) 0 7 (nI (cnt 40 (40 :: r)) - 1)).bind _) = _
        rw [cnt_e, nI_pred]
        refine bnd (pI_ok (L1.u _ _ _).k34) (bnd ((cV_ok L2.k34).trans k3) ?_)
        rw [nI_1]
      · unfold clsM
        dsimp only
        rw [er]
        exact r3
  · rw [if_neg e1]
    have n41 : ¬ nI (V q) = 41 := fun z => e1 ((nI_eq (b := 41) (by omega) (by decide)).mp z)
    have rkO := (cV_ok L.k34).trans (c_rkO (B := B) (s := s) vb)
    have r5 := rk_le (V q)
    by_cases e2 : rk (V q) = 0
    · rw [if_pos e2]
      refine ⟨s, Sx.rf _ s, Or.inl ⟨rfl, ?_⟩⟩
      unfold f_X0_takeSign
      exact bnd L.q0 (bnd a1 (ifn n41 (bnd rkO (ifp (by show nI (rk (V q)) = 0; rw [e2]; rfl) rfl))))
    · rw [if_neg e2]
      have kk : 1 ≤ rkk (V q) ∧ rkk (V q) ≤ 5 := by unfold rkk; split <;> omega
      obtain ⟨s1, k1, r1, x1⟩ := c_rel (k := rkk (V q)) kk.1 kk.2 p f c s jF L hR hm.1 (by omega) (by unfold jF; omega)
      have L1 := L.sx x1
      have ri := rel_inv (key := key) kk.1 p f c hm.1 (hm.2.1 rfl) hm.2.2.2.1 hm.2.2.2.2
      have rl := ri.2.2.2.2.1
      have xc := rk_c (show 1 ≤ rk (V q) by omega)
      have pu := c_pile (x := V q) (l := (rel (rkk (V q)) p f c).1.length) L1 r1.2.1.1 (by omega)
      have r2 := (r1.push (x := V q) (by omega) (by omega)).w9 true
      have b107 : f_X0_takeSign_b107 (B + 34) (nI q) (nI (V q)) s1 = some (nI (q + 1), uI (uI (uI s1 (B + 38) (rel (rkk (V q)) p f c).1.length (nI (V q))) (B + 34) 4 (nI ((rel (rkk (V q)) p f c).1.length + 1))) (B + 34) 9 1) := by
        unfold f_X0_takeSign_b107
        refine bnd ((cV_ok L1.k34).trans pu) (bnd (pZ_ok ((L1.u _ _ _).u _ _ _).k34 (Or.inr rfl)) ?_)
        rw [nI_1]
      have X : Sx (RP B) s (uI (uI (uI s1 (B + 38) (rel (rkk (V q)) p f c).1.length (nI (V q))) (B + 34) 4 (nI ((rel (rkk (V q)) p f c).1.length + 1))) (B + 34) 9 1) := ((x1.tr (Sx.u _ _ _ _ RP.c)).tr (Sx.u _ _ _ _ RP.a)).tr (Sx.u _ _ _ _ RP.a)
      by_cases e3 : rk (V q) = 3
      · have e4 : rkk (V q) = 4 := if_pos e3
        rw [e4] at k1 r1 rl pu r2 b107 X ri
        have tr := c_top L1 r1 ri.1 (by show (rel 4 p f c).1.length ≤ 96; omega)
        dsimp only at tr
        have pre : ∀ X, (if nI (rk (hd0 (rel 4 p f c).1)) = (3 : Int32) then some ((-1 : Int32), s1) else f_X0_takeSign_b107 (B + 34) (nI q) (nI (V q)) s1) = X → f_X0_takeSign s (B + 34) (nI q) = X := by
          intro X hX
          unfold f_X0_takeSign f_X0_takeSign_b89
          refine bnd L.q0 (bnd a1 (ifn n41 (bnd rkO (ifn (nI_ne0 (by omega) (by omega)) (ifp (by show nI (rk (V q)) = 3; rw [e3]; rfl) (bnd (x := ((), s1)) ((cV_ok L.k34).trans ?_) (ifp (by show nI (rk (V q)) = 3; rw [e3]; rfl) (bnd ((cV_ok L1.k34).trans tr) hX))))))))
          show f_X0_release s (B + 34) (nI (rk (V q)) + 1) = _
          rw [e3, nI_1]
          exact k1
        by_cases e5 : rk (hd0 (rel 4 p f c).1) = 3
        · rw [if_pos ⟨e3, e5⟩]
          exact ⟨s1, x1, Or.inl ⟨rfl, pre _ (ifp (by rw [e5]; rfl) rfl)⟩⟩
        · rw [if_neg (fun z => e5 z.2)]
          have r6 := rk_le (hd0 (rel 4 p f c).1)
          refine ⟨_, X, Or.inr ⟨_, rfl, pre _ (ifn (fun z => e5 ((nI_eq (b := 3) (by omega) (by decide)).mp z)) b107), ?_⟩⟩
          unfold sgnM
          dsimp only
          rw [e4]
          exact r2
      · have e4 : rkk (V q) = rk (V q) := if_neg e3
        rw [if_neg (fun z => e3 z.1)]
        have n3 : ¬ nI (rk (V q)) = 3 := fun z => e3 ((nI_eq (b := 3) (by omega) (by decide)).mp z)
        refine ⟨_, X, Or.inr ⟨_, rfl, ?_, r2⟩⟩
        unfold f_X0_takeSign f_X0_takeSign_b89
        refine bnd L.q0 (bnd a1 (ifn n41 (bnd rkO (ifn (nI_ne0 (by omega) (by omega)) (ifn n3 (bnd (x := ((), s1)) ((cV_ok L.k34).trans ?_) (ifn n3 b107)))))))
        show f_X0_release s (B + 34) (nI (rk (V q))) = _
        rw [← e4]
        exact k1
theorem c_step {s : hS} {V : Nat → Nat} {n key q : Nat} {m : Mt} (h : TpC B s V n) (hR : RdC B s key m) (hm : MI key q m) (hk : key < 3) (hq : q < n) (k : kr2) (l3 : Nat) : ∃ s', Sx (RP B) s s' ∧ ((stpM V n key q m = none ∧ (if bI m.1 = 0 then (cV s (B + 34) 0 (f_X0_takeSign s (B + 34) (nI q))).bind fun p6 => f_X0_findFault_b132 k (B + 34) (nI q) (nI l3) p6.1 p6.2 else (cV s (B + 34) 0 (f_X0_takePiece s (B + 34) (nI q))).bind fun p7 => f_X0_findFault_b132 k (B + 34) (nI q) (nI l3) p7.1 p7.2) = some (nI q, s')) ∨ ∃ em, stpM V n key q m = some em ∧ (if bI m.1 = 0 then (cV s (B + 34) 0 (f_X0_takeSign s (B + 34) (nI q))).bind fun p6 => f_X0_findFault_b132 k (B + 34) (nI q) (nI l3) p6.1 p6.2 else (cV s (B + 34) 0 (f_X0_takePiece s (B + 34) (nI q))).bind fun p7 => f_X0_findFault_b132 k (B + 34) (nI q) (nI l3) p7.1 p7.2) = k (B + 34) (nI em.1) (nI (l3 + 1)) s' ∧ RdC B s' key em.2) := by
  have L := h.1
  have h96 := h.2.1
  unfold stpM f_X0_findFault_b132
  cases e : m.1
  · rw [if_neg (show ¬ (false = true) by decide)]
    obtain ⟨s', x1, z⟩ := c_sign h hR hm e hq
    refine ⟨s', x1, ?_⟩
    rcases z with ⟨z1, z2⟩ | ⟨em, z1, z2, z3⟩
    · exact Or.inl ⟨z1, ifp rfl (bnd ((cV_ok L.k34).trans z2) (ifp rfl rfl))⟩
    · have b := sign_inv hq hm e z1
      refine Or.inr ⟨em, z1, ifp rfl (bnd ((cV_ok L.k34).trans z2) (ifn (nI_nn (by omega) (by decide)) ?_)), z3⟩
      rw [nI_1]
  · rw [if_pos rfl]
    obtain ⟨s', x1, z⟩ := c_piece h hR hm e hk hq
    refine ⟨s', x1, ?_⟩
    rcases z with ⟨z1, z2⟩ | ⟨em, z1, z2, z3⟩
    · exact Or.inl ⟨z1, ifn one_ne (bnd ((cV_ok L.k34).trans z2) (ifp rfl rfl))⟩
    · have b := piece_inv hq hm e z1
      refine Or.inr ⟨em, z1, ifn one_ne (bnd ((cV_ok L.k34).trans z2) (ifn (nI_nn (by omega) (by decide)) ?_)), z3⟩
      rw [nI_1]
/-- what the reading brings -/
def CF (B key : Nat) (s : hS) (o : Nat ⊕ ((Nat → Int32) × Nat × Nat)) (r : Option (Int32 × hS)) : Prop := ∃ s', Sx (RP B) s s' ∧ ((∃ q, o = .inl q ∧ r = some (nI q, s')) ∨ ∃ f c a, o = .inr (f, c, a) ∧ r = some (-1, s') ∧ hI s' (B + 34) 2 = nI c ∧ (∀ i, i < c → hI s' (B + 37) i = f i) ∧ hI s' (B + 34) 5 = nI key ∧ hI s' (B + 34) 6 = nI a)
theorem c_run {V : Nat → Nat} {n key : Nat} (hk : key < 3) : ∀ d e l3 m s fuel, TpC B s V n → RdC B s key m → MI key e m → e ≤ n → n < e + d → l3 + 4 ≤ e → d < fuel → CF B key s (runM V n key d e m) (jL f_X0_findFault_b83 (fun _ _ _ _ => none) fuel (B + 34) (nI e) (nI l3) s)
  | 0, e, l3, m, s, fuel, h, hR, hm, he, hd, hl, hf => by omega
  | d + 1, e, l3, m, s, fuel + 1, h, hR, hm, he, hd, hl, hf => by
    have L := h.1
    have h96 := h.2.1
    have bb := bl_b (V := V) he
    have pre : ∀ X, (if nI (bl V n e) < nI n then (if bI m.1 = 0 then (cV s (B + 34) 0 (f_X0_takeSign s (B + 34) (nI (bl V n e)))).bind fun p6 => f_X0_findFault_b132 (jL f_X0_findFault_b83 (fun _ _ _ _ => none) fuel) (B + 34) (nI (bl V n e)) (nI l3) p6.1 p6.2 else (cV s (B + 34) 0 (f_X0_takePiece s (B + 34) (nI (bl V n e)))).bind fun p7 => f_X0_findFault_b132 (jL f_X0_findFault_b83 (fun _ _ _ _ => none) fuel) (B + 34) (nI (bl V n e)) (nI l3) p7.1 p7.2) else f_X0_findFault_b146 (B + 34) s) = X → jL f_X0_findFault_b83 (fun _ _ _ _ => none) (fuel + 1) (B + 34) (nI e) (nI l3) s = X := by
      intro X hX
      show f_X0_findFault_b83 (jL f_X0_findFault_b83 (fun _ _ _ _ => none) fuel) (B + 34) (nI e) (nI l3) s = X
      unfold f_X0_findFault_b83
      refine ifn (nI_ge (b := 96) (by omega) (by decide)) (bnd L.q0 (bnd ((cV_ok L.k35).trans (c_blk h he)) (bnd L.q0 (bnd (gI_ok L.k35) ?_))))
      rw [h.2.2.1]
      show (if nI (bl V n e) < nI n then (gI s (B + 34) 0 9).bind _ else _) = X
      by_cases q : nI (bl V n e) < nI n
      · rw [if_pos q] at hX ⊢
        refine bnd (gI_ok L.k34) ?_
        rw [hR.2.2.2.2.2]
        exact hX
      · rw [if_neg q] at hX ⊢
        exact hX
    by_cases c : n ≤ bl V n e
    · have er : runM V n key (d + 1) e m = (if m.1 = true ∨ cnt 40 m.2.1 ≠ 0 then .inl n else .inr ((rel 1 m.2.1 m.2.2.1 m.2.2.2.1).2.1, (rel 1 m.2.1 m.2.2.1 m.2.2.2.1).2.2, m.2.2.2.2)) := if_pos c
      rw [er]
      have nl : ¬ nI (bl V n e) < nI n := nI_nlt c (by omega)
      by_cases w : m.1 = true
      · rw [if_pos (Or.inl w)]
        refine ⟨s, Sx.rf _ s, Or.inl ⟨n, rfl, pre _ (ifn nl ?_)⟩⟩
        unfold f_X0_findFault_b146
        refine bnd (gI_ok L.k34) ?_
        rw [hR.2.2.2.2.2, w]
        refine ifn one_ne (bnd L.q0 (bnd (gI_ok L.k35) ?_))
        rw [h.2.2.1]
      · have w' : m.1 = false := by
          cases z : m.1
          · rfl
          · exact absurd z w
        have c40 := cnt_le 40 m.2.1
        have hl2 := hm.2.2.1
        by_cases b : cnt 40 m.2.1 = 0
        · rw [if_neg (by rintro (z | z); exact w z; exact z b)]
          obtain ⟨s1, k1, r1, x1⟩ := c_rel (k := 1) (by decide) (by decide) m.2.1 m.2.2.1 m.2.2.2.1 s jF L (show RdC B s key (m.1, m.2.1, m.2.2.1, m.2.2.2.1, m.2.2.2.2) from hR) hm.1 (by omega) (by unfold jF; omega)
          refine ⟨s1, x1, Or.inr ⟨_, _, _, rfl, pre _ (ifn nl ?_), r1.1.1, r1.1.2, r1.2.2.1.1, r1.2.2.1.2⟩⟩
          unfold f_X0_findFault_b146
          refine bnd (gI_ok L.k34) ?_
          rw [hR.2.2.2.2.2, w']
          refine ifp rfl (bnd (gI_ok L.k34) ?_)
          rw [hR.2.2.2.1, b]
          exact ifp (show nI 0 ≤ 0 by decide) (bnd ((cV_ok L.k34).trans k1) rfl)
        · rw [if_pos (Or.inr b)]
          refine ⟨s, Sx.rf _ s, Or.inl ⟨n, rfl, pre _ (ifn nl ?_)⟩⟩
          unfold f_X0_findFault_b146
          refine bnd (gI_ok L.k34) ?_
          rw [hR.2.2.2.2.2, w']
          refine ifp rfl (bnd (gI_ok L.k34) ?_)
          rw [hR.2.2.2.1]
          refine ifn (nI_nle (by omega) (by omega)) (bnd L.q0 (bnd (gI_ok L.k35) ?_))
          rw [h.2.2.1]
    · have lt : nI (bl V n e) < nI n := nI_lt (by omega) (by omega)
      obtain ⟨s', x1, z⟩ := c_step h hR (hm.mono bb.1) hk (by omega) (jL f_X0_findFault_b83 (fun _ _ _ _ => none) fuel) l3
      rcases z with ⟨z1, z2⟩ | ⟨em, z1, z2, z3⟩
      · have er : runM V n key (d + 1) e m = .inl (bl V n e) := by
          conv => lhs; unfold runM
          rw [if_neg c, z1]
        rw [er]
        exact ⟨s', x1, Or.inl ⟨_, rfl, pre _ (ifp lt z2)⟩⟩
      · have er : runM V n key (d + 1) e m = runM V n key d em.1 em.2 := by
          conv => lhs; unfold runM
          rw [if_neg c, z1]
        rw [er]
        have iv := stp_inv (e' := em.1) (m' := em.2) (by omega) (hm.mono bb.1) z1
        obtain ⟨s2, x2, y⟩ := c_run hk d em.1 (l3 + 1) em.2 s' fuel (h.sx x1) z3 iv.1 iv.2.2 (by omega) (by omega) (by omega)
        refine ⟨s2, x1.tr x2, ?_⟩
        rcases y with ⟨q, y1, y2⟩ | ⟨f, c', a, y1, y2, y3⟩
        · exact Or.inl ⟨q, y1, pre _ (ifp lt (z2.trans y2))⟩
        · exact Or.inr ⟨f, c', a, y1, pre _ (ifp lt (z2.trans y2)), y3⟩
end RE
