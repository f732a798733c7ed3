/-- a row of cells written in order -/
def wr (s : hS) (a o : Nat) (g : Nat → Int32) : Nat → hS
  | 0 => s
  | n + 1 => uI (wr s a o g n) a (o + n) (g n)
theorem wr_I (s : hS) (a o : Nat) (g : Nat → Int32) (b j : Nat) : ∀ n, hI (wr s a o g n) b j = if b = a ∧ o ≤ j ∧ j < o + n then g (j - o) else hI s b j
  | 0 => by rw [if_neg (by omega)]; rfl
  | n + 1 => by
    have ih := wr_I s a o g b j n
    show hI (uI (wr s a o g n) a (o + n) (g n)) b j = _
    by_cases e : b = a ∧ j = o + n
    · obtain ⟨rfl, rfl⟩ := e
      rw [uI_eq, if_pos ⟨rfl, by omega, by omega⟩, Nat.add_sub_cancel_left]
    · rw [uI_ne e, ih]
      by_cases c : b = a ∧ o ≤ j ∧ j < o + n
      · rw [if_pos c, if_pos ⟨c.1, c.2.1, by omega⟩]
      · rw [if_neg c, if_neg (by omega)]
theorem wr_in (s : hS) (a o : Nat) (g : Nat → Int32) (n k : Nat) (hk : k < n) : hI (wr s a o g n) a (o + k) = g k := by
  rw [wr_I, if_pos ⟨rfl, by omega, by omega⟩, Nat.add_sub_cancel_left]
theorem wr_ne {s : hS} {a o b j : Nat} {g : Nat → Int32} {n : Nat} (h : ¬ (b = a ∧ o ≤ j ∧ j < o + n)) : hI (wr s a o g n) b j = hI s b j := by rw [wr_I, if_neg h]
theorem wr_K (s : hS) (a o : Nat) (g : Nat → Int32) (b : Nat) : ∀ n, hK (wr s a o g n) b = hK s b
  | 0 => rfl
  | n + 1 => wr_K s a o g b n
theorem wr_R (s : hS) (a o : Nat) (g : Nat → Int32) (b k : Nat) : ∀ n, hR (wr s a o g n) b k = hR s b k
  | 0 => rfl
  | n + 1 => wr_R s a o g b k n
theorem wr_1 (s : hS) (a o : Nat) (g : Nat → Int32) : ∀ n, (wr s a o g n).1 = s.1 ∧ (wr s a o g n).2.1 = s.2.1
  | 0 => ⟨rfl, rfl⟩
  | n + 1 => wr_1 s a o g n
theorem Lay.wr {B : Nat} {s : hS} (L : Lay B s) (a o : Nat) (g : Nat → Int32) (n : Nat) : Lay B (wr s a o g n) := ⟨fun i c hi => (wr_K _ _ _ _ _ _).trans (L.1 i c hi), fun e he => (wr_R _ _ _ _ _ _ _).trans (L.2.1 e he), fun q ho i hi b hb => by rw [wr_K, (wr_1 _ _ _ _ _).1]; exact L.2.2 q ho i hi b ((wr_R _ _ _ _ _ _ _).symm.trans hb)⟩
theorem Wx.wr {W : Nat → Nat → Prop} {s t : hS} (h : Wx W s t) {a o : Nat} {g : Nat → Int32} : ∀ {n : Nat}, (∀ k, k < n → W a (o + k)) → Wx W s (wr t a o g n)
  | 0, _ => h
  | n + 1, hw => (Wx.wr h (n := n) (fun k hk => hw k (by omega))).u (hw n (by omega))
theorem set_same {B nt : Nat} {s : hS} {τ : Tw} {g6 g7 : hS → Option (Int32 × hS)} {v : Int32} (h : InvT B s nt τ) (h6 : g6 s = some (v, s)) (h7 : g7 s = some (v, s)) : ∃ v s1 s2, g6 s = some (v, s1) ∧ g7 s1 = some (v, s2) ∧ Lay B s1 ∧ Inv B s2 ∧ s2.1 = s.1 ∧ s2.2.1 = s.2.1 := ⟨v, s, s, h6, h7, h.1, h.inv, rfl, rfl⟩
theorem Lay.k80 {B : Nat} {s : hS} (L : Lay B s) : hK s (B + 80) = (10, 4) := L.k 80 10 4 rfl
theorem Lay.k81 {B : Nat} {s : hS} (L : Lay B s) : hK s (B + 81) = (10, 4) := L.k 81 10 4 rfl
theorem Lay.k82 {B : Nat} {s : hS} (L : Lay B s) : hK s (B + 82) = (10, 96) := L.k 82 10 96 rfl
theorem Lay.m24 {B : Nat} {s : hS} (L : Lay B s) : gR s (B + 66) 7 24 = some (B + 80) := L.gm 24 80 4 (by decide)
theorem Lay.m25 {B : Nat} {s : hS} (L : Lay B s) : gR s (B + 66) 7 25 = some (B + 81) := L.gm 25 81 4 (by decide)
theorem Lay.m26 {B : Nat} {s : hS} (L : Lay B s) : gR s (B + 66) 7 26 = some (B + 82) := L.gm 26 82 96 (by decide)
/-- sheets have moved, all else stays -/
theorem InvT.she {B nt : Nat} {s t : hS} {τ : Tw} {W : Nat → Nat → Prop} (h : InvT B s nt τ) (hx : Wx W s t) (hW : ∀ a k, W a k → ∃ i, a = B + i ∧ (40 ≤ i ∧ i < 48 ∨ 80 ≤ i ∧ i < 83 ∨ i = 87)) (hS : InShe B t) : InvT B t nt τ := by
  have d : ∀ a k, (∀ i, a = B + i → ¬ (40 ≤ i ∧ i < 48 ∨ 80 ≤ i ∧ i < 83 ∨ i = 87)) → ¬ W a k := fun a k q hw => by
    obtain ⟨i, e, c⟩ := hW a k hw
    exact q i e c
  refine h.core hx (fun a k hw => ?_) (h.2.2.2.2.2.2.1.wx hx ?_) hS (h.2.2.2.2.2.2.2.2.1.wx hx ?_) (h.2.2.2.2.2.2.2.2.2.1.wx hx ?_) (h.2.2.2.2.2.2.2.2.2.2.wx hx ?_)
  · obtain ⟨i, e, c⟩ := hW a k hw
    exact Or.inr (Or.inr ⟨i, by omega, e, by omega⟩)
  · exact ⟨d _ _ (fun i e => by omega), d _ _ (fun i e => by omega), fun k => d _ _ (fun i e => by omega), fun k => d _ _ (fun i e => by omega)⟩
  · exact fun i k hi => d _ _ (fun i e => by omega)
  · exact ⟨d _ _ (fun i e => by omega), d _ _ (fun i e => by omega), fun k => d _ _ (fun i e => by omega), fun k => d _ _ (fun i e => by omega)⟩
  · exact ⟨fun k => d _ _ (fun i e => by omega), fun k => d _ _ (fun i e => by omega)⟩
theorem sort3 {x : Int32} (h : x = -1 ∨ x = 0 ∨ x = 1) : (x = -1 ∧ ¬ 0 ≤ x ∧ x < 0) ∨ (¬ x = -1 ∧ 0 ≤ x ∧ ¬ x < 0 ∧ (x = 0 ∧ ¬ x = 1 ∨ x = 1 ∧ ¬ x = 0)) := by
  rcases h with rfl | rfl | rfl
  · exact Or.inl (by decide)
  · exact Or.inr (by decide)
  · exact Or.inr (by decide)
theorem stp_mark (B : Nat) (a0 a1 a2 : Int32) : StpC B (fun s => f_X6_mark s B a0 a1 a2) (fun s => f_X7_mark s (B + 66) a0 a1 a2) := by
  refine stp_set fun s nt τ h => ?_
  have L := h.1
  have bad : (a0 < 0 ∨ nI 4 ≤ a0) → ∃ v s1 s2, f_X6_mark s B a0 a1 a2 = some (v, s1) ∧ f_X7_mark s1 (B + 66) a0 a1 a2 = some (v, s2) ∧ Lay B s1 ∧ Inv B s2 ∧ s2.1 = s.1 ∧ s2.2.1 = s.2.1 := by
    intro hb
    refine set_same (g6 := fun s => f_X6_mark s B a0 a1 a2) (g7 := fun s => f_X7_mark s (B + 66) a0 a1 a2) (v := -1000000001) h ?_ ?_
    · show f_X6_mark s B a0 a1 a2 = _
      unfold f_X6_mark
      exact bnd (noH_out hb) (ifn one_ne rfl)
    · show f_X7_mark s (B + 66) a0 a1 a2 = _
      unfold f_X7_mark
      exact bnd (isH_out hb) (ifp rfl rfl)
  rcases pk_ix a0 (n := 4) (by decide) with hb | hb | ⟨i, hi, rfl⟩
  · exact bad (Or.inl hb)
  · exact bad (Or.inr hb)
  obtain ⟨⟨g1, g2⟩, g3, ⟨n, hn, g4⟩, g5⟩ := h.2.2.2.2.2.2.2.1 i hi
  rw [g4] at g2
  have cpre : ∀ {r : Option (Int32 × hS)}, (if hI s (B + 80) i = (-1 : Int32) then some ((-1000000011 : Int32), s) else (cV s (B + 40 + 2 * i) 1 (f_X1_hasNoPlace s (B + 40 + 2 * i) a1)).bind fun p5 => if p5.1 = 0 then (gI p5.2 (B + 40 + 2 * i) 1 0).bind fun x6 => if x6 = 0 then if a2 = (-1000000005 : Int32) then some ((-1000000012 : Int32), p5.2) else (gR p5.2 (B + 40 + 2 * i) 1 2).bind fun a8 => (sI p5.2 a8 10 a1 (a2).toInt16.toInt32).bind fun s9 => some ((1 : Int32), s9) else if a2 = (-1000000005 : Int32) then f_X6_mark_b94 a1 a2 (B + 40 + 2 * i) p5.2 else (f_X6_isOutside p5.2 a2 (-99999 : Int32) (99999 : Int32)).bind fun p7 => if p7.1 = 0 then f_X6_mark_b94 a1 a2 (B + 40 + 2 * i) p7.2 else some ((-1000000001 : Int32), p7.2) else some ((-1000000013 : Int32), p5.2)) = r → f_X6_mark s B (nI i) a1 a2 = r := by
    intro r hr
    unfold f_X6_mark
    refine bnd (noH_in hi) (ifp rfl (bnd L.gsh (bnd (aR_ok i L.k39 rfl hi (by decide) (L.hr hi)) (bnd (gI_ok (L.hk hi)) ?_))))
    rw [g1]
    exact hr
  have mpre : ∀ {t : hS} {r : Option (Int32 × hS)}, Lay B t → hI t (B + 80) i = hI s (B + 80) i → hI t (B + 81) i = nI n → 0 ≤ hI s (B + 80) i → ((f_X7_in t a1 (0 : Int32) (nI n - (1 : Int32))).bind fun p6 => if p6.1 = 0 then some ((-1000000013 : Int32), p6.2) else (gR p6.2 (B + 66) 7 24).bind fun a7 => (aI p6.2 a7 10 (nI i)).bind fun x8 => if x8 = 0 then if a2 = (-1000000005 : Int32) then some ((-1000000012 : Int32), p6.2) else f_X7_mark_b61 (B + 66) (nI i) a1 a2 p6.2 else f_X7_mark_b61 (B + 66) (nI i) a1 a2 p6.2) = r → f_X7_mark t (B + 66) (nI i) a1 a2 = r := by
    intro t r Lt e1 e2 hp hr
    unfold f_X7_mark
    refine bnd (isH_in hi) (ifn one_ne (bnd Lt.m24 (bnd (aI_ok i Lt.k80 rfl hi (by decide)) ?_)))
    rw [e1]
    refine ifp hp (bnd Lt.m25 (bnd (aI_ok i Lt.k81 rfl hi (by decide)) ?_))
    rw [e2]
    exact hr
  rcases sort3 g3 with ⟨q1, q2, q3⟩ | ⟨q1, q2, q3, q4⟩
  · refine set_same (g6 := fun s => f_X6_mark s B (nI i) a1 a2) (g7 := fun s => f_X7_mark s (B + 66) (nI i) a1 a2) (v := -1000000011) h (cpre (ifp q1 rfl)) ?_
    show f_X7_mark s (B + 66) (nI i) a1 a2 = _
    unfold f_X7_mark
    exact bnd (isH_in hi) (ifn one_ne (bnd L.m24 (bnd (aI_ok i L.k80 rfl hi (by decide)) (ifn q2 rfl))))
  have out : (a1 < 0 ∨ nI n ≤ a1) → ∃ v s1 s2, f_X6_mark s B (nI i) a1 a2 = some (v, s1) ∧ f_X7_mark s1 (B + 66) (nI i) a1 a2 = some (v, s2) ∧ Lay B s1 ∧ Inv B s2 ∧ s2.1 = s.1 ∧ s2.2.1 = s.2.1 := by
    intro hb
    exact set_same (g6 := fun s => f_X6_mark s B (nI i) a1 a2) (g7 := fun s => f_X7_mark s (B + 66) (nI i) a1 a2) (v := -1000000013) h (cpre (ifn q1 (bnd ((cV_ok (L.hk hi)).trans (noPl_out (L.hk hi) g2 hb)) (ifn one_ne rfl)))) (mpre L rfl g4 q2 (bnd (inP_out s (by omega) hb) (ifp rfl rfl)))
  rcases pk_ix a1 (n := n) (by omega) with hb | hb | ⟨k, hk, rfl⟩
  · exact out (Or.inl hb)
  · exact out (Or.inr hb)
  have hk24 : k < 24 := by omega
  have wrt : ∀ v : Int32, InvT B (uI (uI s (B + 41 + 2 * i) k v) (B + 82) (24 * i + k) v) nt τ := by
    intro v
    refine h.she (W := fun a j => (a = B + 41 + 2 * i ∧ j = k) ∨ (a = B + 82 ∧ j = 24 * i + k)) (((Wx.rf _ s).u (Or.inl ⟨rfl, rfl⟩)).u (Or.inr ⟨rfl, rfl⟩)) ?_ ?_
    · rintro a j (⟨q, -⟩ | ⟨q, -⟩)
      · exact ⟨41 + 2 * i, by omega, by omega⟩
      · exact ⟨82, q, by omega⟩
    · intro j hj
      obtain ⟨⟨z1, z2⟩, z3, z4, z5⟩ := h.2.2.2.2.2.2.2.1 j hj
      have e1 : ∀ o, hI (uI (uI s (B + 41 + 2 * i) k v) (B + 82) (24 * i + k) v) (B + 40 + 2 * j) o = hI s (B + 40 + 2 * j) o := fun o => by rw [uI_ne (by omega), uI_ne (by omega)]
      have e2 : ∀ o, hI (uI (uI s (B + 41 + 2 * i) k v) (B + 82) (24 * i + k) v) (B + 80) o = hI s (B + 80) o := fun o => by rw [uI_ne (by omega), uI_ne (by omega)]
      have e3 : ∀ o, hI (uI (uI s (B + 41 + 2 * i) k v) (B + 82) (24 * i + k) v) (B + 81) o = hI s (B + 81) o := fun o => by rw [uI_ne (by omega), uI_ne (by omega)]
      refine ⟨⟨by rw [e1, e2]; exact z1, by rw [e1, e3]; exact z2⟩, by rw [e2]; exact z3, by rw [e3]; exact z4, fun o ho => ?_⟩
      by_cases c : j = i ∧ o = k
      · obtain ⟨rfl, rfl⟩ := c
        rw [uI_ne (by omega), uI_eq, uI_eq]
      · rw [uI_ne (by omega), uI_ne (by omega), uI_ne (by omega), uI_ne (by omega)]
        exact z5 o ho
  have cpl := (cV_ok (L.hk hi)).trans (noPl_in (L.hk hi) g2 hk (by omega))
  have L1 : ∀ v, Lay B (uI s (B + 41 + 2 * i) k v) := fun v => L.u _ _ _
  have f1 : ∀ v, hI (uI s (B + 41 + 2 * i) k v) (B + 80) i = hI s (B + 80) i := fun v => uI_ne (by omega)
  have f2 : ∀ v, hI (uI s (B + 41 + 2 * i) k v) (B + 81) i = nI n := fun v => (uI_ne (by omega)).trans g4
  have mp : ∀ t, f_X7_in t (nI k) 0 (nI n - 1) = some (1, t) := fun t => inP_in t hk (by omega)
  rcases q4 with ⟨s0, s1⟩ | ⟨s1, s0⟩
  · by_cases z : a2 = -1000000005
    · refine set_same (g6 := fun s => f_X6_mark s B (nI i) (nI k) a2) (g7 := fun s => f_X7_mark s (B + 66) (nI i) (nI k) a2) (v := -1000000012) h (cpre (ifn q1 (bnd cpl (ifp rfl (bnd (gI_ok (L.hk hi)) ?_))))) (mpre L rfl g4 q2 (bnd (mp s) (ifn one_ne (bnd L.m24 (bnd (aI_ok i L.k80 rfl hi (by decide)) (ifp s0 (ifp z rfl)))))))
      rw [g1]
      exact ifp s0 (ifp z rfl)
    · refine ⟨1, uI s (B + 41 + 2 * i) k a2.toInt16.toInt32, _, cpre (ifn q1 (bnd cpl (ifp rfl (bnd (gI_ok (L.hk hi)) ?_)))), mpre (L1 _) (f1 _) (f2 _) q2 (bnd (mp _) (ifn one_ne (bnd (L1 _).m24 (bnd (aI_ok i (L1 _).k80 rfl hi (by decide)) ?_)))), L1 _, (wrt a2.toInt16.toInt32).inv, rfl, rfl⟩
      · rw [g1]
        exact ifp s0 (ifn z (bnd (gR_ok (L.hk hi) (L.hr1 hi)) (bnd (sI_ok k (L.hk1 hi) rfl hk24 (by decide)) rfl)))
      · rw [f1]
        refine ifp s0 (ifn z ?_)
        unfold f_X7_mark_b61 f_X7_mark_b93 f_X7_mark_b118
        refine bnd (L1 _).m24 (bnd (aI_ok i (L1 _).k80 rfl hi (by decide)) ?_)
        rw [f1]
        refine ifn s1 (bnd (L1 _).m26 (bnd (L1 _).m24 (bnd (aI_ok i (L1 _).k80 rfl hi (by decide)) ?_)))
        rw [f1]
        exact ifp s0 (bnd (sI_ok (24 * i + k) (L1 _).k82 (ix24 i k) (by omega) (by decide)) rfl)
  · by_cases z : a2 = -1000000005
    · refine ⟨1, uI s (B + 41 + 2 * i) k a2, _, cpre (ifn q1 (bnd cpl (ifp rfl (bnd (gI_ok (L.hk hi)) ?_)))), mpre (L1 _) (f1 _) (f2 _) q2 (bnd (mp _) (ifn one_ne (bnd (L1 _).m24 (bnd (aI_ok i (L1 _).k80 rfl hi (by decide)) ?_)))), L1 _, (wrt a2).inv, rfl, rfl⟩
      · rw [g1]
        exact ifn s0 (ifp z (bnd (gR_ok (L.hk hi) (L.hr1 hi)) (bnd (sI_ok k (L.hk1 hi) rfl hk24 (by decide)) rfl)))
      · rw [f1]
        refine ifn s0 ?_
        unfold f_X7_mark_b61 f_X7_mark_b93 f_X7_mark_b118
        refine bnd (L1 _).m24 (bnd (aI_ok i (L1 _).k80 rfl hi (by decide)) ?_)
        rw [f1]
        refine ifp s1 (ifp z (bnd (L1 _).m26 (bnd (L1 _).m24 (bnd (aI_ok i (L1 _).k80 rfl hi (by decide)) ?_))))
        rw [f1]
        exact ifn s0 (bnd (sI_ok (24 * i + k) (L1 _).k82 (ix24 i k) (by omega) (by decide)) rfl)
    · by_cases c : a2 < -99999 ∨ 99999 < a2
      · refine set_same (g6 := fun s => f_X6_mark s B (nI i) (nI k) a2) (g7 := fun s => f_X7_mark s (B + 66) (nI i) (nI k) a2) (v := -1000000001) h (cpre (ifn q1 (bnd cpl (ifp rfl (bnd (gI_ok (L.hk hi)) ?_))))) (mpre L rfl g4 q2 (bnd (mp s) (ifn one_ne (bnd L.m24 (bnd (aI_ok i L.k80 rfl hi (by decide)) (ifn s0 ?_))))))
        · rw [g1]
          exact ifn s0 (ifn z (bnd ((X6_out s _ _ _).trans (by rw [if_pos c])) (ifn one_ne rfl)))
        · show f_X7_mark_b61 (B + 66) (nI i) (nI k) a2 s = _
          unfold f_X7_mark_b61
          exact bnd L.m24 (bnd (aI_ok i L.k80 rfl hi (by decide)) (ifp s1 (ifn z (bnd ((X7_in s _ _ _).trans (by rw [if_pos c])) (ifp rfl rfl)))))
      · refine ⟨1, uI s (B + 41 + 2 * i) k a2, _, cpre (ifn q1 (bnd cpl (ifp rfl (bnd (gI_ok (L.hk hi)) ?_)))), mpre (L1 _) (f1 _) (f2 _) q2 (bnd (mp _) (ifn one_ne (bnd (L1 _).m24 (bnd (aI_ok i (L1 _).k80 rfl hi (by decide)) ?_)))), L1 _, (wrt a2).inv, rfl, rfl⟩
        · rw [g1]
          refine ifn s0 (ifn z (bnd ((X6_out s _ _ _).trans (by rw [if_neg c])) (ifp rfl ?_)))
          exact bnd (gR_ok (L.hk hi) (L.hr1 hi)) (bnd (sI_ok k (L.hk1 hi) rfl hk24 (by decide)) rfl)
        · rw [f1]
          refine ifn s0 ?_
          unfold f_X7_mark_b61 f_X7_mark_b93 f_X7_mark_b118
          refine bnd (L1 _).m24 (bnd (aI_ok i (L1 _).k80 rfl hi (by decide)) ?_)
          rw [f1]
          refine ifp s1 (ifn z (bnd ((X7_in _ _ _ _).trans (by rw [if_neg c])) (ifn one_ne (bnd (L1 _).m26 (bnd (L1 _).m24 (bnd (aI_ok i (L1 _).k80 rfl hi (by decide)) ?_))))))
          rw [f1]
          exact ifn s0 (bnd (sI_ok (24 * i + k) (L1 _).k82 (ix24 i k) (by omega) (by decide)) rfl)
/-- the class's sheet lies anew -/
theorem c_lie0 {B : Nat} {s : hS} (L : Lay B s) {i : Nat} (hi : i < 4) (x y : Int32) : f_X1_lieAnew s (B + 40 + 2 * i) x y = some ((), wr (uI (uI s (B + 40 + 2 * i) 0 x) (B + 40 + 2 * i) 1 y) (B + 41 + 2 * i) 0 (fun _ => 0) 24) := by
  unfold f_X1_lieAnew
  refine bnd (pI_ok (L.hk hi)) (bnd (pI_ok (L.u _ _ _ |>.hk hi)) ?_)
  refine jL_run (F := f_X1_lieAnew_b12) (z := fun _ _ _ => none) (fun (k : Nat → Int32 → hS → Option (Unit × hS)) j => k (B + 40 + 2 * i) (nI j) (wr (uI (uI s (B + 40 + 2 * i) 0 x) (B + 40 + 2 * i) 1 y) (B + 41 + 2 * i) 0 (fun _ => 0) j)) 24 _ (fun j hj k => ?_) (fun k => ?_) jF 0 (Nat.zero_le _) (jF_lt (by omega))
  · show f_X1_lieAnew_b12 k _ _ _ = _
    have L2 := ((L.u (B + 40 + 2 * i) 0 x).u (B + 40 + 2 * i) 1 y).wr (B + 41 + 2 * i) 0 (fun _ => 0) j
    unfold f_X1_lieAnew_b12
    refine ifn (nI_ge (a := j) (b := 24) hj (by decide)) (bnd (gR_ok (L2.hk hi) (L2.hr1 hi)) (bnd (sI_ok j (L2.hk1 hi) rfl hj (by decide)) ?_))
    rw [nI_1]
    show _ = k _ _ (uI _ _ (0 + j) _)
    rw [Nat.zero_add]
  · show f_X1_lieAnew_b12 k _ _ _ = _
    unfold f_X1_lieAnew_b12
    exact ifp (by decide) rfl
theorem m_lie0 {B : Nat} {s : hS} (L : Lay B s) {i : Nat} (hi : i < 4) {v : Int32} (hv : hI s (B + 81) i = v) : jL f_X7_sheet_b66 (fun _ _ _ _ => none) jF (B + 66) (nI i) 0 s = some (v, wr s (B + 82) (24 * i) (fun _ => 0) 24) := by
  refine jL_run (F := f_X7_sheet_b66) (z := fun _ _ _ _ => none) (fun (k : kk2) j => k (B + 66) (nI i) (nI j) (wr s (B + 82) (24 * i) (fun _ => 0) j)) 24 _ (fun j hj k => ?_) (fun k => ?_) jF 0 (Nat.zero_le _) (jF_lt (by omega))
  · show f_X7_sheet_b66 k _ _ _ _ = _
    have L2 := L.wr (B + 82) (24 * i) (fun _ => 0) j
    unfold f_X7_sheet_b66
    refine ifn (nI_ge (a := j) (b := 24) hj (by decide)) (bnd L2.m26 (bnd (sI_ok (24 * i + j) L2.k82 (ix24 i j) (by omega) (by decide)) ?_))
    rw [nI_1]
    rfl
  · show f_X7_sheet_b66 k _ _ _ _ = _
    have L2 := L.wr (B + 82) (24 * i) (fun _ => 0) 24
    unfold f_X7_sheet_b66
    refine ifp (by decide) (bnd L2.m25 (bnd (aI_ok i L2.k81 rfl hi (by decide)) ?_))
    rw [wr_ne (by omega), hv]
theorem Wx.mono {W V : Nat → Nat → Prop} {s t : hS} (h : Wx W s t) (hv : ∀ a k, W a k → V a k) : Wx V s t := ⟨h.1, h.2.1, h.2.2.1, fun a k q => h.2.2.2 a k (fun w => q (hv a k w))⟩
theorem Wx.tr {W : Nat → Nat → Prop} {s t u : hS} (h : Wx W s t) (h2 : Wx W t u) : Wx W s u := ⟨⟨h2.1.1.trans h.1.1, h2.1.2.trans h.1.2⟩, fun a => (h2.2.1 a).trans (h.2.1 a), fun a k => (h2.2.2.1 a k).trans (h.2.2.1 a k), fun a k q => (h2.2.2.2 a k q).trans (h.2.2.2 a k q)⟩
theorem c_lie {B : Nat} {s : hS} (L : Lay B s) {i : Nat} (hi : i < 4) (x y : Int32) : ∃ s1, f_X1_lieAnew s (B + 40 + 2 * i) x y = some ((), s1) ∧ Wx (fun a _ => a = B + 40 + 2 * i ∨ a = B + 41 + 2 * i) s s1 ∧ hI s1 (B + 40 + 2 * i) 0 = x ∧ hI s1 (B + 40 + 2 * i) 1 = y ∧ ∀ k, k < 24 → hI s1 (B + 41 + 2 * i) k = 0 := by
  refine ⟨_, c_lie0 L hi x y, Wx.wr (((Wx.rf _ s).u (Or.inl rfl)).u (Or.inl rfl)) (fun k _ => Or.inr rfl), ?_, ?_, fun k hk => ?_⟩
  · rw [wr_ne (by omega), uI_ne (by omega), uI_eq]
  · rw [wr_ne (by omega), uI_eq]
  · rw [wr_I, if_pos ⟨rfl, by omega, by omega⟩]
theorem m_lie {B : Nat} {s : hS} (L : Lay B s) {i : Nat} (hi : i < 4) {v : Int32} (hv : hI s (B + 81) i = v) : ∃ s2, jL f_X7_sheet_b66 (fun _ _ _ _ => none) jF (B + 66) (nI i) 0 s = some (v, s2) ∧ Wx (fun a k => a = B + 82 ∧ 24 * i ≤ k ∧ k < 24 * i + 24) s s2 ∧ ∀ k, k < 24 → hI s2 (B + 82) (24 * i + k) = 0 := by
  refine ⟨_, m_lie0 L hi hv, Wx.wr (Wx.rf _ s) (fun k hk => ⟨rfl, by omega, by omega⟩), fun k hk => ?_⟩
  rw [wr_in _ _ _ _ _ _ hk]
theorem stp_sheet (B : Nat) (a0 a1 a2 : Int32) : StpC B (fun s => f_X6_sheet s B a0 a1 a2) (fun s => f_X7_sheet s (B + 66) a0 a1 a2) := by
  refine stp_set fun s nt τ h => ?_
  have L := h.1
  have bad : (a0 < 0 ∨ nI 4 ≤ a0) → ∃ v s1 s2, f_X6_sheet s B a0 a1 a2 = some (v, s1) ∧ f_X7_sheet s1 (B + 66) a0 a1 a2 = some (v, s2) ∧ Lay B s1 ∧ Inv B s2 ∧ s2.1 = s.1 ∧ s2.2.1 = s.2.1 := by
    intro hb
    refine set_same (g6 := fun s => f_X6_sheet s B a0 a1 a2) (g7 := fun s => f_X7_sheet s (B + 66) a0 a1 a2) (v := -1000000001) h ?_ ?_
    · show f_X6_sheet s B a0 a1 a2 = _
      unfold f_X6_sheet
      exact bnd (noH_out hb) (ifn one_ne rfl)
    · show f_X7_sheet s (B + 66) a0 a1 a2 = _
      unfold f_X7_sheet
      exact bnd (isH_out hb) (ifp rfl rfl)
  rcases pk_ix a0 (n := 4) (by decide) with hb | hb | ⟨i, hi, rfl⟩
  · exact bad (Or.inl hb)
  · exact bad (Or.inr hb)
  by_cases c : a1 < -1 ∨ 1 < a1
  · refine set_same (g6 := fun s => f_X6_sheet s B (nI i) a1 a2) (g7 := fun s => f_X7_sheet s (B + 66) (nI i) a1 a2) (v := -1000000001) h ?_ ?_
    · show f_X6_sheet s B (nI i) a1 a2 = _
      unfold f_X6_sheet
      exact bnd (noH_in hi) (ifp rfl (bnd ((X6_out s _ _ _).trans (by rw [if_pos c])) (ifn one_ne rfl)))
    · show f_X7_sheet s (B + 66) (nI i) a1 a2 = _
      unfold f_X7_sheet
      exact bnd (isH_in hi) (ifn one_ne (bnd ((X7_in s _ _ _).trans (by rw [if_pos c])) (ifp rfl rfl)))
  have c3 : a1 = -1 ∨ a1 = 0 ∨ a1 = 1 := by
    have h1 : ¬ a1 < -1 := fun q => c (Or.inl q)
    have h2 : ¬ 1 < a1 := fun q => c (Or.inr q)
    have w1 : (-1 : Int32).toInt = -1 := by decide
    have w2 : (1 : Int32).toInt = 1 := by decide
    have w0 : (0 : Int32).toInt = 0 := by decide
    rw [Int32.lt_iff_toInt_lt, w1] at h1
    rw [Int32.lt_iff_toInt_lt, w2] at h2
    have h3 : a1.toInt = -1 ∨ a1.toInt = 0 ∨ a1.toInt = 1 := by omega
    rcases h3 with e | e | e
    · exact Or.inl (Int32.toInt_inj.mp (by rw [e, w1]))
    · exact Or.inr (Or.inl (Int32.toInt_inj.mp (by rw [e, w0])))
    · exact Or.inr (Or.inr (Int32.toInt_inj.mp (by rw [e, w2])))
  have co : f_X6_isOutside s a1 (-1) 1 = some (0, s) := (X6_out s _ _ _).trans (by rw [if_neg c])
  have mo : ∀ t, f_X7_in t a1 (-1) 1 = some (1, t) := fun t => (X7_in t _ _ _).trans (by rw [if_neg c])
  have go : ∀ m : Nat, m ≤ 24 → ∀ y : Int32, y = nI m → (∃ s1, (cV s (B + 40 + 2 * i) 1 (f_X1_lieAnew s (B + 40 + 2 * i) a1 y)).bind (fun p3 => some (y, p3.2)) = some (y, s1) ∧ Lay B s1 ∧ s1.1 = s.1 ∧ s1.2.1 = s.2.1 ∧ ∃ s2, ((sI (uI s1 (B + 80) i a1) (B + 81) 10 (nI i) y).bind fun t => jL f_X7_sheet_b66 (fun _ _ _ _ => none) jF (B + 66) (nI i) 0 t) = some (y, s2) ∧ Inv B s2 ∧ s2.1 = s.1 ∧ s2.2.1 = s.2.1) := by
    intro m hm y hy
    obtain ⟨s1, c1, x1, v0, v1, v2⟩ := c_lie L hi a1 y
    have Ls1 := L.wx x1
    have Lt := (Ls1.u (B + 80) i a1).u (B + 81) i y
    refine ⟨s1, bnd ((cV_ok (L.hk hi)).trans c1) rfl, Ls1, x1.1.1, x1.1.2, ?_⟩
    obtain ⟨s2, c2, x2, u2⟩ := m_lie Lt hi (uI_eq _ (B + 81) i y)
    have X : Wx (fun a k => a = B + 40 + 2 * i ∨ a = B + 41 + 2 * i ∨ (a = B + 80 ∧ k = i) ∨ (a = B + 81 ∧ k = i) ∨ (a = B + 82 ∧ 24 * i ≤ k ∧ k < 24 * i + 24)) s s2 := by
      refine Wx.tr (t := uI (uI s1 (B + 80) i a1) (B + 81) i y) ?_ (x2.mono (fun a k q => Or.inr (Or.inr (Or.inr (Or.inr q)))))
      refine Wx.u (Wx.u (x1.mono (fun a k q => q.imp id Or.inl)) ?_) ?_
      · exact Or.inr (Or.inr (Or.inl ⟨rfl, rfl⟩))
      · exact Or.inr (Or.inr (Or.inr (Or.inl ⟨rfl, rfl⟩)))
    have w0 : hI s2 (B + 40 + 2 * i) 0 = a1 := by rw [x2.2.2.2 _ _ (by omega), uI_ne (by omega), uI_ne (by omega), v0]
    have w1 : hI s2 (B + 40 + 2 * i) 1 = y := by rw [x2.2.2.2 _ _ (by omega), uI_ne (by omega), uI_ne (by omega), v1]
    have w2 : ∀ k, k < 24 → hI s2 (B + 41 + 2 * i) k = 0 := fun k hk => by rw [x2.2.2.2 _ _ (by omega), uI_ne (by omega), uI_ne (by omega), v2 k hk]
    have w3 : hI s2 (B + 80) i = a1 := by rw [x2.2.2.2 _ _ (by omega), uI_ne (by omega), uI_eq]
    have w4 : hI s2 (B + 81) i = y := by rw [x2.2.2.2 _ _ (by omega), uI_eq]
    refine ⟨s2, bnd (sI_ok i (Ls1.u (B + 80) i a1).k81 rfl hi (by decide)) c2, ?_, X.1.1, X.1.2⟩
    clear c1 c2 x1 x2 v0 v1 v2 Lt Ls1
    refine (h.she X ?_ ?_).inv
    · rintro a k (q | q | ⟨q, -⟩ | ⟨q, -⟩ | ⟨q, -⟩)
      · exact ⟨40 + 2 * i, by omega, by omega⟩
      · exact ⟨41 + 2 * i, by omega, by omega⟩
      · exact ⟨80, q, by omega⟩
      · exact ⟨81, q, by omega⟩
      · exact ⟨82, q, by omega⟩
    · intro j hj
      by_cases e : j = i
      · subst e
        rw [w0, w1, w3, w4]
        exact ⟨⟨rfl, rfl⟩, c3, ⟨m, hm, hy⟩, fun k hk => by rw [w2 k hk, u2 k hk]⟩
      · obtain ⟨⟨z1, z2⟩, z3, z4, z5⟩ := h.2.2.2.2.2.2.2.1 j hj
        have E := X.2.2.2
        refine ⟨⟨?_, ?_⟩, ?_, ?_, fun k hk => ?_⟩
        · rw [E _ _ (by omega), E _ _ (by omega)]; exact z1
        · rw [E _ _ (by omega), E _ _ (by omega)]; exact z2
        · rw [E _ _ (by omega)]; exact z3
        · rw [E _ _ (by omega)]; exact z4
        · rw [E _ _ (by omega), E _ _ (by omega)]; exact z5 k hk
  have aRs := aR_ok i L.k39 rfl hi (by decide) (L.hr hi)
  rcases sort3 c3 with ⟨q1, q2, q3⟩ | ⟨q1, q2, q3, -⟩
  · obtain ⟨s1, e1, Ls1, o1, o2, s2, e2, iv, o3, o4⟩ := go 0 (by omega) 0 rfl
    refine ⟨0, s1, s2, ?_, ?_, Ls1, iv, o3, o4⟩
    · show f_X6_sheet s B (nI i) a1 a2 = _
      unfold f_X6_sheet f_X6_sheet_b29
      exact bnd (noH_in hi) (ifp rfl (bnd co (ifp rfl (ifp q1 (ifp (by decide) (ifp (by decide) (bnd L.gsh (bnd aRs e1))))))))
    · show f_X7_sheet s1 (B + 66) (nI i) a1 a2 = _
      unfold f_X7_sheet f_X7_sheet_b29 f_X7_sheet_b41 f_X7_sheet_b62
      exact bnd (isH_in hi) (ifn one_ne (bnd (mo s1) (ifn one_ne (ifp q3 (ifp q3 (bnd Ls1.m24 (bnd (sI_ok i Ls1.k80 rfl hi (by decide)) (bnd (Ls1.u (B + 80) i a1).m25 (ifn q2 e2)))))))))
  · by_cases w : a2 ≤ 24
    · by_cases w2 : 0 ≤ a2
      · obtain ⟨m, hm, rfl⟩ : ∃ m : Nat, m ≤ 24 ∧ a2 = nI m := nI_of2 (M := 24) (n := 24) (by decide) (Int32.not_lt.mpr w2) w
        obtain ⟨s1, e1, Ls1, o1, o2, s2, e2, iv, o3, o4⟩ := go m hm (nI m) rfl
        refine ⟨nI m, s1, s2, ?_, ?_, Ls1, iv, o3, o4⟩
        · show f_X6_sheet s B (nI i) a1 (nI m) = _
          unfold f_X6_sheet f_X6_sheet_b29
          exact bnd (noH_in hi) (ifp rfl (bnd co (ifp rfl (ifn q1 (ifp w (ifp w2 (bnd L.gsh (bnd aRs e1))))))))
        · show f_X7_sheet s1 (B + 66) (nI i) a1 (nI m) = _
          unfold f_X7_sheet f_X7_sheet_b29 f_X7_sheet_b41 f_X7_sheet_b62
          exact bnd (isH_in hi) (ifn one_ne (bnd (mo s1) (ifn one_ne (ifn q3 (ifp w (ifn q3 (ifp w2 (bnd Ls1.m24 (bnd (sI_ok i Ls1.k80 rfl hi (by decide)) (bnd (Ls1.u (B + 80) i a1).m25 (ifp q2 e2)))))))))))
      · refine set_same (g6 := fun s => f_X6_sheet s B (nI i) a1 a2) (g7 := fun s => f_X7_sheet s (B + 66) (nI i) a1 a2) (v := -1000000014) h ?_ ?_
        · show f_X6_sheet s B (nI i) a1 a2 = _
          unfold f_X6_sheet f_X6_sheet_b29
          exact bnd (noH_in hi) (ifp rfl (bnd co (ifp rfl (ifn q1 (ifp w (ifn w2 rfl))))))
        · show f_X7_sheet s (B + 66) (nI i) a1 a2 = _
          unfold f_X7_sheet f_X7_sheet_b29
          exact bnd (isH_in hi) (ifn one_ne (bnd (mo s) (ifn one_ne (ifn q3 (ifp w (ifn q3 (ifn w2 rfl)))))))
    · refine set_same (g6 := fun s => f_X6_sheet s B (nI i) a1 a2) (g7 := fun s => f_X7_sheet s (B + 66) (nI i) a1 a2) (v := -1000000001) h ?_ ?_
      · show f_X6_sheet s B (nI i) a1 a2 = _
        unfold f_X6_sheet f_X6_sheet_b29
        exact bnd (noH_in hi) (ifp rfl (bnd co (ifp rfl (ifn q1 (ifn w rfl)))))
      · show f_X7_sheet s (B + 66) (nI i) a1 a2 = _
        unfold f_X7_sheet
        exact bnd (isH_in hi) (ifn one_ne (bnd (mo s) (ifn one_ne (ifn q3 (ifn w rfl)))))
