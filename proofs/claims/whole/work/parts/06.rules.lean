section JP
variable {α : Type} {E : jE} {M : jM} {cv : α → Option Value} {pc q : Nat} {ls ls' : List (Nat × Value)} {st : List Value} {s : hS} {o : Option (α × hS)}
theorem Jo_putI {c k idx a : Nat} {C : String} {T : u_T} {N : Nat} {ty : Nat → FieldType} {v : Int32} {g : hS → Option (α × hS)} (hf : fF c k C T N ty) (hfi : fI c k) (hfin : (T k).2.2.2 = false ∨ ((T k).2.2.2 = true ∧ M.2.2.2.2.1 = "<init>" ∧ (T k).1 = M.1)) (hty : ty k = .int) (hd : dI M.2.1 pc q (.putfield idx) 3) (hl : Cond.fieldLink M.1 idx (T k).1 (T k).2.1 (T k).2.2.1 ∈ tbG)
    (kk : ∀ s', Jo E M cv q ls st s' (g s')) : Jo E M cv pc ls (.int v :: .ref a :: st) s ((pI s a c k v).bind g) := by
  by_cases hc : (s.2.2.1 a).1 = c
  · obtain ⟨hd, rfl⟩ := hd
    rw [show pI s a c k v = some (uI s a k v) by simp [pI, hc]]
    refine Jo.write (s' := uI s a k v) rfl rfl (fun p e R s0 m args below meth cd H locs cells slots lsA Q C hH hS _ k9 => ?_) (kk _)
    exact put_core (s' := uI s a k v) hf hfin hd hl (by rw [hty]; rfl) (by rw [hty]; rfl) C hH hS hc (List.getElem?_eq_some_iff.mp (hfi.1 s a)).1 rfl rfl (fun b hb => hs_pic_congr rfl (uI_I hb) rfl) (hfi.2 s a v) k9
  · rw [show pI s a c k v = none by simp [pI, hc]]
    exact Jo_none
theorem Jo_putZ {c k idx a : Nat} {C : String} {T : u_T} {N : Nat} {ty : Nat → FieldType} {v : Int32} {g : hS → Option (α × hS)} (hf : fF c k C T N ty) (hfi : fI c k) (hfin : (T k).2.2.2 = false ∨ ((T k).2.2.2 = true ∧ M.2.2.2.2.1 = "<init>" ∧ (T k).1 = M.1)) (hty : ty k = .boolean) (hd : dI M.2.1 pc q (.putfield idx) 3) (hl : Cond.fieldLink M.1 idx (T k).1 (T k).2.1 (T k).2.2.1 ∈ tbG)
    (kk : ∀ s', Jo E M cv q ls st s' (g s')) : Jo E M cv pc ls (.int v :: .ref a :: st) s ((pZ s a c k v).bind g) := by
  by_cases hc : (s.2.2.1 a).1 = c ∧ (v = 0 ∨ v = 1)
  · obtain ⟨hd, rfl⟩ := hd
    rw [show pZ s a c k v = some (uI s a k v) by simp [pZ, hc]]
    refine Jo.write (s' := uI s a k v) rfl rfl (fun p e R s0 m args below meth cd H locs cells slots lsA Q C hH hS _ k9 => ?_) (kk _)
    exact put_core (s' := uI s a k v) hf hfin hd hl (by rw [hty]; rcases hc.2 with rfl | rfl <;> rfl) (by rw [hty]; rcases hc.2 with rfl | rfl <;> rfl) C hH hS hc.1 (List.getElem?_eq_some_iff.mp (hfi.1 s a)).1 rfl rfl (fun b hb => hs_pic_congr rfl (uI_I hb) rfl) (hfi.2 s a v) k9
  · rw [show pZ s a c k v = none by simp [pZ, hc]]
    exact Jo_none
theorem Jo_putR {c k idx a b : Nat} {C : String} {T : u_T} {N : Nat} {ty : Nat → FieldType} {g : hS → Option (α × hS)} (hf : fF c k C T N ty) (hfi : fR c k) (hfin : (T k).2.2.2 = false ∨ ((T k).2.2.2 = true ∧ M.2.2.2.2.1 = "<init>" ∧ (T k).1 = M.1)) (hty : narrow (ty k) (.ref b) = .ref b ∧ fits (ty k) (.ref b) = true) (hd : dI M.2.1 pc q (.putfield idx) 3) (hl : Cond.fieldLink M.1 idx (T k).1 (T k).2.1 (T k).2.2.1 ∈ tbG)
    (kk : ∀ s', Jo E M cv q ls st s' (g s')) : Jo E M cv pc ls (.ref b :: .ref a :: st) s ((pR s a c k b).bind g) := by
  by_cases hc : (s.2.2.1 a).1 = c
  · obtain ⟨hd, rfl⟩ := hd
    rw [show pR s a c k b = some (uR s a k (some b)) by simp [pR, hc]]
    refine Jo.write (s' := uR s a k (some b)) rfl rfl (fun p e R s0 m args below meth cd H locs cells slots lsA Q C hH hS _ k9 => ?_) (kk _)
    exact put_core (s' := uR s a k (some b)) hf hfin hd hl hty.1 hty.2 C hH hS hc (List.getElem?_eq_some_iff.mp (hfi.1 s a)).1 rfl rfl (fun b' hb => hs_pic_congr rfl rfl (uR_R hb)) (hfi.2 s a (some b)) k9
  · rw [show pR s a c k b = none by simp [pR, hc]]
    exact Jo_none
/-- kinds of int arrays: their number, their place among the types -/
theorem aI_some {s : hS} {a t : Nat} {i : Int32} (h : (s.2.2.1 a).1 = t ∧ ¬ (i < 0 ∨ (s.2.2.1 a).2 ≤ i.toNatClampNeg)) : aI s a t i = some (s.2.2.2.1 a i.toNatClampNeg) := by rw [aI, if_pos h]
theorem aI_none {s : hS} {a t : Nat} {i : Int32} (h : ¬ ((s.2.2.1 a).1 = t ∧ ¬ (i < 0 ∨ (s.2.2.1 a).2 ≤ i.toNatClampNeg))) : aI s a t i = none := by rw [aI, if_neg h]
theorem sI_some {s : hS} {a t : Nat} {i x : Int32} (h : (s.2.2.1 a).1 = t ∧ ¬ (i < 0 ∨ (s.2.2.1 a).2 ≤ i.toNatClampNeg)) : sI s a t i x = some (uI s a i.toNatClampNeg x) := by rw [sI, if_pos h]
theorem sI_none {s : hS} {a t : Nat} {i x : Int32} (h : ¬ ((s.2.2.1 a).1 = t ∧ ¬ (i < 0 ∨ (s.2.2.1 a).2 ≤ i.toNatClampNeg))) : sI s a t i x = none := by rw [sI, if_neg h]
theorem Jo_iaload {a : Nat} {i : Int32} {g : Int32 → Option (α × hS)} (hd : dI M.2.1 pc q .iaload 1) (kk : ∀ x, Jo E M cv q ls (.int x :: st) s (g x)) : Jo E M cv pc ls (.int i :: .ref a :: st) s ((aI s a 10 i).bind g) := by
  by_cases hc : (s.2.2.1 a).1 = 10 ∧ ¬ (i < 0 ∨ (s.2.2.1 a).2 ≤ i.toNatClampNeg)
  · obtain ⟨hd, rfl⟩ := hd
    rw [aI_some hc]
    exact Jo.read (fun p e R s0 m args below meth cd H locs cells slots lsA Q C hH hS k9 => va_iald C.1 C.2.1 C.2.2.2.2.2.2.2.2.2.1.1 hH.2.2.1 (a - E.2.1) 2 (by rw [hs_in hH hc.1 (by omega), hs_picI hc.1 (by omega) (by omega)]) rfl hc.2 hd k9) (kk _)
  · rw [aI_none hc]; exact Jo_none
theorem Jo_baload {a : Nat} {i : Int32} {g : Int32 → Option (α × hS)} (hd : dI M.2.1 pc q .baload 1) (kk : ∀ x, Jo E M cv q ls (.int x :: st) s (g x)) : Jo E M cv pc ls (.int i :: .ref a :: st) s ((aI s a 8 i).bind g) := by
  by_cases hc : (s.2.2.1 a).1 = 8 ∧ ¬ (i < 0 ∨ (s.2.2.1 a).2 ≤ i.toNatClampNeg)
  · obtain ⟨hd, rfl⟩ := hd
    rw [aI_some hc]
    exact Jo.read (fun p e R s0 m args below meth cd H locs cells slots lsA Q C hH hS k9 => va_bald C.1 C.2.1 C.2.2.2.2.2.2.2.2.2.1.1 hH.2.2.1 (a - E.2.1) 0 (by rw [hs_in hH hc.1 (by omega), hs_picI hc.1 (by omega) (by omega)]) rfl hc.2 hd k9) (kk _)
  · rw [aI_none hc]; exact Jo_none
theorem Jo_zaload {a : Nat} {i : Int32} {g : Int32 → Option (α × hS)} (hd : dI M.2.1 pc q .baload 1) (kk : ∀ x, Jo E M cv q ls (.int x :: st) s (g x)) : Jo E M cv pc ls (.int i :: .ref a :: st) s ((aI s a 11 i).bind g) := by
  by_cases hc : (s.2.2.1 a).1 = 11 ∧ ¬ (i < 0 ∨ (s.2.2.1 a).2 ≤ i.toNatClampNeg)
  · obtain ⟨hd, rfl⟩ := hd
    rw [aI_some hc]
    exact Jo.read (fun p e R s0 m args below meth cd H locs cells slots lsA Q C hH hS k9 => va_zald C.1 C.2.1 C.2.2.2.2.2.2.2.2.2.1.1 hH.2.2.1 (a - E.2.1) 3 (by rw [hs_in hH hc.1 (by omega), hs_picI hc.1 (by omega) (by omega)]) rfl hc.2 hd k9) (kk _)
  · rw [aI_none hc]; exact Jo_none
theorem Jo_caload {a : Nat} {i : Int32} {g : Int32 → Option (α × hS)} (hd : dI M.2.1 pc q .caload 1) (kk : ∀ x, Jo E M cv q ls (.int x :: st) s (g x)) : Jo E M cv pc ls (.int i :: .ref a :: st) s ((aI s a 9 i).bind g) := by
  by_cases hc : (s.2.2.1 a).1 = 9 ∧ ¬ (i < 0 ∨ (s.2.2.1 a).2 ≤ i.toNatClampNeg)
  · obtain ⟨hd, rfl⟩ := hd
    rw [aI_some hc]
    exact Jo.read (fun p e R s0 m args below meth cd H locs cells slots lsA Q C hH hS k9 => va_cald C.1 C.2.1 C.2.2.2.2.2.2.2.2.2.1.1 hH.2.2.1 (a - E.2.1) 1 (by rw [hs_in hH hc.1 (by omega), hs_picI hc.1 (by omega) (by omega)]) rfl hc.2 hd k9) (kk _)
  · rw [aI_none hc]; exact Jo_none
theorem Jo_aaload {a t t0 : Nat} {C0 : String} {i : Int32} {g : Nat → Option (α × hS)} (ht : (∀ E, (hs_tys E)[t0]? = some (E.2.2.2.1 t, .object C0)) ∧ ¬ t < 12 ∧ t < 15) (hd : dI M.2.1 pc q .aaload 1) (kk : ∀ x, Jo E M cv q ls (.ref x :: st) s (g x)) : Jo E M cv pc ls (.int i :: .ref a :: st) s ((aR s a t i).bind g) := by
  by_cases hc : (s.2.2.1 a).1 = t ∧ ¬ (i < 0 ∨ (s.2.2.1 a).2 ≤ i.toNatClampNeg)
  · obtain ⟨hd, rfl⟩ := hd
    rw [aR, if_pos hc]
    cases hx : s.2.2.2.2 a i.toNatClampNeg with
    | none => exact Jo_none
    | some b =>
      refine Jo.read (fun p e R s0 m args below meth cd H locs cells slots lsA Q C hH hS k9 => ?_) (kk b)
      refine va_aldq C.1 C.2.1 C.2.2.2.2.2.2.2.2.2.1.1 hH.2.2.1 (a - E.2.1) t0 (by rw [hs_in hH hc.1 ht.2.2, hs_picR hc.1 ht.2.1]) (ht.1 E) hc.2 hd ?_
      rw [hx]
      exact k9
  · rw [aR, if_neg hc]; exact Jo_none
theorem Jo_alen {a t t0 : Nat} {ty : FieldType} {g : Int32 → Option (α × hS)} (ht : (∀ E, (hs_tys E)[t0]? = some (E.2.2.2.1 t, ty)) ∧ ¬ t < 8 ∧ t < 15) (hd : dI M.2.1 pc q .arraylength 1) (kk : ∀ x, Jo E M cv q ls (.int x :: st) s (g x)) : Jo E M cv pc ls (.ref a :: st) s ((aL s a t).bind g) := by
  by_cases hc : (s.2.2.1 a).1 = t
  · obtain ⟨hd, rfl⟩ := hd
    rw [aL, if_pos hc]
    refine Jo.read (fun p e R s0 m args below meth cd H locs cells slots lsA Q C hH hS k9 => ?_) (kk _)
    by_cases h12 : t < 12
    · exact va_alen C.1 C.2.1 C.2.2.2.2.2.2.2.2.2.1.1 hH.2.2.1 (a - E.2.1) t0 (by rw [hs_in hH hc ht.2.2, hs_picI hc ht.2.1 h12]) (ht.1 E) rfl hd k9
    · exact va_alen C.1 C.2.1 C.2.2.2.2.2.2.2.2.2.1.1 hH.2.2.1 (a - E.2.1) t0 (by rw [hs_in hH hc ht.2.2, hs_picR hc h12]) (ht.1 E) rfl hd k9
  · rw [aL, if_neg hc]; exact Jo_none
theorem hs_H.putI {H H1 : Heap} {a t j : Nat} {x : Int32} (hH : hs_H E s H) (hc : (s.2.2.1 a).1 = t) (h8 : ¬ t < 8) (h12 : t < 12) (e1 : H1[a]? = some (vp_cell (E.2.2.2.1 t) ((s.2.2.1 a).2, .inl (upd (s.2.2.2.1 a) j x)))) (e2 : H1.size = H.size) (e3 : ∀ q, q ≠ a → H1[q]? = H[q]?) : hs_H E (uI s a j x) H1 := by
  refine hH.put rfl (fun _ => rfl) (fun b hb => hs_pic_congr rfl (uI_I hb) rfl) e2 e3 ?_
  have : hs_pic E (uI s a j x) a = .inl (E.2.2.2.1 t, (s.2.2.1 a).2, .inl (upd (s.2.2.2.1 a) j x)) := by
    rw [hs_picI (s := uI s a j x) hc h8 h12, uI_self]
    rfl
  rw [this]
  exact e1
theorem Jo_iastore {a : Nat} {i x : Int32} {g : hS → Option (α × hS)} (hd : dI M.2.1 pc q .iastore 1) (kk : ∀ s', Jo E M cv q ls st s' (g s')) : Jo E M cv pc ls (.int x :: .int i :: .ref a :: st) s ((sI s a 10 i x).bind g) := by
  by_cases hc : (s.2.2.1 a).1 = 10 ∧ ¬ (i < 0 ∨ (s.2.2.1 a).2 ≤ i.toNatClampNeg)
  · obtain ⟨hd, rfl⟩ := hd
    rw [sI_some hc]
    refine Jo.write (s' := uI s a i.toNatClampNeg x) rfl rfl (fun p e R s0 m args below meth cd H locs cells slots lsA Q C hH hS _ k9 => ?_) (kk _)
    have hat := hH.at hc.1 (by omega)
    rw [hs_picI hc.1 (by omega) (by omega)] at hat
    refine W.iast C.1 C.2.1 hat ((C.2.2.2.2.2.2.2.2.2.1.1.2 2 _ rfl).1 _ (fun j => .int (s.2.2.2.1 a j))) (fun q => by cases q) (by show ¬ (i < 0 ∨ (arrV _ _ _).slots.size ≤ _); rw [arrV_size]; exact hc.2) rfl rfl hd fun H1 e1 z oq => ?_
    refine k9 H1 _ (hH.putI hc.1 (by omega) (by omega) ?_ z oq) (hS.put z oq (hH.2.2.2 a (by omega)).1)
    rw [e1]
    rw [vp_cell_i, vp_cell_i, arrV_store]
    congr 2
    funext q
    by_cases hq : q = i.toNatClampNeg
    · subst hq; simp [updV, upd]
    · simp [updV, upd, hq]
  · rw [sI_none hc]; exact Jo_none
theorem Jo_bastore {a : Nat} {i x : Int32} {g : hS → Option (α × hS)} (hd : dI M.2.1 pc q .bastore 1) (kk : ∀ s', Jo E M cv q ls st s' (g s')) : Jo E M cv pc ls (.int x :: .int i :: .ref a :: st) s ((sI s a 8 i (vp_nar .byte x)).bind g) := by
  by_cases hc : (s.2.2.1 a).1 = 8 ∧ ¬ (i < 0 ∨ (s.2.2.1 a).2 ≤ i.toNatClampNeg)
  · obtain ⟨hd, rfl⟩ := hd
    rw [sI_some hc]
    refine Jo.write (s' := uI s a i.toNatClampNeg (vp_nar .byte x)) rfl rfl (fun p e R s0 m args below meth cd H locs cells slots lsA Q C hH hS _ k9 => ?_) (kk _)
    have hat := hH.at hc.1 (by omega)
    rw [hs_picI hc.1 (by omega) (by omega)] at hat
    refine W.bast C.1 C.2.1 hat ((C.2.2.2.2.2.2.2.2.2.1.1.2 0 _ rfl).1 _ (fun j => .int (s.2.2.2.1 a j))) (fun q => by cases q) (by show ¬ (i < 0 ∨ (arrV _ _ _).slots.size ≤ _); rw [arrV_size]; exact hc.2) rfl rfl hd fun H1 e1 z oq => ?_
    refine k9 H1 _ (hH.putI hc.1 (by omega) (by omega) ?_ z oq) (hS.put z oq (hH.2.2.2 a (by omega)).1)
    rw [e1]
    rw [vp_cell_i, vp_cell_i, arrV_store]
    congr 2
    funext q
    by_cases hq : q = i.toNatClampNeg
    · subst hq; simp [updV, upd, vp_nar, narrow]
    · simp [updV, upd, hq]
  · rw [sI_none hc]; exact Jo_none
theorem Jo_zastore {a : Nat} {i x : Int32} {g : hS → Option (α × hS)} (hd : dI M.2.1 pc q .bastore 1) (kk : ∀ s', Jo E M cv q ls st s' (g s')) : Jo E M cv pc ls (.int x :: .int i :: .ref a :: st) s ((sI s a 11 i (vp_nar .boolean x)).bind g) := by
  by_cases hc : (s.2.2.1 a).1 = 11 ∧ ¬ (i < 0 ∨ (s.2.2.1 a).2 ≤ i.toNatClampNeg)
  · obtain ⟨hd, rfl⟩ := hd
    rw [sI_some hc]
    refine Jo.write (s' := uI s a i.toNatClampNeg (vp_nar .boolean x)) rfl rfl (fun p e R s0 m args below meth cd H locs cells slots lsA Q C hH hS _ k9 => ?_) (kk _)
    have hat := hH.at hc.1 (by omega)
    rw [hs_picI hc.1 (by omega) (by omega)] at hat
    refine W.zast C.1 C.2.1 hat ((C.2.2.2.2.2.2.2.2.2.1.1.2 3 _ rfl).1 _ (fun j => .int (s.2.2.2.1 a j))) (fun q => by cases q) (by show ¬ (i < 0 ∨ (arrV _ _ _).slots.size ≤ _); rw [arrV_size]; exact hc.2) rfl rfl hd fun H1 e1 z oq => ?_
    refine k9 H1 _ (hH.putI hc.1 (by omega) (by omega) ?_ z oq) (hS.put z oq (hH.2.2.2 a (by omega)).1)
    rw [e1]
    rw [vp_cell_i, vp_cell_i, arrV_store]
    congr 2
    funext q
    by_cases hq : q = i.toNatClampNeg
    · subst hq; simp [updV, upd, vp_nar, narrow]
    · simp [updV, upd, hq]
  · rw [sI_none hc]; exact Jo_none
theorem Jo_castore {a : Nat} {i x : Int32} {g : hS → Option (α × hS)} (hd : dI M.2.1 pc q .castore 1) (kk : ∀ s', Jo E M cv q ls st s' (g s')) : Jo E M cv pc ls (.int x :: .int i :: .ref a :: st) s ((sI s a 9 i (vp_nar .char x)).bind g) := by
  by_cases hc : (s.2.2.1 a).1 = 9 ∧ ¬ (i < 0 ∨ (s.2.2.1 a).2 ≤ i.toNatClampNeg)
  · obtain ⟨hd, rfl⟩ := hd
    rw [sI_some hc]
    refine Jo.write (s' := uI s a i.toNatClampNeg (vp_nar .char x)) rfl rfl (fun p e R s0 m args below meth cd H locs cells slots lsA Q C hH hS _ k9 => ?_) (kk _)
    have hat := hH.at hc.1 (by omega)
    rw [hs_picI hc.1 (by omega) (by omega)] at hat
    refine W.cast C.1 C.2.1 hat ((C.2.2.2.2.2.2.2.2.2.1.1.2 1 _ rfl).1 _ (fun j => .int (s.2.2.2.1 a j))) (fun q => by cases q) (by show ¬ (i < 0 ∨ (arrV _ _ _).slots.size ≤ _); rw [arrV_size]; exact hc.2) rfl rfl hd fun H1 e1 z oq => ?_
    refine k9 H1 _ (hH.putI hc.1 (by omega) (by omega) ?_ z oq) (hS.put z oq (hH.2.2.2 a (by omega)).1)
    rw [e1]
    rw [vp_cell_i, vp_cell_i, arrV_store]
    congr 2
    funext q
    by_cases hq : q = i.toNatClampNeg
    · subst hq; simp [updV, upd, vp_nar, narrow]
    · simp [updV, upd, hq]
  · rw [sI_none hc]; exact Jo_none
theorem Jo_aastore {a b t t0 c0 : Nat} {r0 : vw_C} {i : Int32} {g : hS → Option (α × hS)} (ht : (∀ E, (hs_tys E)[t0]? = some (E.2.2.2.1 t, .object r0.1)) ∧ ¬ t < 12 ∧ t < 15 ∧ classes[c0]? = some r0 ∧ c0 < 8) (hd : dI M.2.1 pc q .aastore 1) (kk : ∀ s', Jo E M cv q ls st s' (g s')) : Jo E M cv pc ls (.ref b :: .int i :: .ref a :: st) s ((sR s a t i b c0).bind g) := by
  by_cases hc : (s.2.2.1 a).1 = t ∧ (s.2.2.1 b).1 = c0 ∧ ¬ (i < 0 ∨ (s.2.2.1 a).2 ≤ i.toNatClampNeg)
  · obtain ⟨hd, rfl⟩ := hd
    rw [sR, if_pos hc]
    refine Jo.write (s' := uR s a i.toNatClampNeg (some b)) rfl rfl (fun p e R s0 m args below meth cd H locs cells slots lsA Q C hH hS _ k9 => ?_) (kk _)
    have hK := C.2.2.2.2.2.2.2.2.2.1.1
    have hat := hH.at hc.1 ht.2.2.1
    rw [hs_picR hc.1 ht.2.1] at hat
    have hlt : i.toNatClampNeg < (s.2.2.1 a).2 := Nat.not_le.mp fun q => hc.2.2 (Or.inr q)
    have h0 : ¬ i < 0 := fun q => hc.2.2 (Or.inl q)
    have hbt := hH.at hc.2.1 (by have := ht.2.2.2.2; omega)
    rw [hs_picO hc.2.1 ht.2.2.2.2] at hbt
    obtain ⟨r', hr', cellV, g1, g2, g3, -⟩ := hbt
    have hcls := (hK.1 c0 r0 ht.2.2.2.1).2
    obtain ⟨kA, comp, k1, k2, k3, -⟩ := (hK.2 t0 _ (ht.1 E)).2
    have hcomp : comp = E.2.2.1.1 c0 := Option.some.inj (k3.symm.trans hcls.1)
    subst hcomp
    have hcls' := hcls
    obtain ⟨kC, hkC, -⟩ := hcls.2
    refine W.aast C.1 C.2.1 hat (fun q h => by cases h) (fun h => by cases h) k1 k2 rfl hkC ⟨h0, by show _ < (arrV _ _ _).slots.size; rw [arrV_size]; exact hlt⟩ g1 (fun q h => by rw [g3] at h; cases h) (by rw [g2]; exact hkC) (by rw [g2]; exact va_assign hcls') rfl rfl hd fun H1 e1 z oq => ?_
    refine k9 H1 _ (hH.put rfl (fun _ => rfl) (fun b' hb => hs_pic_congr rfl rfl (uR_R hb)) z oq ?_) (hS.put z oq (hH.2.2.2 a (by omega)).1)
    have hp : hs_pic E (uR s a i.toNatClampNeg (some b)) a = .inl (E.2.2.2.1 t, (s.2.2.1 a).2, .inr (.inr (.inr (.inr (va_up (s.2.2.2.2 a) i.toNatClampNeg (some b)))))) := by
      rw [hs_picR (s := uR s a i.toNatClampNeg (some b)) hc.1 ht.2.1, uR_self]
      rfl
    rw [hp]
    show H1[a]? = some (vp_cell _ _)
    rw [e1]
    rw [vp_cell_q, vp_cell_q, arrV_store]
    congr 2
    funext q
    by_cases hq : q = i.toNatClampNeg
    · subst hq; simp [updV, va_up, va_rf]
    · simp [updV, va_up, hq]
  · rw [sR, if_neg hc]; exact Jo_none
end JP
