section JX
variable {α : Type} {E : jE} {M : jM} {cv : α → Option Value} {pc q : Nat} {ls ls' : List (Nat × Value)} {st : List Value} {s : hS} {o : Option (α × hS)}
theorem i32ne {x v : Int32} (n : Int) (hv : v.toInt = n) (h : ¬ x = v) : x.toInt ≠ n := fun e => h (Int32.toInt_inj.mp (e.trans hv.symm))
theorem Jo_case {x v : Int32} {o1 o2 : Option (α × hS)} (k1 : Jo E M cv pc ls (.int v :: st) s o1) (k2 : ¬ x = v → Jo E M cv pc ls (.int x :: st) s o2) : Jo E M cv pc ls (.int x :: st) s (if x = v then o1 else o2) := by
  by_cases h : x = v
  · subst h
    rw [if_pos rfl]
    exact k1
  · rw [if_neg h]
    exact k2 h
theorem Jo_tabIn {dflt lo hi : Int} {offs : Array Int} {len : Nat} {v : Int32} {off : Int} (tgt : Nat) (hd : decode M.2.1 pc = .ok (.tableswitch dflt lo hi offs, len)) (h1 : ¬ v.toInt < lo) (h2 : ¬ hi < v.toInt) (ho : offs[(v.toInt - lo).toNat]? = some off) (ht : (pc : Int) + off = (tgt : Int)) (k : Jo E M cv tgt ls st s o) : Jo E M cv pc ls (.int v :: st) s o :=
  Jo.pure (fun _ _ _ _ _ _ _ _ _ _ _ _ _ lsA _ C _ hl0 _ _ kk => lv_tableIn C.1 C.2.1 hd h1 h2 ho ht (kk lsA hl0)) k
theorem Jo_tabOut {dflt lo hi : Int} {offs : Array Int} {len : Nat} {x : Int32} (tgt : Nat) (hd : decode M.2.1 pc = .ok (.tableswitch dflt lo hi offs, len)) (h : x.toInt < lo ∨ hi < x.toInt) (ht : (pc : Int) + dflt = (tgt : Int)) (k : Jo E M cv tgt ls st s o) : Jo E M cv pc ls (.int x :: st) s o :=
  Jo.pure (fun _ _ _ _ _ _ _ _ _ _ _ _ _ lsA _ C _ hl0 _ _ kk => lv_tableOut C.1 C.2.1 hd h ht (kk lsA hl0)) k
theorem Jo_look {dflt : Int} {ps : Array (Int × Int)} {len : Nat} {x : Int32} {off : Int} (tgt : Nat) (hd : decode M.2.1 pc = .ok (.lookupswitch dflt ps, len)) (hp : (ps.toList.zip (ps.toList.drop 1)).all (fun (a, next) => a.1 < next.1) = true) (ho : Op.lookupswitch.offset ps.toList dflt x.toInt = off) (ht : (pc : Int) + off = (tgt : Int)) (k : Jo E M cv tgt ls st s o) : Jo E M cv pc ls (.int x :: st) s o :=
  Jo.pure (fun _ _ _ _ _ _ _ _ _ _ _ _ _ lsA _ C _ hl0 _ _ kk => lv_lookup C.1 C.2.1 hd hp ho ht (kk lsA hl0)) k
theorem Jo_ifnonnull {a : Nat} {off : Int} (tgt : Nat) (hd : decode M.2.1 pc = .ok (.ifnonnull off, 3)) (ht : (pc : Int) + off = (tgt : Int)) (k : Jo E M cv tgt ls st s o) : Jo E M cv pc ls (.ref a :: st) s o :=
  Jo.pure (fun _ _ _ _ _ _ _ _ _ _ _ _ _ lsA _ C _ hl0 _ _ kk => lv_ifnonnull C.1 C.2.1 hd ht (kk lsA hl0)) k
theorem Jo_ifnull {a : Nat} {off : Int} (hd : decode M.2.1 pc = .ok (.ifnull off, 3)) (hq : pc + 3 = q) (k : Jo E M cv q ls st s o) : Jo E M cv pc ls (.ref a :: st) s o := by
  subst hq
  exact Jo.pure (fun _ _ _ _ _ _ _ _ _ _ _ _ _ lsA _ C _ hl0 _ _ kk => lv_ifnull C.1 C.2.1 hd (kk lsA hl0)) k
/-- the static array ABOVE, which nobody writes -/
theorem Jo_above {idx : Nat} (hd : dI M.2.1 pc q (.getstatic idx) 3) (hl : Cond.fieldLink M.1 idx "HeronTalk" "ABOVE" "[I" ∈ tbG) (k : Jo E M cv q ls (.ref E.2.2.2.2.1 :: st) s o) : Jo E M cv pc ls st s o := by
  obtain ⟨hd, rfl⟩ := hd
  exact Jo.pure (fun _ _ _ _ _ _ _ _ _ _ _ _ _ lsA _ C hS hl0 _ _ kk => va_gets C.1 C.2.1 C.2.2.2.2.2.2.2.2.2.2.1.1 hS C.2.2.2.1 (C.2.2.2.2.1 _ hl) (fun _ h => h) hd (kk lsA hl0)) k
theorem Jo_abovelen (hd : dI M.2.1 pc q .arraylength 1) (k : Jo E M cv q ls (.int 6 :: st) s o) : Jo E M cv pc ls (.ref E.2.2.2.2.1 :: st) s o := by
  obtain ⟨hd, rfl⟩ := hd
  exact Jo.pure (fun _ _ _ _ _ _ _ _ _ _ _ _ _ lsA _ C hS hl0 _ _ kk => va_tlen C.1 C.2.1 C.2.2.2.2.2.2.2.2.2.2.1.2.1 hS rfl hd (kk lsA hl0)) k
def abv (i : Int32) : Option Int32 := if i < 0 ∨ 6 ≤ i.toNatClampNeg then none else some (hs_above i.toNatClampNeg)
theorem Jo_aboveld {i : Int32} {g : Int32 → Option (α × hS)} (hd : dI M.2.1 pc q .iaload 1) (k : ∀ x, Jo E M cv q ls (.int x :: st) s (g x)) : Jo E M cv pc ls (.int i :: .ref E.2.2.2.2.1 :: st) s ((abv i).bind g) := by
  by_cases hc : i < 0 ∨ 6 ≤ i.toNatClampNeg
  · rw [abv, if_pos hc]; exact Jo_none
  · rw [abv, if_neg hc]
    obtain ⟨hd, rfl⟩ := hd
    exact Jo.pure (fun _ _ _ _ _ _ _ _ _ _ _ _ _ lsA _ C hS hl0 _ _ kk => va_ti C.1 C.2.1 C.2.2.2.2.2.2.2.2.2.2.1.2.1 hS hc rfl hd (kk lsA hl0)) (k _)
theorem Jo_max {x y : Int32} {idx : Nat} (hd : dI M.2.1 pc q (.invokestatic idx) 3) (hw : Cond.methodLink M.1 idx Lib.Math.max.name ∈ tbG ∧ Cond.static Lib.Math.max.name ∈ tbG ∧ Cond.initialized "java/lang/Math" ∈ tbG ∧ Cond.code Lib.Math.max.name Lib.Math.max.code 2 (some .int) ∈ tbG) (hr : 1 ≤ M.2.2.2.2.2.1 ∧ (st.map fun v => v.category).sum + 13 ≤ M.2.2.2.2.2.2) (k : Jo E M cv q ls (.int (if x < y then y else x) :: st) s o) : Jo E M cv pc ls (.int y :: .int x :: st) s o := by
  obtain ⟨hd, rfl⟩ := hd
  exact Jo.pure (fun _ _ _ _ _ _ _ _ _ _ _ _ _ lsA _ C _ hl0 h1 h2 kk => va_mmax C.1 C.2.1 (by rw [C.2.2.2.2.2.2.1]; exact hl0.1.symm) C.2.2.2.1 (C.2.2.2.2.1 _ hw.1) (C.2.2.2.2.1 _ hw.2.1) (C.2.2.2.2.1 _ hw.2.2.1) (C.2.2.2.2.1 _ hw.2.2.2) (Nat.le_trans hr.1 C.2.2.2.2.2.2.2.1.1) (Nat.le_trans hr.2 C.2.2.2.2.2.2.2.1.2) h1 h2 hd (kk lsA hl0)) k
theorem Jo_min {x y : Int32} {idx : Nat} (hd : dI M.2.1 pc q (.invokestatic idx) 3) (hw : Cond.methodLink M.1 idx Lib.Math.min.name ∈ tbG ∧ Cond.static Lib.Math.min.name ∈ tbG ∧ Cond.initialized "java/lang/Math" ∈ tbG ∧ Cond.code Lib.Math.min.name Lib.Math.min.code 2 (some .int) ∈ tbG) (hr : 1 ≤ M.2.2.2.2.2.1 ∧ (st.map fun v => v.category).sum + 13 ≤ M.2.2.2.2.2.2) (k : Jo E M cv q ls (.int (if y < x then y else x) :: st) s o) : Jo E M cv pc ls (.int y :: .int x :: st) s o := by
  obtain ⟨hd, rfl⟩ := hd
  exact Jo.pure (fun _ _ _ _ _ _ _ _ _ _ _ _ _ lsA _ C _ hl0 h1 h2 kk => va_mmin C.1 C.2.1 (by rw [C.2.2.2.2.2.2.1]; exact hl0.1.symm) C.2.2.2.1 (C.2.2.2.2.1 _ hw.1) (C.2.2.2.2.1 _ hw.2.1) (C.2.2.2.2.1 _ hw.2.2.1) (C.2.2.2.2.1 _ hw.2.2.2) (Nat.le_trans hr.1 C.2.2.2.2.2.2.2.1.1) (Nat.le_trans hr.2 C.2.2.2.2.2.2.2.1.2) h1 h2 hd (kk lsA hl0)) k
/-- ints of one row into another -/
def hcpy (s : hS) (a0 : Nat) (sp : Int32) (a : Nat) (dp n : Int32) : Option hS :=
  if ((s.2.2.1 a0).1 = 10 ∧ (s.2.2.1 a).1 = 10) ∧ (¬ sp < 0 ∧ ¬ dp < 0 ∧ ¬ n < 0) ∧ sp.toNatClampNeg + n.toNatClampNeg ≤ (s.2.2.1 a0).2 ∧ dp.toNatClampNeg + n.toNatClampNeg ≤ (s.2.2.1 a).2 then some (s.1, s.2.1, s.2.2.1, fun b => if b = a then va_cpy (s.2.2.2.1 a0) (s.2.2.2.1 a) sp.toNatClampNeg dp.toNatClampNeg n.toNatClampNeg else s.2.2.2.1 b, s.2.2.2.2) else none
theorem nn_i (z : Int32) (hz : ¬ z < 0) : z.toInt = (z.toNatClampNeg : Int) := by
  have hz0 : (0 : Int) ≤ z.toInt := by
    have := Int32.not_lt.mp hz
    simpa using Int32.le_iff_toInt_le.mp this
  show z.toInt = ((z.toInt.toNat : Nat) : Int)
  omega
theorem Jo_copy {a0 a idx : Nat} {sp dp n : Int32} {g : hS → Option (α × hS)} (hd : dI M.2.1 pc q (.invokestatic idx) 3) (hw : Cond.methodLink M.1 idx arraycopyName ∈ tbG ∧ Cond.native arraycopyName ∈ tbG ∧ Cond.static arraycopyName ∈ tbG ∧ Cond.initialized "java/lang/System" ∈ tbG) (hr : 1 ≤ M.2.2.2.2.2.1 ∧ (st.map fun v => v.category).sum + (nativeFrameWords "java/lang/System" "arraycopy" 5 + 11) ≤ M.2.2.2.2.2.2) (k : ∀ s', Jo E M cv q ls st s' (g s')) : Jo E M cv pc ls (.int n :: .int dp :: .ref a :: .int sp :: .ref a0 :: st) s ((hcpy s a0 sp a dp n).bind g) := by
  by_cases hc : ((s.2.2.1 a0).1 = 10 ∧ (s.2.2.1 a).1 = 10) ∧ (¬ sp < 0 ∧ ¬ dp < 0 ∧ ¬ n < 0) ∧ sp.toNatClampNeg + n.toNatClampNeg ≤ (s.2.2.1 a0).2 ∧ dp.toNatClampNeg + n.toNatClampNeg ≤ (s.2.2.1 a).2
  · rw [hcpy, if_pos hc]
    obtain ⟨⟨hk0, hk1⟩, ⟨h1, h2, h3⟩, h4, h5⟩ := hc
    obtain ⟨hd, rfl⟩ := hd
    refine Jo.write (s' := (s.1, s.2.1, s.2.2.1, fun b => if b = a then va_cpy (s.2.2.2.1 a0) (s.2.2.2.1 a) sp.toNatClampNeg dp.toNatClampNeg n.toNatClampNeg else s.2.2.2.1 b, s.2.2.2.2)) rfl rfl (fun p e R s0 m args below meth cd H locs cells slots lsA Q C hH hS hsz k9 => ?_) (k _)
    have hts := C.2.2.2.2.1
    have hK := C.2.2.2.2.2.2.2.2.2.1.1
    have h8 := C.2.2.2.2.2.2.2.1
    have hc0 := hH.at hk0 (by omega)
    have hc1 := hH.at hk1 (by omega)
    rw [hs_picI hk0 (by omega) (by omega)] at hc0
    rw [hs_picI hk1 (by omega) (by omega)] at hc1
    replace hc0 : H[a0]? = some (vp_cell (E.2.2.2.1 10) ((s.2.2.1 a0).2, .inl (s.2.2.2.1 a0))) := hc0
    replace hc1 : H[a]? = some (vp_cell (E.2.2.2.1 10) ((s.2.2.1 a).2, .inl (s.2.2.2.1 a))) := hc1
    obtain ⟨-, kA, hkA, cm, hkk⟩ := (hK.2 2 _ rfl).1 0 (fun _ => .int 0)
    have hbA := (hH.2.2.2 a (by omega)).1
    have hl : a < H.size := (Array.getElem?_eq_some_iff.mp hc1).1
    intro T hT X
    obtain ⟨vm', X', step⟩ := X.arraycopy C.1 C.2.2.2.1 (hts _ hw.1) (hts _ hw.2.1) (hts _ hw.2.2.1) (hts _ hw.2.2.2) (src := a0) (dst := a) (cs := vp_cell (E.2.2.2.1 10) ((s.2.2.1 a0).2, .inl (s.2.2.2.1 a0))) (cd := vp_cell (E.2.2.2.1 10) ((s.2.2.1 a).2, .inl (s.2.2.2.1 a))) (srcPos := sp) (destPos := dp) (n := n) (by rw [hT]; exact hc0) (by rw [hT]; exact hc1)
      (fun _ h => by cases h) (fun _ h => by cases h) (fun h => by cases h) (fun h => by cases h) hkA hkA hkk hkk (by simp [refKind]) h1 h2 h3
      (by rw [nn_i sp h1, nn_i n h3]; show ¬ _ > ((arrV _ _ (fun j => .int (s.2.2.2.1 a0 j))).slots.size : Int); rw [arrV_size]; omega)
      (by rw [nn_i dp h2, nn_i n h3]; show ¬ _ > ((arrV _ _ (fun j => .int (s.2.2.2.1 a j))).slots.size : Int); rw [arrV_size]; omega)
      (fun vm₁ _ i hi => by
        have e : (vp_cell (E.2.2.2.1 10) ((s.2.2.1 a0).2, .inl (s.2.2.2.1 a0))).slots.getD (sp.toNatClampNeg + i) .null = .int (s.2.2.2.1 a0 (sp.toNatClampNeg + i)) := by
          show (arrV _ _ (fun j => .int (s.2.2.2.1 a0 j))).slots.getD _ _ = _
          rw [Array.getD_eq_getD_getElem?, arrV_read _ _ (by omega)]
          rfl
        refine ⟨?_, ?_⟩
        · rw [e]; rfl
        · rw [e]; exact trivial)
      (g := F0 m pc lsA (.int n :: .int dp :: .ref a :: .int sp :: .ref a0 :: st)) rfl (by rw [C.2.2.2.2.2.2.1]; exact hsz) (rest := st) rfl (by rw [C.2.1]; exact hd) (Nat.le_trans hr.1 h8.1) (by show 2 * 0 + _ + _ ≤ _; have := hr.2; have := h8.2; omega)
    have e1 : copied (vp_cell (E.2.2.2.1 10) ((s.2.2.1 a0).2, .inl (s.2.2.2.1 a0))) (vp_cell (E.2.2.2.1 10) ((s.2.2.1 a).2, .inl (s.2.2.2.1 a))) sp dp n = vp_cell (E.2.2.2.1 10) ((s.2.2.1 a).2, .inl (va_cpy (s.2.2.2.1 a0) (s.2.2.2.1 a) sp.toNatClampNeg dp.toNatClampNeg n.toNatClampNeg)) := va_copied (fun z => .int z) _ _ _ _ h4
    rw [e1] at X' step
    generalize hcell : vp_cell (E.2.2.2.1 10) ((s.2.2.1 a).2, .inl (va_cpy (s.2.2.2.1 a0) (s.2.2.2.1 a) sp.toNatClampNeg dp.toNatClampNeg n.toNatClampNeg)) = cl at X' step
    have hheap : ((T.setVm vm').setCell a cl).heap = H.setIfInBounds a cl := by rw [← hT]; rfl
    have oq : ∀ q : Nat, q ≠ a → (H.setIfInBounds a cl)[q]? = H[q]? := fun q hq => by simp [Array.getElem?_setIfInBounds, Ne.symm hq]
    have z : (H.setIfInBounds a cl).size = H.size := by simp
    obtain ⟨t, a1, b1⟩ := k9 _ _ (hH.put (t := (s.1, s.2.1, s.2.2.1, fun b => if b = a then va_cpy (s.2.2.2.1 a0) (s.2.2.2.1 a) sp.toNatClampNeg dp.toNatClampNeg n.toNatClampNeg else s.2.2.2.1 b, s.2.2.2.2)) (a := a) rfl (fun _ => rfl) (fun b hb => hs_pic_congr rfl (by simp [hb]) rfl) z oq (by
        rw [hs_picI (s := (s.1, s.2.1, s.2.2.1, fun b => if b = a then va_cpy (s.2.2.2.1 a0) (s.2.2.2.1 a) sp.toNatClampNeg dp.toNatClampNeg n.toNatClampNeg else s.2.2.2.1 b, s.2.2.2.2)) (c := 10) hk1 (by omega) (by omega)]
        show (H.setIfInBounds a cl)[a]? = some (vp_cell _ _)
        rw [← hcell]
        simp [Array.getElem?_setIfInBounds, hl])) ⟨by rw [z]; exact hS.1, fun q g1 g2 => by
        rw [oq q (fun e => g2 (by rw [e]; exact hbA))]
        exact hS.2.1 q g1 g2, fun q hq => by
        rcases List.mem_append.mp hq with h | h
        · exact hS.2.2 q h
        · obtain ⟨z, -, hz⟩ := List.mem_map.mp h
          rw [← hz]
          exact hbA⟩ _ hheap X'
    exact ⟨t, step t a1, b1⟩
  · rw [hcpy, if_neg hc]; exact Jo_none
end JX
