def slen (k : Nat) : Int32 := Int32.ofNat (([5, 4, 4] : List Nat).getD k 0)
def sat (k : Nat) (i : Int32) : Option Int32 := if k < 3 ∧ ¬ (i < 0 ∨ ([5, 4, 4] : List Nat).getD k 0 ≤ i.toNatClampNeg) then some ((hs_byt.getD k []).getD i.toNatClampNeg 0) else none
section JS
variable {α β : Type} {E : jE} {M My : jM} {cv : α → Option Value} {cvy : β → Option Value} {pc q : Nat} {ls ls' : List (Nat × Value)} {st rest : List Value} {s : hS} {o : Option (α × hS)} {oy : Option (β × hS)} {g : β × hS → Option (α × hS)} {y : MethodName}
theorem Jo_ldcS0 {idx : Nat} (hd : dI M.2.1 pc q (.ldc idx) 2) (hM : (M.1, idx) = (RX0, 81)) (k : Jo E M cv q ls (.ref (E.2.2.2.2.2.1 0) :: st) s o) : Jo E M cv pc ls st s o := by
  obtain ⟨hd, rfl⟩ := hd
  obtain ⟨h1, h2⟩ := Prod.mk.inj hM
  subst h2
  exact Jo.pure (fun _ _ _ _ _ _ _ _ _ _ _ _ _ lsA _ C _ hl0 _ _ kk => va_ldcS C.1 C.2.1 (by rw [← h1]; exact C.2.2.2.1) C.2.2.2.2.2.2.2.2.2.1.2.2.2.1 hd (kk lsA hl0)) k
theorem Jo_ldcS1 {idx : Nat} (hd : dI M.2.1 pc q (.ldc idx) 2) (hM : (M.1, idx) = (RX0, 87)) (k : Jo E M cv q ls (.ref (E.2.2.2.2.2.1 1) :: st) s o) : Jo E M cv pc ls st s o := by
  obtain ⟨hd, rfl⟩ := hd
  obtain ⟨h1, h2⟩ := Prod.mk.inj hM
  subst h2
  exact Jo.pure (fun _ _ _ _ _ _ _ _ _ _ _ _ _ lsA _ C _ hl0 _ _ kk => va_ldcS C.1 C.2.1 (by rw [← h1]; exact C.2.2.2.1) C.2.2.2.2.2.2.2.2.2.1.2.2.2.2.1 hd (kk lsA hl0)) k
theorem Jo_ldcS2 {idx : Nat} (hd : dI M.2.1 pc q (.ldc idx) 2) (hM : (M.1, idx) = (RX0, 89)) (k : Jo E M cv q ls (.ref (E.2.2.2.2.2.1 2) :: st) s o) : Jo E M cv pc ls st s o := by
  obtain ⟨hd, rfl⟩ := hd
  obtain ⟨h1, h2⟩ := Prod.mk.inj hM
  subst h2
  exact Jo.pure (fun _ _ _ _ _ _ _ _ _ _ _ _ _ lsA _ C _ hl0 _ _ kk => va_ldcS C.1 C.2.1 (by rw [← h1]; exact C.2.2.2.1) C.2.2.2.2.2.2.2.2.2.1.2.2.2.2.2 hd (kk lsA hl0)) k
theorem Jo_sval {idx k : Nat} (hk : k < 3) (hd : dI M.2.1 pc q (.getfield idx) 3) (hl : Cond.fieldLink M.1 idx "java/lang/String" "value" "[B" ∈ tbG) (kk : Jo E M cv q ls (.ref (E.2.2.2.2.2.2.1 k) :: st) s o) : Jo E M cv pc ls (.ref (E.2.2.2.2.2.1 k) :: st) s o := by
  obtain ⟨hd, rfl⟩ := hd
  exact Jo.pure (fun _ _ _ _ _ _ _ _ _ _ _ _ _ lsA _ C hS hl0 _ _ k9 => vk_getf C.1 C.2.1 (C.2.2.2.2.2.2.2.2.2.2.1.2.2.2.2.1.1 k hk).2.2.1 hS C.2.2.2.1 (C.2.2.2.2.1 _ hl) (fun _ h => h) hd (k9 lsA hl0)) kk
theorem Jo_scod {idx k : Nat} (hk : k < 3) (hd : dI M.2.1 pc q (.getfield idx) 3) (hl : Cond.fieldLink M.1 idx "java/lang/String" "coder" "B" ∈ tbG) (kk : Jo E M cv q ls (.int 0 :: st) s o) : Jo E M cv pc ls (.ref (E.2.2.2.2.2.1 k) :: st) s o := by
  obtain ⟨hd, rfl⟩ := hd
  exact Jo.pure (fun _ _ _ _ _ _ _ _ _ _ _ _ _ lsA _ C hS hl0 _ _ k9 => vk_getf C.1 C.2.1 (C.2.2.2.2.2.2.2.2.2.2.1.2.2.2.2.1.1 k hk).2.1 hS C.2.2.2.1 (C.2.2.2.2.1 _ hl) (fun _ h => h) hd (k9 lsA hl0)) kk
theorem Jo_svlen {k : Nat} (hk : k < 3) (hd : dI M.2.1 pc q .arraylength 1) (kk : Jo E M cv q ls (.int (slen k) :: st) s o) : Jo E M cv pc ls (.ref (E.2.2.2.2.2.2.1 k) :: st) s o := by
  obtain ⟨hd, rfl⟩ := hd
  exact Jo.pure (fun _ _ _ _ _ _ _ _ _ _ _ _ _ lsA _ C hS hl0 _ _ k9 => va_tlen C.1 C.2.1 (C.2.2.2.2.2.2.2.2.2.2.1.2.2.2.2.1.1 k hk).2.2.2 hS rfl hd (k9 lsA hl0)) kk
theorem Jo_svld {k : Nat} {i : Int32} (hk : k < 3) (hi : ¬ (i < 0 ∨ ([5, 4, 4] : List Nat).getD k 0 ≤ i.toNatClampNeg)) (hd : dI M.2.1 pc q .baload 1) (kk : Jo E M cv q ls (.int ((hs_byt.getD k []).getD i.toNatClampNeg 0) :: st) s o) : Jo E M cv pc ls (.int i :: .ref (E.2.2.2.2.2.2.1 k) :: st) s o := by
  obtain ⟨hd, rfl⟩ := hd
  exact Jo.pure (fun _ _ _ _ _ _ _ _ _ _ _ _ _ lsA _ C hS hl0 _ _ k9 => va_tb C.1 C.2.1 (C.2.2.2.2.2.2.2.2.2.2.1.2.2.2.2.1.1 k hk).2.2.2 hS hi rfl hd (k9 lsA hl0)) kk
theorem Jo_compact {idx : Nat} (hd : dI M.2.1 pc q (.getstatic idx) 3) (hl : Cond.fieldLink M.1 idx "java/lang/String" "COMPACT_STRINGS" "Z" ∈ tbG) (k : Jo E M cv q ls (.int 1 :: st) s o) : Jo E M cv pc ls st s o := by
  obtain ⟨hd, rfl⟩ := hd
  exact Jo.pure (fun _ _ _ _ _ _ _ _ _ _ _ _ _ lsA _ C hS hl0 _ _ kk => va_gets C.1 C.2.1 C.2.2.2.2.2.2.2.2.2.2.1.2.2.1 hS C.2.2.2.1 (C.2.2.2.2.1 _ hl) (fun _ h => h) hd (kk lsA hl0)) k
theorem Jo_sioobe {idx : Nat} (hd : dI M.2.1 pc q (.getstatic idx) 3) (hl : Cond.fieldLink M.1 idx "jdk/internal/util/Preconditions" "SIOOBE_FORMATTER" "Ljava/util/function/BiFunction;" ∈ tbG) (k : ∀ v : Value, (v = .null ∨ ∃ t, v = .ref t) → Jo E M cv q ls (v :: st) s o) : Jo E M cv pc ls st s o := by
  obtain ⟨hd, rfl⟩ := hd
  intro r hr
  refine ⟨(k .null (Or.inl rfl) r hr).1, fun p e R s0 m args below meth c H locs cells slots lsA C hH hS h1 h2 hl0 => ?_⟩
  rcases C.2.2.2.2.2.2.2.2.2.2.1.2.2.2.1 with hz | ⟨t, hz⟩
  · exact va_gets C.1 C.2.1 hz hS C.2.2.2.1 (C.2.2.2.2.1 _ hl) (fun _ h => h) hd ((k .null (Or.inl rfl) r hr).2 p e R s0 m args below meth c H locs cells slots lsA C hH hS h1 h2 hl0)
  · exact va_gets C.1 C.2.1 hz hS C.2.2.2.1 (C.2.2.2.2.1 _ hl) (fun _ h => h) hd ((k (.ref t) (Or.inr ⟨t, rfl⟩) r hr).2 p e R s0 m args below meth c H locs cells slots lsA C hH hS h1 h2 hl0)
theorem Jo_tret {v : Int32} {ty : FieldType} (hr : M.2.2.2.1 = some ty) (hn : narrow ty (.int v) = .int v) (hd : dI M.2.1 pc q .ireturn 1) : Jo E M cvI pc ls [.int v] s (some (v, s)) := by
  intro r hr0
  cases hr0
  refine ⟨hs_le.rf s, fun p e R s0 m args below meth c H locs cells slots lsA C hH hS h1 h2 hl => ?_⟩
  simp only [Nat.sub_self, Nat.add_zero]
  exact W.zret (ty := ty) C.1 C.2.1 (by rw [C.2.2.1]; exact hr) hn (J.ret C hH hS) hS.2.2 hd.1 C.2.2.2.2.2.1
/-- a call whose answer is known -/
theorem Jo.call1 {av : List Value} {r1 : β × hS} (hK : jK E y My cvy av s (some r1))
    (h : ∀ (p : Program) (e : Env) (R : Room) (s0 : State) (m : MethodId) (args : Array Value) (below : List Frame) (meth : Method) (c : Code) (H : Heap) (locs : List Loc) (cells slots : Nat) (lsA : Array Slot),
      jCx E M p R s0 m args meth c → hs_H E s H → va_S (hs_A E) s0.heap H locs → lsA.size = M.2.2.1 → cells + (r1.2.1 - s.1) ≤ R.cells → slots + (r1.2.2.1 - s.2.1) ≤ R.slots → Met E.1 y (Cond.code y My.2.1 My.2.2.1 My.2.2.2.1 :: tbG) { frames := My.2.2.2.2.2.1, cells := r1.2.1 - s.1, slots := r1.2.2.1 - s.2.1, locals := My.2.2.2.2.2.2 } (va_Pc av (hs_W E s)) (jQ E (cvy r1.1) r1.2) (r1.2.1 - s.1) (r1.2.2.1 - s.2.1) (hs_A E) →
      va_Run p E.1 e R s0 m args below meth c H locs cells slots (r1.2.1 - s.1) (r1.2.2.1 - s.2.1) (F0 m pc lsA st) rest (jQ E (cvy r1.1) r1.2 av.toArray) (hs_A E))
    (kk : Jo E M cv (pc + 3) ls ((cvy r1.1).toList ++ rest) r1.2 o) : Jo E M cv pc ls st s o := by
  intro r hr
  have k := kk r hr
  obtain ⟨hle, hM⟩ := hK r1 rfl
  refine ⟨hle.tr k.1, fun p e R s0 m args below meth c H locs cells slots lsA C hH hS h1 h2 hl => ?_⟩
  have a1 := hle.1
  have a2 := hle.2
  have b1 := k.1.1
  have b2 := k.1.2
  refine va_callJ (h p e R s0 m args below meth c H locs cells slots lsA C hH hS hl.1 (by omega) (by omega) hM) hS fun H1 locs1 hH1 hS1 => ?_
  have e1 : cells + (r1.2.1 - s.1) + (r.2.1 - r1.2.1) = cells + (r.2.1 - s.1) := by omega
  have e2 : slots + (r1.2.2.1 - s.2.1) + (r.2.2.1 - r1.2.2.1) = slots + (r.2.2.1 - s.2.1) := by omega
  have h3 := k.2 p e R s0 m args below meth c H1 locs1 (cells + (r1.2.1 - s.1)) (slots + (r1.2.2.1 - s.2.1)) lsA C hH1 hS1 (by rw [e1]; exact h1) (by rw [e2]; exact h2) hl
  rw [e1, e2] at h3
  exact h3
theorem Jo_call1St {k idx n : Nat} {v : Int32} (hk : k < 3) (As : List Value) (hyc : y.cls = "java/lang/String") (hy : yF y My n) (hyv : Cond.instanceMethod y ∈ tbG ∧ Cond.selects y.cls y y ∈ tbG) (hl : Cond.methodLink M.1 idx y ∈ tbG) (hst : st = As.reverse ++ .ref (E.2.2.2.2.2.1 k) :: rest) (hn : As.length = n) (hroom : My.2.2.2.2.2.1 + 1 ≤ M.2.2.2.2.2.1 ∧ 8 + (My.2.2.1 + 11) + My.2.2.2.2.2.2 ≤ M.2.2.2.2.2.2 ∧ (rest.map fun v => v.category).sum ≤ 8) (hd : decode M.2.1 pc = .ok (.invokevirtual idx, 3)) (hq : pc + 3 = q) (hK : jK E y My cvI (.ref (E.2.2.2.2.2.1 k) :: As) s (some (v, s)))
    (kk : Jo E M cv q ls (.int v :: rest) s o) : Jo E M cv pc ls st s o := by
  subst hq
  refine Jo.call1 hK (fun p e R s0 m args below meth cd H locs cells slots lsA C0 hH hS hsz h1 h2 hM => ?_) kk
  have hts := C0.2.2.2.2.1
  have h8 := C0.2.2.2.2.2.2.2.1
  refine va_runV (As := As) (rest := rest) (Ts := tbG) (C := y.cls) (n := n) ⟨C0.1, C0.2.1, C0.2.2.2.2.2.2.1, C0.2.2.2.1, hts⟩ hM ⟨callB_of n hts hy.good rfl rfl rfl (hts _ hy.2.1) (hts _ hl) hy.2.2 ⟨Nat.le_trans hroom.1 h8.1, Nat.le_trans hroom.2.1 h8.2⟩, hts _ hyv.1, hts _ hyv.2⟩ ⟨hs_blind E s _, ?_, hs_pre C0 hH hS⟩ rfl hn hsz hst (by show 2 * 0 + _ ≤ 8; have := hroom.2.2; omega) hd ⟨h1, h2⟩
  rw [hyc]
  exact vk_recv C0.2.2.2.2.2.2.2.2.2.2.1.2.2.2.2.1 hk hS
theorem Jo_call1S {idx n : Nat} {r1 : β × hS} (As : List Value) (hy : yF y My n) (hys : Cond.static y ∈ tbG) (hl : Cond.methodLink M.1 idx y ∈ tbG) (hst : st = As.reverse ++ rest) (hn : As.length = n) (hroom : My.2.2.2.2.2.1 + 1 ≤ M.2.2.2.2.2.1 ∧ 8 + (My.2.2.1 + 11) + My.2.2.2.2.2.2 ≤ M.2.2.2.2.2.2 ∧ (rest.map fun v => v.category).sum ≤ 8) (hd : decode M.2.1 pc = .ok (.invokestatic idx, 3)) (hK : jK E y My cvy As s (some r1))
    (kk : Jo E M cv (pc + 3) ls ((cvy r1.1).toList ++ rest) r1.2 o) : Jo E M cv pc ls st s o := by
  refine Jo.call1 hK (fun p e R s0 m args below meth cd H locs cells slots lsA C0 hH hS hsz h1 h2 hM => ?_) kk
  have hts := C0.2.2.2.2.1
  have h8 := C0.2.2.2.2.2.2.2.1
  exact va_runS (As := As) (rest := rest) (Ts := tbG) (n := n) ⟨C0.1, C0.2.1, C0.2.2.2.2.2.2.1, C0.2.2.2.1, hts⟩ hM ⟨callB_of n hts hy.good rfl rfl rfl (hts _ hy.2.1) (hts _ hl) hy.2.2 ⟨Nat.le_trans hroom.1 h8.1, Nat.le_trans hroom.2.1 h8.2⟩, hts _ hys⟩ ⟨hs_blind E s _, hs_pre C0 hH hS⟩ rfl hn hsz hst (by show 2 * 0 + _ ≤ 8; have := hroom.2.2; omega) hd ⟨h1, h2⟩
/-- a branch that is known -/
theorem Jo_ift {c : Prop} [Decidable c] (h : c) {o1 o2 : Option (α × hS)} (k : Jo E M cv pc ls st s (if c then o1 else o2)) : Jo E M cv pc ls st s o1 := by rw [if_pos h] at k; exact k
theorem Jo_iff {c : Prop} [Decidable c] (h : ¬ c) {o1 o2 : Option (α × hS)} (k : Jo E M cv pc ls st s (if c then o1 else o2)) : Jo E M cv pc ls st s o2 := by rw [if_neg h] at k; exact k
end JS
abbrev M_J0_coder : jM := (RJ0, cJ0_coder_7d493, 1, some .byte, "coder", 0, 0)
abbrev M_J0_length : jM := (RJ0, cJ0_length_8abf5, 1, some .int, "length", 1, 20)
abbrev M_J0_isLatin1 : jM := (RJ0, cJ0_isLatin1_aae02, 1, some .boolean, "isLatin1", 0, 0)
abbrev M_J3_checkIndex : jM := (RJ3, cJ3_checkIndex_8e157, 3, some .int, "checkIndex", 0, 0)
abbrev M_J0_checkIndex : jM := (RJ0, cJ0_checkIndex_df160, 2, none, "checkIndex", 1, 22)
abbrev M_J1_charAt : jM := (RJ1, cJ1_charAt_3b067, 2, some .char, "charAt", 2, 43)
abbrev M_J0_charAt : jM := (RJ0, cJ0_charAt_5068e, 2, some .char, "charAt", 3, 64)
theorem dJ0_coder_7d493_0 : dI cJ0_coder_7d493 0 3 (.getstatic 38) 3 := ⟨by decide +kernel, rfl⟩
theorem dJ0_coder_7d493_3 : decode cJ0_coder_7d493 3 = .ok (.ifCond .eq 10, 3) := by decide +kernel
theorem dJ0_coder_7d493_6 : dI cJ0_coder_7d493 6 7 (.aload_n 0) 1 := ⟨by decide +kernel, rfl⟩
theorem dJ0_coder_7d493_7 : dI cJ0_coder_7d493 7 10 (.getfield 15) 3 := ⟨by decide +kernel, rfl⟩
theorem dJ0_coder_7d493_10 : decode cJ0_coder_7d493 10 = .ok (.goto 4, 3) := by decide +kernel
theorem dJ0_coder_7d493_13 : dI cJ0_coder_7d493 13 14 (.iconst 1) 1 := ⟨by decide +kernel, rfl⟩
theorem dJ0_coder_7d493_14 : dI cJ0_coder_7d493 14 15 (.ireturn) 1 := ⟨by decide +kernel, rfl⟩
theorem dJ0_length_8abf5_0 : dI cJ0_length_8abf5 0 1 (.aload_n 0) 1 := ⟨by decide +kernel, rfl⟩
theorem dJ0_length_8abf5_1 : dI cJ0_length_8abf5 1 4 (.getfield 9) 3 := ⟨by decide +kernel, rfl⟩
theorem dJ0_length_8abf5_4 : dI cJ0_length_8abf5 4 5 (.arraylength) 1 := ⟨by decide +kernel, rfl⟩
theorem dJ0_length_8abf5_5 : dI cJ0_length_8abf5 5 6 (.aload_n 0) 1 := ⟨by decide +kernel, rfl⟩
theorem dJ0_length_8abf5_6 : decode cJ0_length_8abf5 6 = .ok (.invokevirtual 335, 3) := by decide +kernel
theorem dJ0_length_8abf5_9 : dI cJ0_length_8abf5 9 10 (.ishr) 1 := ⟨by decide +kernel, rfl⟩
theorem dJ0_length_8abf5_10 : dI cJ0_length_8abf5 10 11 (.ireturn) 1 := ⟨by decide +kernel, rfl⟩
theorem dJ0_isLatin1_aae02_0 : dI cJ0_isLatin1_aae02 0 3 (.getstatic 38) 3 := ⟨by decide +kernel, rfl⟩
theorem dJ0_isLatin1_aae02_3 : decode cJ0_isLatin1_aae02 3 = .ok (.ifCond .eq 14, 3) := by decide +kernel
theorem dJ0_isLatin1_aae02_6 : dI cJ0_isLatin1_aae02 6 7 (.aload_n 0) 1 := ⟨by decide +kernel, rfl⟩
theorem dJ0_isLatin1_aae02_7 : dI cJ0_isLatin1_aae02 7 10 (.getfield 15) 3 := ⟨by decide +kernel, rfl⟩
theorem dJ0_isLatin1_aae02_10 : decode cJ0_isLatin1_aae02 10 = .ok (.ifCond .ne 7, 3) := by decide +kernel
theorem dJ0_isLatin1_aae02_13 : dI cJ0_isLatin1_aae02 13 14 (.iconst 1) 1 := ⟨by decide +kernel, rfl⟩
theorem dJ0_isLatin1_aae02_14 : decode cJ0_isLatin1_aae02 14 = .ok (.goto 4, 3) := by decide +kernel
theorem dJ0_isLatin1_aae02_17 : dI cJ0_isLatin1_aae02 17 18 (.iconst 0) 1 := ⟨by decide +kernel, rfl⟩
theorem dJ0_isLatin1_aae02_18 : dI cJ0_isLatin1_aae02 18 19 (.ireturn) 1 := ⟨by decide +kernel, rfl⟩
theorem dJ3_checkIndex_8e157_0 : dI cJ3_checkIndex_8e157 0 1 (.iload_n 0) 1 := ⟨by decide +kernel, rfl⟩
theorem dJ3_checkIndex_8e157_1 : decode cJ3_checkIndex_8e157 1 = .ok (.ifCond .lt 8, 3) := by decide +kernel
theorem dJ3_checkIndex_8e157_4 : dI cJ3_checkIndex_8e157 4 5 (.iload_n 0) 1 := ⟨by decide +kernel, rfl⟩
theorem dJ3_checkIndex_8e157_5 : dI cJ3_checkIndex_8e157 5 6 (.iload_n 1) 1 := ⟨by decide +kernel, rfl⟩
theorem dJ3_checkIndex_8e157_6 : decode cJ3_checkIndex_8e157 6 = .ok (.if_icmp .lt 10, 3) := by decide +kernel
theorem dJ3_checkIndex_8e157_9 : dI cJ3_checkIndex_8e157 9 10 (.aload_n 2) 1 := ⟨by decide +kernel, rfl⟩
theorem dJ3_checkIndex_8e157_10 : dI cJ3_checkIndex_8e157 10 11 (.iload_n 0) 1 := ⟨by decide +kernel, rfl⟩
theorem dJ3_checkIndex_8e157_11 : dI cJ3_checkIndex_8e157 11 12 (.iload_n 1) 1 := ⟨by decide +kernel, rfl⟩
theorem dJ3_checkIndex_8e157_12 : decode cJ3_checkIndex_8e157 12 = .ok (.invokestatic 95, 3) := by decide +kernel
theorem dJ3_checkIndex_8e157_16 : dI cJ3_checkIndex_8e157 16 17 (.iload_n 0) 1 := ⟨by decide +kernel, rfl⟩
theorem dJ3_checkIndex_8e157_17 : dI cJ3_checkIndex_8e157 17 18 (.ireturn) 1 := ⟨by decide +kernel, rfl⟩
theorem dJ0_checkIndex_df160_0 : dI cJ0_checkIndex_df160 0 1 (.iload_n 0) 1 := ⟨by decide +kernel, rfl⟩
theorem dJ0_checkIndex_df160_1 : dI cJ0_checkIndex_df160 1 2 (.iload_n 1) 1 := ⟨by decide +kernel, rfl⟩
theorem dJ0_checkIndex_df160_2 : dI cJ0_checkIndex_df160 2 5 (.getstatic 1053) 3 := ⟨by decide +kernel, rfl⟩
theorem dJ0_checkIndex_df160_5 : decode cJ0_checkIndex_df160 5 = .ok (.invokestatic 1059, 3) := by decide +kernel
theorem dJ0_checkIndex_df160_8 : dI cJ0_checkIndex_df160 8 9 (.pop) 1 := ⟨by decide +kernel, rfl⟩
theorem dJ0_checkIndex_df160_9 : dI cJ0_checkIndex_df160 9 10 (.return_) 1 := ⟨by decide +kernel, rfl⟩
theorem dJ1_charAt_3b067_0 : dI cJ1_charAt_3b067 0 1 (.iload_n 1) 1 := ⟨by decide +kernel, rfl⟩
theorem dJ1_charAt_3b067_1 : dI cJ1_charAt_3b067 1 2 (.aload_n 0) 1 := ⟨by decide +kernel, rfl⟩
theorem dJ1_charAt_3b067_2 : dI cJ1_charAt_3b067 2 3 (.arraylength) 1 := ⟨by decide +kernel, rfl⟩
theorem dJ1_charAt_3b067_3 : decode cJ1_charAt_3b067 3 = .ok (.invokestatic 9, 3) := by decide +kernel
theorem dJ1_charAt_3b067_6 : dI cJ1_charAt_3b067 6 7 (.aload_n 0) 1 := ⟨by decide +kernel, rfl⟩
theorem dJ1_charAt_3b067_7 : dI cJ1_charAt_3b067 7 8 (.iload_n 1) 1 := ⟨by decide +kernel, rfl⟩
theorem dJ1_charAt_3b067_8 : dI cJ1_charAt_3b067 8 9 (.baload) 1 := ⟨by decide +kernel, rfl⟩
theorem dJ1_charAt_3b067_9 : dI cJ1_charAt_3b067 9 12 (.sipush 255) 3 := ⟨by decide +kernel, rfl⟩
theorem dJ1_charAt_3b067_12 : dI cJ1_charAt_3b067 12 13 (.iand) 1 := ⟨by decide +kernel, rfl⟩
theorem dJ1_charAt_3b067_13 : dI cJ1_charAt_3b067 13 14 (.i2c) 1 := ⟨by decide +kernel, rfl⟩
theorem dJ1_charAt_3b067_14 : dI cJ1_charAt_3b067 14 15 (.ireturn) 1 := ⟨by decide +kernel, rfl⟩
theorem dJ0_charAt_5068e_0 : dI cJ0_charAt_5068e 0 1 (.aload_n 0) 1 := ⟨by decide +kernel, rfl⟩
theorem dJ0_charAt_5068e_1 : decode cJ0_charAt_5068e 1 = .ok (.invokevirtual 492, 3) := by decide +kernel
theorem dJ0_charAt_5068e_4 : decode cJ0_charAt_5068e 4 = .ok (.ifCond .eq 12, 3) := by decide +kernel
theorem dJ0_charAt_5068e_7 : dI cJ0_charAt_5068e 7 8 (.aload_n 0) 1 := ⟨by decide +kernel, rfl⟩
theorem dJ0_charAt_5068e_8 : dI cJ0_charAt_5068e 8 11 (.getfield 9) 3 := ⟨by decide +kernel, rfl⟩
theorem dJ0_charAt_5068e_11 : dI cJ0_charAt_5068e 11 12 (.iload_n 1) 1 := ⟨by decide +kernel, rfl⟩
theorem dJ0_charAt_5068e_12 : decode cJ0_charAt_5068e 12 = .ok (.invokestatic 495, 3) := by decide +kernel
theorem dJ0_charAt_5068e_15 : dI cJ0_charAt_5068e 15 16 (.ireturn) 1 := ⟨by decide +kernel, rfl⟩
theorem dJ0_charAt_5068e_16 : dI cJ0_charAt_5068e 16 17 (.aload_n 0) 1 := ⟨by decide +kernel, rfl⟩
theorem dJ0_charAt_5068e_17 : dI cJ0_charAt_5068e 17 20 (.getfield 9) 3 := ⟨by decide +kernel, rfl⟩
theorem dJ0_charAt_5068e_20 : dI cJ0_charAt_5068e 20 21 (.iload_n 1) 1 := ⟨by decide +kernel, rfl⟩
theorem dJ0_charAt_5068e_21 : decode cJ0_charAt_5068e 21 = .ok (.invokestatic 498, 3) := by decide +kernel
theorem dJ0_charAt_5068e_24 : dI cJ0_charAt_5068e 24 25 (.ireturn) 1 := ⟨by decide +kernel, rfl⟩
theorem yF_J0_coder : yF yJ0_coder_7d493 M_J0_coder 0 := ⟨w_1072, w_1073, by decide +kernel⟩
theorem yV_J0_coder : Cond.instanceMethod yJ0_coder_7d493 ∈ tbG ∧ Cond.selects yJ0_coder_7d493.cls yJ0_coder_7d493 yJ0_coder_7d493 ∈ tbG := ⟨w_1074, w_1075⟩
theorem yF_J0_length : yF yJ0_length_8abf5 M_J0_length 0 := ⟨w_1076, w_1073, by decide +kernel⟩
theorem yV_J0_length : Cond.instanceMethod yJ0_length_8abf5 ∈ tbG ∧ Cond.selects yJ0_length_8abf5.cls yJ0_length_8abf5 yJ0_length_8abf5 ∈ tbG := ⟨w_1077, w_1078⟩
theorem yF_J0_isLatin1 : yF yJ0_isLatin1_aae02 M_J0_isLatin1 0 := ⟨w_1079, w_1073, by decide +kernel⟩
theorem yV_J0_isLatin1 : Cond.instanceMethod yJ0_isLatin1_aae02 ∈ tbG ∧ Cond.selects yJ0_isLatin1_aae02.cls yJ0_isLatin1_aae02 yJ0_isLatin1_aae02 ∈ tbG := ⟨w_1080, w_1081⟩
theorem yF_J3_checkIndex : yF yJ3_checkIndex_8e157 M_J3_checkIndex 3 := ⟨w_1082, w_1083, by decide +kernel⟩
theorem yF_J0_checkIndex : yF yJ0_checkIndex_df160 M_J0_checkIndex 2 := ⟨w_1084, w_1073, by decide +kernel⟩
theorem yF_J1_charAt : yF yJ1_charAt_3b067 M_J1_charAt 2 := ⟨w_1085, w_1086, by decide +kernel⟩
theorem yF_J0_charAt : yF yJ0_charAt_5068e M_J0_charAt 1 := ⟨w_1087, w_1073, by decide +kernel⟩
theorem yV_J0_charAt : Cond.instanceMethod yJ0_charAt_5068e ∈ tbG ∧ Cond.selects yJ0_charAt_5068e.cls yJ0_charAt_5068e yJ0_charAt_5068e ∈ tbG := ⟨w_1088, w_1089⟩
theorem K_J0_coder (E : jE) (s : hS) (k : Nat) (hk : k < 3) : jK E yJ0_coder_7d493 M_J0_coder cvI [.ref (E.2.2.2.2.2.1 k)] s (some (0, s)) := by
  refine jK_of ⟨by decide, rfl, rfl⟩ (Nat.le_of_ble_eq_true rfl) ?_
  refine Jo_compact dJ0_coder_7d493_0 w_1090 ?_
  refine Jo_iff (c := (1 : Int32) = 0) (by decide) (Jo_if_eq 13 dJ0_coder_7d493_3 (by decide) rfl (o1 := none) Jo_none ?_)
  refine Jo_aloadn 0 dJ0_coder_7d493_6 rfl rfl ?_
  refine Jo_scod hk dJ0_coder_7d493_7 w_1091 ?_
  refine Jo_goto 14 dJ0_coder_7d493_10 (by decide) ?_
  exact Jo_tret (ty := .byte) rfl rfl dJ0_coder_7d493_14
theorem K_J0_length (E : jE) (s : hS) (k : Nat) (hk : k < 3) : jK E yJ0_length_8abf5 M_J0_length cvI [.ref (E.2.2.2.2.2.1 k)] s (some (slen k, s)) := by
  refine jK_of ⟨by decide, rfl, rfl⟩ (Nat.le_of_ble_eq_true rfl) ?_
  refine Jo_aloadn 0 dJ0_length_8abf5_0 rfl rfl ?_
  refine Jo_sval hk dJ0_length_8abf5_1 w_1092 ?_
  refine Jo_svlen hk dJ0_length_8abf5_4 ?_
  refine Jo_aloadn 0 dJ0_length_8abf5_5 rfl rfl ?_
  refine Jo_call1St (k := k) (rest := [.int (slen k)]) hk [] rfl yF_J0_coder yV_J0_coder w_1093 rfl rfl ⟨by decide, by decide, Nat.le_of_ble_eq_true rfl⟩ dJ0_length_8abf5_6 rfl (K_J0_coder E s k hk) ?_
  refine Jo_ishr dJ0_length_8abf5_9 ?_
  have h0 : slen k >>> ((0 : Int32) &&& 31) = slen k := by
    match k, hk with
    | 0, _ => decide
    | 1, _ => decide
    | 2, _ => decide
    | j + 3, h => omega
  rw [h0]
  exact Jo_iret rfl dJ0_length_8abf5_10
theorem K_J0_isLatin1 (E : jE) (s : hS) (k : Nat) (hk : k < 3) : jK E yJ0_isLatin1_aae02 M_J0_isLatin1 cvI [.ref (E.2.2.2.2.2.1 k)] s (some (1, s)) := by
  refine jK_of ⟨by decide, rfl, rfl⟩ (Nat.le_of_ble_eq_true rfl) ?_
  refine Jo_compact dJ0_isLatin1_aae02_0 w_1090 ?_
  refine Jo_iff (c := (1 : Int32) = 0) (by decide) (Jo_if_eq 17 dJ0_isLatin1_aae02_3 (by decide) rfl (o1 := none) Jo_none ?_)
  refine Jo_aloadn 0 dJ0_isLatin1_aae02_6 rfl rfl ?_
  refine Jo_scod hk dJ0_isLatin1_aae02_7 w_1091 ?_
  refine Jo_ift (c := (0 : Int32) = 0) rfl (Jo_if_ne 17 dJ0_isLatin1_aae02_10 (by decide) rfl ?_ (o2 := none) Jo_none)
  refine Jo_iconst (v := 1) dJ0_isLatin1_aae02_13 (by decide) ?_
  refine Jo_goto 18 dJ0_isLatin1_aae02_14 (by decide) ?_
  exact Jo_zret1 rfl dJ0_isLatin1_aae02_18
theorem K_J3_checkIndex (E : jE) (s : hS) (i n : Int32) (v : Value) (hv : v = .null ∨ ∃ t, v = .ref t) (h0 : ¬ i < 0) (h1 : i < n) : jK E yJ3_checkIndex_8e157 M_J3_checkIndex cvI [.int i, .int n, v] s (some (i, s)) := by
  have hl : lv_args 0 [.int i, .int n, v] = [(0, .int i), (1, .int n), (2, v)] ∧ (lg_sl [.int i, .int n, v]).length ≤ 3 := by
    rcases hv with rfl | ⟨t, rfl⟩ <;> exact ⟨rfl, Nat.le_of_ble_eq_true rfl⟩
  refine jK_of ⟨by decide, rfl, rfl⟩ hl.2 ?_
  rw [hl.1]
  refine Jo_iloadn 0 dJ3_checkIndex_8e157_0 rfl rfl ?_
  refine Jo_iff (c := i < 0) h0 (Jo_if_lt 9 dJ3_checkIndex_8e157_1 (by decide) rfl (o1 := none) Jo_none ?_)
  refine Jo_iloadn 0 dJ3_checkIndex_8e157_4 rfl rfl ?_
  refine Jo_iloadn 1 dJ3_checkIndex_8e157_5 rfl rfl ?_
  refine Jo_ift (c := i < n) h1 (Jo_icmp_lt 16 dJ3_checkIndex_8e157_6 (by decide) rfl ?_ (o2 := none) Jo_none)
  refine Jo_iloadn 0 dJ3_checkIndex_8e157_16 rfl rfl ?_
  exact Jo_iret rfl dJ3_checkIndex_8e157_17
theorem K_J0_checkIndex (E : jE) (s : hS) (i n : Int32) (h0 : ¬ i < 0) (h1 : i < n) : jK E yJ0_checkIndex_df160 M_J0_checkIndex cvV [.int i, .int n] s (some ((), s)) := by
  refine jK_of ⟨by decide, rfl, rfl⟩ (Nat.le_of_ble_eq_true rfl) ?_
  refine Jo_iloadn 0 dJ0_checkIndex_df160_0 rfl rfl ?_
  refine Jo_iloadn 1 dJ0_checkIndex_df160_1 rfl rfl ?_
  refine Jo_sioobe dJ0_checkIndex_df160_2 w_1094 (fun v hv => ?_)
  refine Jo_call1S (rest := []) [.int i, .int n, v] yF_J3_checkIndex w_1095 w_1096 rfl rfl ⟨by decide, by decide, Nat.le_of_ble_eq_true rfl⟩ dJ0_checkIndex_df160_5 (K_J3_checkIndex E s i n v hv h0 h1) ?_
  refine Jo_pop (v := .int i) dJ0_checkIndex_df160_8 rfl ?_
  exact Jo_vret rfl dJ0_checkIndex_df160_9
theorem sb_bytes : ∀ k, k < 3 → ∀ j, j < ([5, 4, 4] : List Nat).getD k 0 → (((hs_byt.getD k []).getD j 0 &&& 255).toUInt32 % 65536).toInt32 = (hs_byt.getD k []).getD j 0 := by decide
theorem sb_bytes2 : ∀ k, k < 3 → ∀ j, j < ([5, 4, 4] : List Nat).getD k 0 → narrow .char (.int ((hs_byt.getD k []).getD j 0)) = .int ((hs_byt.getD k []).getD j 0) := by
  intro k hk j hj
  match k, hk with
  | 0, _ => match j, hj with
    | 0, _ => rfl
    | 1, _ => rfl
    | 2, _ => rfl
    | 3, _ => rfl
    | 4, _ => rfl
    | j + 5, h => exact absurd h (by simp)
  | 1, _ => match j, hj with
    | 0, _ => rfl
    | 1, _ => rfl
    | 2, _ => rfl
    | 3, _ => rfl
    | j + 4, h => exact absurd h (by simp)
  | 2, _ => match j, hj with
    | 0, _ => rfl
    | 1, _ => rfl
    | 2, _ => rfl
    | 3, _ => rfl
    | j + 4, h => exact absurd h (by simp)
  | j + 3, h => omega
theorem slen_lt {k : Nat} (hk : k < 3) {i : Int32} (hi : ¬ (i < 0 ∨ ([5, 4, 4] : List Nat).getD k 0 ≤ i.toNatClampNeg)) : i < slen k := by
  have h0 : ¬ i < 0 := fun h => hi (Or.inl h)
  have h1 : i.toNatClampNeg < ([5, 4, 4] : List Nat).getD k 0 := Nat.not_le.mp fun h => hi (Or.inr h)
  have h2 := nn_i i h0
  have h3 : (slen k).toInt = ((([5, 4, 4] : List Nat).getD k 0 : Nat) : Int) := by
    match k, hk with
    | 0, _ => decide
    | 1, _ => decide
    | 2, _ => decide
    | j + 3, h => omega
  rw [Int32.lt_iff_toInt_lt, h3, h2]
  omega
theorem K_J1_charAt (E : jE) (s : hS) (k : Nat) (hk : k < 3) (i : Int32) (hi : ¬ (i < 0 ∨ ([5, 4, 4] : List Nat).getD k 0 ≤ i.toNatClampNeg)) : jK E yJ1_charAt_3b067 M_J1_charAt cvI [.ref (E.2.2.2.2.2.2.1 k), .int i] s (some ((hs_byt.getD k []).getD i.toNatClampNeg 0, s)) := by
  have h0 : ¬ i < 0 := fun h => hi (Or.inl h)
  have h1 : i.toNatClampNeg < ([5, 4, 4] : List Nat).getD k 0 := Nat.not_le.mp fun h => hi (Or.inr h)
  refine jK_of ⟨by decide, rfl, rfl⟩ (Nat.le_of_ble_eq_true rfl) ?_
  refine Jo_iloadn 1 dJ1_charAt_3b067_0 rfl rfl ?_
  refine Jo_aloadn 0 dJ1_charAt_3b067_1 rfl rfl ?_
  refine Jo_svlen hk dJ1_charAt_3b067_2 ?_
  refine Jo_call1S (rest := []) [.int i, .int (slen k)] yF_J0_checkIndex w_1097 w_1098 rfl rfl ⟨by decide, by decide, Nat.le_of_ble_eq_true rfl⟩ dJ1_charAt_3b067_3 (K_J0_checkIndex E s i (slen k) h0 (slen_lt hk hi)) ?_
  refine Jo_aloadn (st := []) 0 dJ1_charAt_3b067_6 rfl rfl ?_
  refine Jo_iloadn 1 dJ1_charAt_3b067_7 rfl rfl ?_
  refine Jo_svld hk hi dJ1_charAt_3b067_8 ?_
  refine Jo_sipush (v := 255) dJ1_charAt_3b067_9 (by decide) ?_
  refine Jo_iand dJ1_charAt_3b067_12 ?_
  refine Jo_i2c dJ1_charAt_3b067_13 ?_
  rw [sb_bytes k hk _ h1]
  exact Jo_tret (ty := .char) rfl (sb_bytes2 k hk _ h1) dJ1_charAt_3b067_14
theorem K_J0_charAt (E : jE) (s : hS) (k : Nat) (hk : k < 3) (i : Int32) (hi : ¬ (i < 0 ∨ ([5, 4, 4] : List Nat).getD k 0 ≤ i.toNatClampNeg)) : jK E yJ0_charAt_5068e M_J0_charAt cvI [.ref (E.2.2.2.2.2.1 k), .int i] s (some ((hs_byt.getD k []).getD i.toNatClampNeg 0, s)) := by
  have h1 : i.toNatClampNeg < ([5, 4, 4] : List Nat).getD k 0 := Nat.not_le.mp fun h => hi (Or.inr h)
  refine jK_of ⟨by decide, rfl, rfl⟩ (Nat.le_of_ble_eq_true rfl) ?_
  refine Jo_aloadn 0 dJ0_charAt_5068e_0 rfl rfl ?_
  refine Jo_call1St (k := k) (rest := []) hk [] rfl yF_J0_isLatin1 yV_J0_isLatin1 w_1099 rfl rfl ⟨by decide, by decide, Nat.le_of_ble_eq_true rfl⟩ dJ0_charAt_5068e_1 rfl (K_J0_isLatin1 E s k hk) ?_
  refine Jo_iff (c := (1 : Int32) = 0) (by decide) (Jo_if_eq 16 dJ0_charAt_5068e_4 (by decide) rfl (o1 := none) Jo_none ?_)
  refine Jo_aloadn 0 dJ0_charAt_5068e_7 rfl rfl ?_
  refine Jo_sval hk dJ0_charAt_5068e_8 w_1092 ?_
  refine Jo_iloadn 1 dJ0_charAt_5068e_11 rfl rfl ?_
  refine Jo_call1S (rest := []) [.ref (E.2.2.2.2.2.2.1 k), .int i] yF_J1_charAt w_1100 w_1101 rfl rfl ⟨by decide, by decide, Nat.le_of_ble_eq_true rfl⟩ dJ0_charAt_5068e_12 (K_J1_charAt E s k hk i hi) ?_
  exact Jo_tret (ty := .char) rfl (sb_bytes2 k hk _ h1) dJ0_charAt_5068e_15
section JSC
variable {α : Type} {E : jE} {M : jM} {cv : α → Option Value} {pc q : Nat} {ls : List (Nat × Value)} {st : List Value} {s : hS} {o : Option (α × hS)}
/-- the law's own script -/
def scr (sc : Nat × (Nat → Int32)) (i : Int32) : Option Int32 := if i < 0 ∨ sc.1 ≤ i.toNatClampNeg then none else some (sc.2 i.toNatClampNeg)
theorem Jo_sclen (hd : dI M.2.1 pc q .arraylength 1) (k : Jo E M cv q ls (.int (Int32.ofNat E.2.2.2.2.2.2.2.2.1) :: st) s o) : Jo E M cv pc ls (.ref E.2.2.2.2.2.2.2.1 :: st) s o := by
  obtain ⟨hd, rfl⟩ := hd
  exact Jo.pure (fun _ _ _ _ _ _ _ _ _ _ _ _ _ lsA _ C hS hl0 _ _ kk => va_slen C.1 C.2.1 C.2.2.2.2.2.2.2.2.2.2.1.2.2.2.2.2.2 (Nat.lt_of_lt_of_le C.2.2.2.2.2.2.2.2.2.2.1.2.2.2.2.2.1 C.2.2.2.2.2.2.2.2.2.2.2) (Nat.not_le.mpr C.2.2.2.2.2.2.2.2.2.2.1.2.2.2.2.2.1) hS hd (kk lsA hl0)) k
theorem Jo_scld {i : Int32} {g : Int32 → Option (α × hS)} (hd : dI M.2.1 pc q .iaload 1) (k : ∀ x, Jo E M cv q ls (.int x :: st) s (g x)) : Jo E M cv pc ls (.int i :: .ref E.2.2.2.2.2.2.2.1 :: st) s ((scr E.2.2.2.2.2.2.2.2 i).bind g) := by
  by_cases hc : i < 0 ∨ E.2.2.2.2.2.2.2.2.1 ≤ i.toNatClampNeg
  · rw [scr, if_pos hc]; exact Jo_none
  · rw [scr, if_neg hc]
    obtain ⟨hd, rfl⟩ := hd
    exact Jo.pure (fun _ _ _ _ _ _ _ _ _ _ _ _ _ lsA _ C hS hl0 _ _ kk => va_sld C.1 C.2.1 C.2.2.2.2.2.2.2.2.2.2.1.2.2.2.2.2.2 (Nat.lt_of_lt_of_le C.2.2.2.2.2.2.2.2.2.2.1.2.2.2.2.2.1 C.2.2.2.2.2.2.2.2.2.2.2) (Nat.not_le.mpr C.2.2.2.2.2.2.2.2.2.2.1.2.2.2.2.2.1) hS hc hd (kk lsA hl0)) (k _)
end JSC
section JS2
variable {α : Type} {E : jE} {M : jM} {cv : α → Option Value} {pc q : Nat} {ls : List (Nat × Value)} {st : List Value} {s : hS}
theorem Jo_slen {k idx : Nat} {g : Int32 → Option (α × hS)} (hd : dI M.2.1 pc q (.invokevirtual idx) 3) (hl : Cond.methodLink M.1 idx yJ0_length_8abf5 ∈ tbG) (hroom : 2 ≤ M.2.2.2.2.2.1 ∧ 40 ≤ M.2.2.2.2.2.2 ∧ (st.map fun v => v.category).sum ≤ 8) (kk : ∀ x, Jo E M cv q ls (.int x :: st) s (g x)) : Jo E M cv pc ls (.ref (E.2.2.2.2.2.1 k) :: st) s ((if k < 3 then some (slen k) else none).bind g) := by
  by_cases hk : k < 3
  · rw [if_pos hk]
    exact Jo_call1St (k := k) (rest := st) hk [] rfl yF_J0_length yV_J0_length hl rfl rfl ⟨by show 1 + 1 ≤ _; exact hroom.1, by show 8 + (1 + 11) + 20 ≤ _; exact hroom.2.1, hroom.2.2⟩ hd.1 hd.2 (K_J0_length E s k hk) (kk (slen k))
  · rw [if_neg hk]; exact Jo_none
theorem Jo_sat {k idx : Nat} {i : Int32} {g : Int32 → Option (α × hS)} (hd : dI M.2.1 pc q (.invokevirtual idx) 3) (hl : Cond.methodLink M.1 idx yJ0_charAt_5068e ∈ tbG) (hroom : 4 ≤ M.2.2.2.2.2.1 ∧ 85 ≤ M.2.2.2.2.2.2 ∧ (st.map fun v => v.category).sum ≤ 8) (kk : ∀ x, Jo E M cv q ls (.int x :: st) s (g x)) : Jo E M cv pc ls (.int i :: .ref (E.2.2.2.2.2.1 k) :: st) s ((sat k i).bind g) := by
  by_cases hk : k < 3 ∧ ¬ (i < 0 ∨ ([5, 4, 4] : List Nat).getD k 0 ≤ i.toNatClampNeg)
  · rw [sat, if_pos hk]
    exact Jo_call1St (k := k) (rest := st) hk.1 [.int i] rfl yF_J0_charAt yV_J0_charAt hl rfl rfl ⟨by show 3 + 1 ≤ _; exact hroom.1, by show 8 + (2 + 11) + 64 ≤ _; exact hroom.2.1, hroom.2.2⟩ hd.1 hd.2 (K_J0_charAt E s k hk.1 i hk.2) (kk _)
  · rw [sat, if_neg hk]; exact Jo_none
end JS2
