section JN
variable {α : Type} {E : jE} {M : jM} {cv : α → Option Value} {pc q : Nat} {ls ls' : List (Nat × Value)} {st : List Value} {s : hS} {o : Option (α × hS)}
/-- a cell is made -/
theorem Jo.make {c N : Nat} {st' : List Value} (h : ∀ (p : Program) (e : Env) (R : Room) (s0 : State) (m : MethodId) (args : Array Value) (below : List Frame) (meth : Method) (cd : Code) (H : Heap) (locs : List Loc) (cells slots : Nat) (lsA : Array Slot) (Q : State → Prop),
    jCx E M p R s0 m args meth cd → hs_H E s H → va_S (hs_A E) s0.heap H locs → cells + 1 ≤ R.cells → slots + N ≤ R.slots → (∀ (H1 : Heap), hs_H E (nO s c N) H1 → va_S (hs_A E) s0.heap H1 locs → W p E.1 e R s0 m args below meth cd H1 locs (cells + 1) (slots + N) Q (F0 m q lsA st')) → W p E.1 e R s0 m args below meth cd H locs cells slots Q (F0 m pc lsA st))
    (k : Jo E M cv q ls st' (nO s c N) o) : Jo E M cv pc ls st s o := by
  intro r hr
  have hk := k r hr
  have g1 : s.1 + 1 ≤ r.2.1 := hk.1.1
  have g2 : s.2.1 + N ≤ r.2.2.1 := hk.1.2
  refine ⟨⟨by omega, by omega⟩, fun p e R s0 m args below meth cd H locs cells slots lsA C hH hS h1 h2 hl => ?_⟩
  refine h p e R s0 m args below meth cd H locs cells slots lsA _ C hH hS (by omega) (by omega) fun H1 hH1 hS1 => ?_
  have e1 : cells + 1 + (r.2.1 - (nO s c N).1) = cells + (r.2.1 - s.1) := by show cells + 1 + (r.2.1 - (s.1 + 1)) = _; omega
  have e2 : slots + N + (r.2.2.1 - (nO s c N).2.1) = slots + (r.2.2.1 - s.2.1) := by show slots + N + (r.2.2.1 - (s.2.1 + N)) = _; omega
  have h3 := hk.2 p e R s0 m args below meth cd H1 locs (cells + 1) (slots + N) lsA C hH1 hS1 (by rw [e1]; exact h1) (by rw [e2]; exact h2) hl
  rw [e1, e2] at h3
  exact h3
theorem va_S.push {A : Nat → Prop} {H0 H H1 : Heap} {locs : List Loc} (h : va_S A H0 H locs) (z : H1.size = H.size + 1) (oq : ∀ q : Nat, q < H.size → H1[q]? = H[q]?) : va_S A H0 H1 locs := ⟨Nat.le_trans h.1 (by omega), fun x h1 h2 => (oq x (Nat.lt_of_lt_of_le h1 h.1)).trans (h.2.1 x h1 h2), h.2.2⟩
theorem nO_I (s : hS) (c N : Nat) : (nO s c N).2.2.2.1 s.1 = fun _ => 0 := by funext j; simp [nO]
theorem nO_R (s : hS) (c N : Nat) : (nO s c N).2.2.2.2 s.1 = fun _ => none := by funext j; simp [nO]
theorem nO_K (s : hS) (c N : Nat) : (nO s c N).2.2.1 s.1 = (c, N) := by simp [nO]
theorem Jo_new {c idx : Nat} {C : String} {T : u_T} {N : Nat} {ty : Nat → FieldType} (hf : classes[c]? = some (C, T, N) ∧ (∀ w ∈ u_ws C T N, w ∈ tbG) ∧ (∀ k, k < N → parseFieldDescriptor (T k).2.2.1 = some (ty k)) ∧ c < 8) (hw : Cond.classLink M.1 idx C ∈ tbG ∧ Cond.instantiable C N ∈ tbG ∧ Cond.initialized C ∈ tbG) (h0 : ∀ (s : hS) (a : Nat), s.2.2.2.1 a = (fun _ => 0) → s.2.2.2.2 a = (fun _ => none) → ∀ j, j < N → defaultValue (ty j) = vp_V (hs_fs s a c) j) (hd : dI M.2.1 pc q (.new idx) 3)
    (kk : Jo E M cv q ls (.ref s.1 :: st) (nO s c N) o) : Jo E M cv pc ls st s o := by
  obtain ⟨hd, rfl⟩ := hd
  refine Jo.make (fun p e R s0 m args below meth cd H locs cells slots lsA Q C0 hH hS h1 h2 k9 => ?_) kk
  have hts := C0.2.2.2.2.1
  have hKn := C0.2.2.2.2.2.2.2.2.2.1.1.1 c _ hf.1
  have hz : H.size = s.1 := hH.2.1
  refine W.newcK C0.1 C0.2.1 C0.2.2.2.1 (hts _ hw.1) (hts _ hw.2.1) (hts _ hw.2.2) rfl hd h1 h2 hKn.2.1 hz fun H1 kC hkC e1 z1 o1 => ?_
  refine k9 H1 (hH.push (by omega) (fun q hq => o1 q (by omega)) ?_) (hS.push (by omega) (fun q hq => o1 q (by omega)))
  rw [hs_picO (s := nO s c N) (by rw [nO_K]) hf.2.2.2]
  exact ⟨_, hf.1, (u_born ty hts hf.2.1 hKn hkC e1 hf.2.2.1).to (h0 _ _ (nO_I s c N) (nO_R s c N))⟩
theorem Jo_newarr {t t0 : Nat} {ty : FieldType} {at0 : ArrayType} {n : Int32} {g : hS → Option (α × hS)} (ht : (∀ E, (hs_tys E)[t0]? = some (E.2.2.2.1 t, ty)) ∧ ¬ t < 8 ∧ t < 12) (hty : newarray.typeOf at0 = ty ∧ ty ≠ .long ∧ componentBytes ty ≤ 4 ∧ defaultValue ty = .int 0 ∧ (∀ C, ty ≠ .object C)) (hw : Cond.arrayClass ty ∈ tbG) (hd : dI M.2.1 pc q (.newarray at0) 2)
    (kk : ∀ s', Jo E M cv q ls (.ref s.1 :: st) s' (g s')) : Jo E M cv pc ls (.int n :: st) s ((nA s t n).bind g) := by
  by_cases hc : ¬ n < 0 ∧ n.toNatClampNeg ≤ 100000
  · obtain ⟨hd, rfl⟩ := hd
    rw [nA, if_pos hc]
    refine Jo.make (c := t) (N := n.toNatClampNeg) (fun p e R s0 m args below meth cd H locs cells slots lsA Q C0 hH hS h1 h2 k9 => ?_) (kk _)
    have hts := C0.2.2.2.2.1
    have hz : H.size = s.1 := hH.2.1
    have hK := C0.2.2.2.2.2.2.2.2.2.1.1
    obtain ⟨hty1, -, hty3, hty4, hty5⟩ := hty
    subst hty1
    refine va_newaK C0.1 C0.2.1 (hts _ hw) rfl hd rfl hc.1 rfl ?_ h1 h2 hz fun H1 cA e1 z1 o1 hAr hNm => ?_
    · exact Nat.le_trans (Nat.mul_le_mul hc.2 hty3) (Nat.le_of_ble_eq_true rfl)
    · refine k9 H1 (hH.push (by omega) (fun q hq => o1 q (by omega)) ?_) (hS.push (by omega) (fun q hq => o1 q (by omega)))
      rw [hs_picI (s := nO s t n.toNatClampNeg) (by rw [nO_K]) ht.2.1 ht.2.2]
      have hRA := (hK.2 t0 _ (ht.1 E)).2
      have hcA : E.2.2.2.1 t = cA := by
        have h5 : s0.vm.findClass ("[" ++ (newarray.typeOf at0).toString) = some (E.2.2.2.1 t) := by
          cases at0 <;> exact hRA
        exact Option.some.inj (h5.symm.trans hNm)
      show H1[s.1]? = some (vp_cell _ _)
      rw [vp_cell_i, nO_I, hcA, nO_K, e1, hty4]
  · rw [nA, if_neg hc]; exact Jo_none
theorem Jo_anewarr {t t0 idx : Nat} {C : String} {n : Int32} {g : hS → Option (α × hS)} (ht : (∀ E, (hs_tys E)[t0]? = some (E.2.2.2.1 t, .object C)) ∧ ¬ t < 12 ∧ t < 15) (hw : Cond.classLink M.1 idx C ∈ tbG) (hao : ∀ E U, hs_T E U → va_AO C U) (hd : dI M.2.1 pc q (.anewarray idx) 3)
    (kk : ∀ s', Jo E M cv q ls (.ref s.1 :: st) s' (g s')) : Jo E M cv pc ls (.int n :: st) s ((nA s t n).bind g) := by
  by_cases hc : ¬ n < 0 ∧ n.toNatClampNeg ≤ 100000
  · obtain ⟨hd, rfl⟩ := hd
    rw [nA, if_pos hc]
    refine Jo.make (c := t) (N := n.toNatClampNeg) (fun p e R s0 m args below meth cd H locs cells slots lsA Q C0 hH hS h1 h2 k9 => ?_) (kk _)
    have hts := C0.2.2.2.2.1
    have hz : H.size = s.1 := hH.2.1
    have hK := C0.2.2.2.2.2.2.2.2.2.1.1
    refine W.anew C0.1 C0.2.1 C0.2.2.2.1 (hts _ hw) (va_AO.use (hao E s0 C0.2.2.2.2.2.2.2.2.2.1)) rfl hd rfl hc.1 (Nat.le_trans (Nat.mul_le_mul hc.2 (Nat.le_refl 4)) (Nat.le_of_ble_eq_true rfl)) h1 h2 fun cA kA comp f1 f2 f3 f4 => ?_
    generalize hH1 : H.push ({ cls := cA, slots := Array.replicate n.toNatClampNeg .null, vm := .none } : Cell) = H1
    have z1 : H1.size = H.size + 1 := by rw [← hH1, Array.size_push]
    have e1 : H1[H.size]? = some (arrV cA n.toNatClampNeg (fun _ => .null)) := by rw [← hH1, Array.getElem?_push_size, ← arrV_new]
    have o1 : ∀ q : Nat, q < H.size → H1[q]? = H[q]? := fun q hq => by rw [← hH1, Array.getElem?_push, if_neg (Nat.ne_of_lt hq)]
    have k10 := k9 H1 (hH.push z1 o1 ?_) (hS.push z1 o1)
    · rw [← hz] at k10
      exact k10
    · rw [hs_picR (s := nO s t n.toNatClampNeg) (by rw [nO_K]) ht.2.1]
      obtain ⟨kA', comp', -, -, -, hn4⟩ := (hK.2 t0 _ (ht.1 E)).2
      have hcA : E.2.2.2.1 t = cA := Option.some.inj (hn4.symm.trans f1)
      show H1[s.1]? = some (vp_cell _ _)
      rw [vp_cell_q, nO_R, hcA, nO_K, ← hz, e1]
      rfl
  · rw [nA, if_neg hc]; exact Jo_none
theorem Jo_objInit {a idx : Nat} (hd : dI M.2.1 pc q (.invokespecial idx) 3) (hw : Cond.methodLink M.1 idx objectInit ∈ tbG ∧ Cond.instanceMethod objectInit ∈ tbG ∧ Cond.code objectInit ⟨#[0xb1]⟩ 1 none ∈ tbG) (hr : 1 ≤ M.2.2.2.2.2.1 ∧ (st.map fun v => v.category).sum + 12 ≤ M.2.2.2.2.2.2) (kk : Jo E M cv q ls st s o) : Jo E M cv pc ls (.ref a :: st) s o := by
  obtain ⟨hd, rfl⟩ := hd
  refine Jo.pure (fun p e R s0 m args below meth cd H locs cells slots lsA Q C _ hl0 _ _ k9 => ?_) kk
  have h8 := C.2.2.2.2.2.2.2.1
  have h9 : 2 * 0 + (st.map fun v => v.category).sum + 12 ≤ R.locals := by
    have g1 := hr.2
    have g2 := h8.2
    omega
  exact W.objInit C.1 C.2.1 C.2.2.2.1 (C.2.2.2.2.1 _ hw.1) (C.2.2.2.2.1 _ hw.2.1) (C.2.2.2.2.1 _ hw.2.2) rfl (by rw [C.2.2.2.2.2.2.1]; exact hl0.1) rfl hd (Nat.le_trans hr.1 h8.1) h9 (k9 lsA hl0)
/-- the end of a method -/
theorem J.ret {v : Option Value} {p : Program} {R : Room} {s0 : State} {m : MethodId} {args : Array Value} {meth : Method} {c : Code} {H : Heap} {locs : List Loc} (C : jCx E M p R s0 m args meth c) (hH : hs_H E s H) (hS : va_S (hs_A E) s0.heap H locs) : ∀ t : State, t.heap = H → s0.WarmedH t.vm → jQ E v s args s0 (.returned v) t := by
  intro t ht hW
  refine ⟨rfl, ⟨C.2.2.2.2.2.2.2.2.2.1.warm hW, ?_, by rw [ht]; exact hH⟩, hS.F ht⟩
  rw [ht]
  exact (C.2.2.2.2.2.2.2.2.2.2.1.moved hW.alike).kept (fun a h1 h2 => hS.2.1 a h1 h2)
theorem Jo_iret {v : Int32} (hr : M.2.2.2.1 = some .int) (hd : dI M.2.1 pc q .ireturn 1) : Jo E M cvI pc ls [.int v] s (some (v, s)) := by
  intro r hr0
  cases hr0
  refine ⟨hs_le.rf s, fun p e R s0 m args below meth c H locs cells slots lsA C hH hS h1 h2 hl => ?_⟩
  simp only [Nat.sub_self, Nat.add_zero]
  exact W.iret C.1 C.2.1 (by rw [C.2.2.1]; exact hr) (J.ret C hH hS) hS.2.2 hd.1 C.2.2.2.2.2.1
theorem Jo_zret {v : Int32} (hr : M.2.2.2.1 = some .boolean) (hd : dI M.2.1 pc q .ireturn 1) : Jo E M cvI pc ls [.int v] s (if v = 0 ∨ v = 1 then some (v, s) else none) := by
  intro r hr0
  by_cases hv : v = 0 ∨ v = 1
  · rw [if_pos hv] at hr0
    cases hr0
    refine ⟨hs_le.rf s, fun p e R s0 m args below meth c H locs cells slots lsA C hH hS h1 h2 hl => ?_⟩
    simp only [Nat.sub_self, Nat.add_zero]
    exact W.zret (ty := .boolean) C.1 C.2.1 (by rw [C.2.2.1]; exact hr) (by rcases hv with rfl | rfl <;> rfl) (J.ret C hH hS) hS.2.2 hd.1 C.2.2.2.2.2.1
  · rw [if_neg hv] at hr0; cases hr0
theorem Jo_zret0 (hr : M.2.2.2.1 = some .boolean) (hd : dI M.2.1 pc q .ireturn 1) : Jo E M cvI pc ls [.int 0] s (some (0, s)) := Jo_zret (v := 0) hr hd
theorem Jo_zret1 (hr : M.2.2.2.1 = some .boolean) (hd : dI M.2.1 pc q .ireturn 1) : Jo E M cvI pc ls [.int 1] s (some (1, s)) := Jo_zret (v := 1) hr hd
theorem Jo_vret (hr : M.2.2.2.1 = none) (hd : dI M.2.1 pc q .return_ 1) : Jo E M cvV pc ls [] s (some ((), s)) := by
  intro r hr0
  cases hr0
  refine ⟨hs_le.rf s, fun p e R s0 m args below meth c H locs cells slots lsA C hH hS h1 h2 hl => ?_⟩
  simp only [Nat.sub_self, Nat.add_zero]
  exact W.vret C.1 C.2.1 (by rw [C.2.2.1]; exact hr) (J.ret C hH hS) hS.2.2 hd.1 C.2.2.2.2.2.1
theorem Jo_aret {a : Nat} {n : String} (hr : M.2.2.2.1 = some (.object n)) (hd : dI M.2.1 pc q .areturn 1) : Jo E M cvR pc ls [.ref a] s (some (a, s)) := by
  intro r hr0
  cases hr0
  refine ⟨hs_le.rf s, fun p e R s0 m args below meth c H locs cells slots lsA C hH hS h1 h2 hl => ?_⟩
  simp only [Nat.sub_self, Nat.add_zero]
  exact W.aret C.1 C.2.1 (by rw [C.2.2.1]; exact hr) (Or.inl ⟨n, rfl⟩) (Or.inr ⟨a, rfl⟩) (J.ret C hH hS) hS.2.2 hd.1 C.2.2.2.2.2.1
end JN
/-- a method's contract -/
def jK {α : Type} (E : jE) (y : MethodName) (M : jM) (cv : α → Option Value) (av : List Value) (s : hS) (o : Option (α × hS)) : Prop := ∀ r, o = some r → hs_le s r.2 ∧ Met E.1 y (Cond.code y M.2.1 M.2.2.1 M.2.2.2.1 :: tbG) { frames := M.2.2.2.2.2.1, cells := r.2.1 - s.1, slots := r.2.2.1 - s.2.1, locals := M.2.2.2.2.2.2 } (va_Pc av (hs_W E s)) (jQ E (cv r.1) r.2) (r.2.1 - s.1) (r.2.2.1 - s.2.1) (hs_A E)
theorem jK_of {α : Type} {E : jE} {y : MethodName} {M : jM} {cv : α → Option Value} {av : List Value} {s : hS} {o : Option (α × hS)} (hy : plainName y.cls = true ∧ y.cls = M.1 ∧ y.name = M.2.2.2.2.1) (hn : (lg_sl av).length ≤ M.2.2.1) (h : Jo E M cv 0 (lv_args 0 av) [] s o) : jK E y M cv av s o := by
  intro r hr
  have k := h r hr
  refine ⟨k.1, ?_⟩
  refine Met.ofW (cc := M.2.1) (maxL := M.2.2.1) (ret := M.2.2.2.1) hy.1 rfl ?_
  intro p e s0 m args below meth c s₁ B hml hv
  obtain ⟨rfl, hT, hZ, hH⟩ := hv
  have hts := atoms_spec (ws := Cond.code y M.2.1 M.2.2.1 M.2.2.2.1 :: tbG) B.pre
  have hown : s0.vm.findClass y.cls = some m.cls := findClass_of_methodNamed B.named
  have hl := lv_entry av (n := M.2.2.1) hn
  rw [lg_entry_eq]
  have hz : E.2.1 ≤ s0.heap.size := by rw [hH.2.1]; exact hH.1
  have h3 := k.2 p e (headSpec (Cond.code y M.2.1 M.2.2.1 M.2.2.2.1 :: tbG) { frames := M.2.2.2.2.2.1, cells := r.2.1 - s.1, slots := r.2.2.1 - s.2.1, locals := M.2.2.2.2.2.2 }).room s0 m av.toArray below meth c s0.heap [] 0 0 _ ⟨B.exec, B.bytes, B.returns, by rw [← hy.2.1]; exact hown, fun w hw => hts w (List.mem_cons_of_mem _ hw), B.notSynchronized, hml, ⟨Nat.le_refl _, Nat.le_refl _⟩, by rw [← hy.2.2]; exact (name_of_methodNamed B.named B.method).1, hT, hZ, hz⟩ hH va_S.rf (by show 0 + (r.2.1 - s.1) ≤ r.2.1 - s.1; omega) (by show 0 + (r.2.2.1 - s.2.1) ≤ r.2.2.1 - s.2.1; omega) hl
  rw [Nat.zero_add, Nat.zero_add] at h3
  exact h3
theorem hs_blind (E : jE) (s : hS) (av : List Value) : FrameBlind (va_Pc av (hs_W E s)) := by
  intro a U g mk h
  obtain ⟨h1, h2, h3, h4⟩ := h
  exact ⟨h1, h2.warm (U := U.calling g mk a) (State.WarmedH.refl U), h3.moved (U := U.calling g mk a) (Vm.Alike.refl U.vm), h4⟩
section JC
variable {α β : Type} {E : jE} {M My : jM} {cv : α → Option Value} {cvy : β → Option Value} {pc q : Nat} {ls ls' : List (Nat × Value)} {st rest : List Value} {s : hS} {oy : Option (β × hS)} {g : β × hS → Option (α × hS)} {y : MethodName}
theorem va_callJ {p : Program} {l : Launch} {e : Env} {R : Room} {s : State} {m : MethodId} {args : Array Value} {below : List Frame} {meth : Method} {c : Code} {H : Heap} {locs : List Loc} {cells slots : Nat} {Q : State → Prop} {pc : Nat} {ls : Array Slot} {rest st0 : List Value} {a : Array Value} {mc ms : Nat} {v : Option Value} {t : hS}
    (hr : va_Run p l e R s m args below meth c H locs cells slots mc ms (F0 m pc ls st0) rest (jQ E v t a) (hs_A E)) (hS : va_S (hs_A E) s.heap H locs)
    (kk : ∀ (H1 : Heap) (locs1 : List Loc), hs_H E t H1 → va_S (hs_A E) s.heap H1 locs1 → W p l e R s m args below meth c H1 locs1 (cells + mc) (slots + ms) Q (F0 m (pc + 3) ls (v.toList ++ rest))) : W p l e R s m args below meth c H locs cells slots Q (F0 m pc ls st0) := by
  intro T hT X
  obtain ⟨v', st₀, t', T', L, h0, X', hL, e1, e2, ⟨hv, hW, hz, hk⟩, stp⟩ := hr T hT X
  cases hv
  rw [h0] at hz hk
  obtain ⟨t2, a1, b1⟩ := kk T'.heap (locs ++ L) (by rw [e1]; exact hW.2.2)
    ⟨Nat.le_trans hS.1 (by rw [e1]; exact hz), fun q h1 h2 => by rw [e1, hk q (Nat.lt_of_lt_of_le h1 hS.1) h2]; exact hS.2.1 q h1 h2, fun q hq => by
      rcases List.mem_append.mp hq with h | h
      · exact hS.2.2 q h
      · exact hL q h⟩ T' rfl X'
  exact ⟨t2, stp t2 a1, b1⟩
/-- a callee's own words -/
def yF (y : MethodName) (My : jM) (n : Nat) : Prop := Cond.code y My.2.1 My.2.2.1 My.2.2.2.1 ∈ tbG ∧ Cond.initialized y.cls ∈ tbG ∧ (y.cls ≠ "java/lang/invoke/MethodHandle" ∧ y.cls ≠ "java/lang/invoke/VarHandle" ∧ (parseMethodDescriptor y.desc).map (fun d => d.parameters.length) = some n)
theorem yF.good {n : Nat} (h : yF y My n) : GoodIn tbG (Cond.code y My.2.1 My.2.2.1 My.2.2.2.1 :: tbG) := fun w hw => (List.mem_cons.mp hw).elim (fun e => by rw [e]; exact tbG_good _ h.1) (tbG_good w)
/-- any call: what the machine's row must give -/
theorem Jo.call {av : List Value} (hK : jK E y My cvy av s oy)
    (h : ∀ (p : Program) (e : Env) (R : Room) (s0 : State) (m : MethodId) (args : Array Value) (below : List Frame) (meth : Method) (c : Code) (H : Heap) (locs : List Loc) (cells slots : Nat) (lsA : Array Slot) (r1 : β × hS),
      jCx E M p R s0 m args meth c → hs_H E s H → va_S (hs_A E) s0.heap H locs → lsA.size = M.2.2.1 → cells + (r1.2.1 - s.1) ≤ R.cells → slots + (r1.2.2.1 - s.2.1) ≤ R.slots → Met E.1 y (Cond.code y My.2.1 My.2.2.1 My.2.2.2.1 :: tbG) { frames := My.2.2.2.2.2.1, cells := r1.2.1 - s.1, slots := r1.2.2.1 - s.2.1, locals := My.2.2.2.2.2.2 } (va_Pc av (hs_W E s)) (jQ E (cvy r1.1) r1.2) (r1.2.1 - s.1) (r1.2.2.1 - s.2.1) (hs_A E) →
      va_Run p E.1 e R s0 m args below meth c H locs cells slots (r1.2.1 - s.1) (r1.2.2.1 - s.2.1) (F0 m pc lsA st) rest (jQ E (cvy r1.1) r1.2 av.toArray) (hs_A E))
    (kk : ∀ r1 : β × hS, Jo E M cv (pc + 3) ls ((cvy r1.1).toList ++ rest) r1.2 (g r1)) : Jo E M cv pc ls st s (oy.bind g) := by
  intro r hr
  cases ho : oy with
  | none => rw [ho] at hr; cases hr
  | some r1 =>
    rw [ho] at hr
    have k := kk r1 r hr
    obtain ⟨hle, hM⟩ := hK r1 ho
    refine ⟨hle.tr k.1, fun p e R s0 m args below meth c H locs cells slots lsA C hH hS h1 h2 hl => ?_⟩
    have a1 := hle.1
    have a2 := hle.2
    have b1 := k.1.1
    have b2 := k.1.2
    refine va_callJ (h p e R s0 m args below meth c H locs cells slots lsA r1 C hH hS hl.1 (by omega) (by omega) hM) hS fun H1 locs1 hH1 hS1 => ?_
    have e1 : cells + (r1.2.1 - s.1) + (r.2.1 - r1.2.1) = cells + (r.2.1 - s.1) := by omega
    have e2 : slots + (r1.2.2.1 - s.2.1) + (r.2.2.1 - r1.2.2.1) = slots + (r.2.2.1 - s.2.1) := by omega
    have h3 := k.2 p e R s0 m args below meth c H1 locs1 (cells + (r1.2.1 - s.1)) (slots + (r1.2.2.1 - s.2.1)) lsA C hH1 hS1 (by rw [e1]; exact h1) (by rw [e2]; exact h2) hl
    rw [e1, e2] at h3
    exact h3
theorem hs_pre {p : Program} {R : Room} {s0 : State} {m : MethodId} {args : Array Value} {meth : Method} {c : Code} {H : Heap} {locs : List Loc} {av : List Value} (C : jCx E M p R s0 m args meth c) (hH : hs_H E s H) (hS : va_S (hs_A E) s0.heap H locs) : ∀ U : State, U.heap = H → s0.WarmedH U.vm → va_Pc av (hs_W E s) av.toArray U := by
  intro U hU hW
  refine ⟨rfl, C.2.2.2.2.2.2.2.2.2.1.warm hW, ?_, by rw [hU]; exact hH⟩
  rw [hU]
  exact (C.2.2.2.2.2.2.2.2.2.2.1.moved hW.alike).kept (fun a h1 h2 => hS.2.1 a h1 h2)
theorem Jo_callV {a c idx n : Nat} {C : String} {T : u_T} {N : Nat} (As : List Value) (hc : classes[c]? = some (C, T, N) ∧ c < 8 ∧ C = y.cls) (hy : yF y My n) (hyv : Cond.instanceMethod y ∈ tbG ∧ Cond.selects y.cls y y ∈ tbG) (hl : Cond.methodLink M.1 idx y ∈ tbG) (hst : st = As.reverse ++ .ref a :: rest) (hn : As.length = n) (hroom : My.2.2.2.2.2.1 + 1 ≤ M.2.2.2.2.2.1 ∧ 8 + (My.2.2.1 + 11) + My.2.2.2.2.2.2 ≤ M.2.2.2.2.2.2 ∧ (rest.map fun v => v.category).sum ≤ 8) (hd : decode M.2.1 pc = .ok (.invokevirtual idx, 3)) (hK : jK E y My cvy (.ref a :: As) s oy)
    (kk : ∀ r1 : β × hS, Jo E M cv (pc + 3) ls ((cvy r1.1).toList ++ rest) r1.2 (g r1)) : Jo E M cv pc ls st s ((cV s a c oy).bind g) := by
  by_cases hk : (s.2.2.1 a).1 = c
  · rw [cV, if_pos hk]
    refine Jo.call hK (fun p e R s0 m args below meth cd H locs cells slots lsA r1 C0 hH hS hsz h1 h2 hM => ?_) kk
    have hts := C0.2.2.2.2.1
    have hK0 := C0.2.2.2.2.2.2.2.2.2.1.1
    have h8 := C0.2.2.2.2.2.2.2.1
    obtain ⟨hc1, hc2, rfl⟩ := hc
    refine va_runV (As := As) (rest := rest) (Ts := tbG) (C := y.cls) (n := n) ⟨C0.1, C0.2.1, C0.2.2.2.2.2.2.1, C0.2.2.2.1, hts⟩ hM ⟨callB_of n hts hy.good rfl rfl rfl (hts _ hy.2.1) (hts _ hl) hy.2.2 ⟨Nat.le_trans hroom.1 h8.1, Nat.le_trans hroom.2.1 h8.2⟩, hts _ hyv.1, hts _ hyv.2⟩ ⟨hs_blind E s _, ?_, hs_pre C0 hH hS⟩ rfl hn hsz hst (by show 2 * 0 + _ ≤ 8; have := hroom.2.2; omega) hd ⟨h1, h2⟩
    exact va_recv hK0 hH.2.2.1 hc1 (q0 := a - E.2.1) (fs := hs_fs s a c) (by rw [hs_in hH hk (by omega), hs_picO hk hc2])
  · rw [cV, if_neg hk]
    exact fun r h => by cases h
theorem Jo_callS {idx n : Nat} (As : List Value) (hy : yF y My n) (hys : Cond.static y ∈ tbG) (hl : Cond.methodLink M.1 idx y ∈ tbG) (hst : st = As.reverse ++ rest) (hn : As.length = n) (hroom : My.2.2.2.2.2.1 + 1 ≤ M.2.2.2.2.2.1 ∧ 8 + (My.2.2.1 + 11) + My.2.2.2.2.2.2 ≤ M.2.2.2.2.2.2 ∧ (rest.map fun v => v.category).sum ≤ 8) (hd : decode M.2.1 pc = .ok (.invokestatic idx, 3)) (hK : jK E y My cvy As s oy)
    (kk : ∀ r1 : β × hS, Jo E M cv (pc + 3) ls ((cvy r1.1).toList ++ rest) r1.2 (g r1)) : Jo E M cv pc ls st s (oy.bind g) := by
  refine Jo.call hK (fun p e R s0 m args below meth cd H locs cells slots lsA r1 C0 hH hS hsz h1 h2 hM => ?_) kk
  have hts := C0.2.2.2.2.1
  have h8 := C0.2.2.2.2.2.2.2.1
  exact va_runS (As := As) (rest := rest) (Ts := tbG) (n := n) ⟨C0.1, C0.2.1, C0.2.2.2.2.2.2.1, C0.2.2.2.1, hts⟩ hM ⟨callB_of n hts hy.good rfl rfl rfl (hts _ hy.2.1) (hts _ hl) hy.2.2 ⟨Nat.le_trans hroom.1 h8.1, Nat.le_trans hroom.2.1 h8.2⟩, hts _ hys⟩ ⟨hs_blind E s _, hs_pre C0 hH hS⟩ rfl hn hsz hst (by show 2 * 0 + _ ≤ 8; have := hroom.2.2; omega) hd ⟨h1, h2⟩
theorem Jo_callN {idx n : Nat} {host : String} (As : List Value) (hy : yF y My n) (hys : Cond.static y ∈ tbG) (hl : ∀ E U, hs_T E U → va_Nw (.methodLinkNest M.1 idx y host) U) (hst : st = As.reverse ++ rest) (hn : As.length = n) (hroom : My.2.2.2.2.2.1 + 1 ≤ M.2.2.2.2.2.1 ∧ 8 + (My.2.2.1 + 11) + My.2.2.2.2.2.2 ≤ M.2.2.2.2.2.2 ∧ (rest.map fun v => v.category).sum ≤ 8) (hd : decode M.2.1 pc = .ok (.invokestatic idx, 3)) (hK : jK E y My cvy As s oy)
    (kk : ∀ r1 : β × hS, Jo E M cv (pc + 3) ls ((cvy r1.1).toList ++ rest) r1.2 (g r1)) : Jo E M cv pc ls st s (oy.bind g) := by
  refine Jo.call hK (fun p e R s0 m args below meth cd H locs cells slots lsA r1 C0 hH hS hsz h1 h2 hM => ?_) kk
  have hts := C0.2.2.2.2.1
  have h8 := C0.2.2.2.2.2.2.2.1
  exact va_runSN (As := As) (rest := rest) (Ts := tbG) (n := n) ⟨C0.1, C0.2.1, C0.2.2.2.2.2.2.1, C0.2.2.2.1, hts⟩ hM ⟨va_cnB n hts hy.good rfl rfl rfl (hl E s0 C0.2.2.2.2.2.2.2.2.2.1) (hts _ hy.2.1) hy.2.2 ⟨Nat.le_trans hroom.1 h8.1, Nat.le_trans hroom.2.1 h8.2⟩, hts _ hys, trivial⟩ ⟨hs_blind E s _, hs_pre C0 hH hS⟩ rfl hn hsz hst (by show 2 * 0 + _ ≤ 8; have := hroom.2.2; omega) hd ⟨h1, h2⟩
theorem Jo_callC {a idx n : Nat} {nm : String} {nL fr lo : Nat} {own : String} {cc : ByteArray} (As : List Value) (hM : My = (own, cc, nL, none, nm, fr, lo)) (hy : yF y My n) (hyv : Cond.instanceMethod y ∈ tbG ∧ y.name = "<init>") (hl : Cond.methodLink M.1 idx y ∈ tbG) (hst : st = As.reverse ++ .ref a :: rest) (hn : As.length = n) (hroom : My.2.2.2.2.2.1 + 1 ≤ M.2.2.2.2.2.1 ∧ 8 + (My.2.2.1 + 11) + My.2.2.2.2.2.2 ≤ M.2.2.2.2.2.2 ∧ (rest.map fun v => v.category).sum ≤ 8) (hd : decode M.2.1 pc = .ok (.invokespecial idx, 3)) (hK : jK E y My cvy (.ref a :: As) s oy)
    (kk : ∀ r1 : β × hS, Jo E M cv (pc + 3) ls ((cvy r1.1).toList ++ rest) r1.2 (g r1)) : Jo E M cv pc ls st s (oy.bind g) := by
  subst hM
  refine Jo.call hK (fun p e R s0 m args below meth cd H locs cells slots lsA r1 C0 hH hS hsz h1 h2 hM => ?_) kk
  have hts := C0.2.2.2.2.1
  have h8 := C0.2.2.2.2.2.2.2.1
  exact va_runI (As := As) (rest := rest) (Ts := tbG) (n := n) ⟨C0.1, C0.2.1, C0.2.2.2.2.2.2.1, C0.2.2.2.1, hts⟩ hM ⟨callB_of n hts hy.good rfl rfl rfl (hts _ hy.2.1) (hts _ hl) hy.2.2 ⟨Nat.le_trans hroom.1 h8.1, Nat.le_trans hroom.2.1 h8.2⟩, hyv.2, hts _ hyv.1⟩ ⟨hs_blind E s _, hs_pre C0 hH hS⟩ rfl hn hsz hst (by show 2 * 0 + _ ≤ 8; have := hroom.2.2; omega) hd ⟨h1, h2⟩
end JC
