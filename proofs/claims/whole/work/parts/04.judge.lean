/-- a method: its class, its bytes, its locals, what it returns, its name, frames and words below it -/
abbrev jM : Type := String × ByteArray × Nat × Option FieldType × String × Nat × Nat
def tbG : List Cond := lw_tbl.filter goodWord
theorem tbG_in {w : Cond} (h : w ∈ lw_tbl) (hg : goodWord w = true) : w ∈ tbG := List.mem_filter.mpr ⟨h, hg⟩
theorem tbG_good : GoodIn tbG tbG := fun w hw => ⟨hw, good_of_word (List.mem_filter.mp hw).2⟩
def jCx (E : jE) (M : jM) (p : Program) (R : Room) (s0 : State) (m : MethodId) (args : Array Value) (meth : Method) (c : Code) : Prop :=
  p.tables.exec = Jvm.exec ∧ c.code = M.2.1 ∧ meth.sig.returnType = M.2.2.2.1 ∧ s0.vm.findClass M.1 = some m.cls ∧ (∀ w ∈ tbG, w.before args s0 = true) ∧ meth.locks = false ∧ c.maxLocals = M.2.2.1 ∧ (M.2.2.2.2.2.1 ≤ R.frames ∧ M.2.2.2.2.2.2 ≤ R.locals) ∧ meth.name = M.2.2.2.2.1 ∧ hs_T E s0 ∧ hs_Z E s0 s0.heap ∧ E.2.1 ≤ s0.heap.size
def jQ (E : jE) (v : Option Value) (t : hS) : Array Value → State → Outcome → State → Prop := fun _ st o u => o = .returned v ∧ hs_W E t u ∧ va_F (hs_A E) st u
def J {α : Type} (E : jE) (M : jM) (cv : α → Option Value) (pc : Nat) (ls : List (Nat × Value)) (st : List Value) (s : hS) (r : α × hS) : Prop :=
  hs_le s r.2 ∧ ∀ (p : Program) (e : Env) (R : Room) (s0 : State) (m : MethodId) (args : Array Value) (below : List Frame) (meth : Method) (c : Code) (H : Heap) (locs : List Loc) (cells slots : Nat) (lsA : Array Slot),
    jCx E M p R s0 m args meth c → hs_H E s H → va_S (hs_A E) s0.heap H locs → cells + (r.2.1 - s.1) ≤ R.cells → slots + (r.2.2.1 - s.2.1) ≤ R.slots → lv_has lsA M.2.2.1 ls →
    W p E.1 e R s0 m args below meth c H locs cells slots (MQ below (jQ E (cv r.1) r.2) args s0 (cells + (r.2.1 - s.1)) (slots + (r.2.2.1 - s.2.1)) (hs_A E)) (F0 m pc lsA st)
def Jo {α : Type} (E : jE) (M : jM) (cv : α → Option Value) (pc : Nat) (ls : List (Nat × Value)) (st : List Value) (s : hS) (o : Option (α × hS)) : Prop := ∀ r, o = some r → J E M cv pc ls st s r
def dI (cc : ByteArray) (pc q : Nat) (i : Instr) (n : Nat) : Prop := decode cc pc = .ok (i, n) ∧ pc + n = q
def cvI (v : Int32) : Option Value := some (.int v)
def cvV (_ : Unit) : Option Value := none
def cvR (a : Nat) : Option Value := some (.ref a)
section JR
variable {α : Type} {E : jE} {M : jM} {cv : α → Option Value} {pc q : Nat} {ls ls' : List (Nat × Value)} {st : List Value} {s : hS} {o : Option (α × hS)}
theorem J.pure {pc' : Nat} {ls' : List (Nat × Value)} {st' : List Value} {r : α × hS} (h : ∀ (p : Program) (e : Env) (R : Room) (s0 : State) (m : MethodId) (args : Array Value) (below : List Frame) (meth : Method) (c : Code) (H : Heap) (locs : List Loc) (cells slots : Nat) (lsA : Array Slot) (Q : State → Prop),
    jCx E M p R s0 m args meth c → va_S (hs_A E) s0.heap H locs → lv_has lsA M.2.2.1 ls → cells ≤ R.cells → slots ≤ R.slots → (∀ lsB, lv_has lsB M.2.2.1 ls' → W p E.1 e R s0 m args below meth c H locs cells slots Q (F0 m pc' lsB st')) → W p E.1 e R s0 m args below meth c H locs cells slots Q (F0 m pc lsA st))
    (k : J E M cv pc' ls' st' s r) : J E M cv pc ls st s r :=
  ⟨k.1, fun p e R s0 m args below meth c H locs cells slots lsA C hH hS h1 h2 hl => h p e R s0 m args below meth c H locs cells slots lsA _ C hS hl (by omega) (by omega) fun lsB hlB => k.2 p e R s0 m args below meth c H locs cells slots lsB C hH hS h1 h2 hlB⟩
theorem Jo.pure {pc' : Nat} {ls' : List (Nat × Value)} {st' : List Value} (h : ∀ (p : Program) (e : Env) (R : Room) (s0 : State) (m : MethodId) (args : Array Value) (below : List Frame) (meth : Method) (c : Code) (H : Heap) (locs : List Loc) (cells slots : Nat) (lsA : Array Slot) (Q : State → Prop),
    jCx E M p R s0 m args meth c → va_S (hs_A E) s0.heap H locs → lv_has lsA M.2.2.1 ls → cells ≤ R.cells → slots ≤ R.slots → (∀ lsB, lv_has lsB M.2.2.1 ls' → W p E.1 e R s0 m args below meth c H locs cells slots Q (F0 m pc' lsB st')) → W p E.1 e R s0 m args below meth c H locs cells slots Q (F0 m pc lsA st))
    (k : Jo E M cv pc' ls' st' s o) : Jo E M cv pc ls st s o := fun r hr => J.pure h (k r hr)
theorem Jo_none : Jo E M cv pc ls st s (none : Option (α × hS)) := fun r h => by cases h
theorem Jo_sub (ks : List Nat) (hl : lv_pick ls ks = ls') (k : Jo E M cv pc ls' st s o) : Jo E M cv pc ls st s o := fun r hr => J.pure (fun _ _ _ _ _ _ _ _ _ _ _ _ _ lsA _ _ _ hl0 _ _ kk => kk lsA (lv_sub hl0 ks hl)) (k r hr)
theorem Jo_iconst {n : Int} {v : Int32} (hd : dI M.2.1 pc q (.iconst n) 1) (hv : Int32.ofInt n = v) (k : Jo E M cv q ls (.int v :: st) s o) : Jo E M cv pc ls st s o := by
  obtain ⟨hd, rfl⟩ := hd
  exact Jo.pure (fun _ _ _ _ _ _ _ _ _ _ _ _ _ lsA _ C _ hl0 _ _ kk => lv_iconst C.1 C.2.1 hd hv (kk lsA hl0)) k
theorem Jo_bipush {n : Int} {v : Int32} (hd : dI M.2.1 pc q (.bipush n) 2) (hv : (Int8.ofInt n).toInt32 = v) (k : Jo E M cv q ls (.int v :: st) s o) : Jo E M cv pc ls st s o := by
  obtain ⟨hd, rfl⟩ := hd
  exact Jo.pure (fun _ _ _ _ _ _ _ _ _ _ _ _ _ lsA _ C _ hl0 _ _ kk => lv_bipush C.1 C.2.1 hd hv (kk lsA hl0)) k
theorem Jo_sipush {n : Int} {v : Int32} (hd : dI M.2.1 pc q (.sipush n) 3) (hv : (Int16.ofInt n).toInt32 = v) (k : Jo E M cv q ls (.int v :: st) s o) : Jo E M cv pc ls st s o := by
  obtain ⟨hd, rfl⟩ := hd
  exact Jo.pure (fun _ _ _ _ _ _ _ _ _ _ _ _ _ lsA _ C _ hl0 _ _ kk => lv_sipush C.1 C.2.1 hd hv (kk lsA hl0)) k
theorem Jo_ldc {i : Nat} {v : Int32} (hd : dI M.2.1 pc q (.ldc i) 2) (hw : Cond.constant M.1 i v ∈ tbG) (k : Jo E M cv q ls (.int v :: st) s o) : Jo E M cv pc ls st s o := by
  obtain ⟨hd, rfl⟩ := hd
  exact Jo.pure (fun _ _ _ _ _ _ _ _ _ _ _ _ _ lsA _ C _ hl0 _ _ kk => lv_ldc C.1 C.2.1 C.2.2.2.1 (C.2.2.2.2.1 _ hw) hd (kk lsA hl0)) k
theorem Jo_ldcw {i : Nat} {v : Int32} (hd : dI M.2.1 pc q (.ldc_w i) 3) (hw : Cond.constant M.1 i v ∈ tbG) (k : Jo E M cv q ls (.int v :: st) s o) : Jo E M cv pc ls st s o := by
  obtain ⟨hd, rfl⟩ := hd
  exact Jo.pure (fun _ _ _ _ _ _ _ _ _ _ _ _ _ lsA _ C _ hl0 _ _ kk => lv_ldcw C.1 C.2.1 C.2.2.2.1 (C.2.2.2.2.1 _ hw) hd (kk lsA hl0)) k
theorem Jo_iloadn {j : Fin 4} {i : Nat} {x : Int32} (k0 : Nat) (hd : dI M.2.1 pc q (.iload_n j) 1) (hi : (j : Nat) = i) (hk : ls[k0]? = some (i, .int x)) (k : Jo E M cv q ls (.int x :: st) s o) : Jo E M cv pc ls st s o := by
  obtain ⟨hd, rfl⟩ := hd
  exact Jo.pure (fun _ _ _ _ _ _ _ _ _ _ _ _ _ lsA _ C _ hl0 _ _ kk => lv_iload_n C.1 C.2.1 hd hi (lv_at hl0 k0 hk) (kk lsA hl0)) k
theorem Jo_iload {i : Nat} {x : Int32} (k0 : Nat) (hd : dI M.2.1 pc q (.iload i) 2) (hk : ls[k0]? = some (i, .int x)) (k : Jo E M cv q ls (.int x :: st) s o) : Jo E M cv pc ls st s o := by
  obtain ⟨hd, rfl⟩ := hd
  exact Jo.pure (fun _ _ _ _ _ _ _ _ _ _ _ _ _ lsA _ C _ hl0 _ _ kk => lv_iload C.1 C.2.1 hd (lv_at hl0 k0 hk) (kk lsA hl0)) k
theorem Jo_aloadn {j : Fin 4} {i a : Nat} (k0 : Nat) (hd : dI M.2.1 pc q (.aload_n j) 1) (hi : (j : Nat) = i) (hk : ls[k0]? = some (i, .ref a)) (k : Jo E M cv q ls (.ref a :: st) s o) : Jo E M cv pc ls st s o := by
  obtain ⟨hd, rfl⟩ := hd
  exact Jo.pure (fun _ _ _ _ _ _ _ _ _ _ _ _ _ lsA _ C _ hl0 _ _ kk => lv_aload_n C.1 C.2.1 hd hi (lv_at hl0 k0 hk) (kk lsA hl0)) k
theorem Jo_aload {i a : Nat} (k0 : Nat) (hd : dI M.2.1 pc q (.aload i) 2) (hk : ls[k0]? = some (i, .ref a)) (k : Jo E M cv q ls (.ref a :: st) s o) : Jo E M cv pc ls st s o := by
  obtain ⟨hd, rfl⟩ := hd
  exact Jo.pure (fun _ _ _ _ _ _ _ _ _ _ _ _ _ lsA _ C _ hl0 _ _ kk => lv_aload C.1 C.2.1 hd (lv_at hl0 k0 hk) (kk lsA hl0)) k
theorem Jo_istoren {j : Fin 4} {i : Nat} {x : Int32} (hd : dI M.2.1 pc q (.istore_n j) 1) (hi : (j : Nat) = i) (hn : i < M.2.2.1) (hl : (i, Value.int x) :: ls.filter (fun q => !(q.1 == i) && !(q.1 + 1 == i && q.2.category == 2)) = ls') (k : Jo E M cv q ls' st s o) : Jo E M cv pc ls (.int x :: st) s o := by
  obtain ⟨hd, rfl⟩ := hd
  exact Jo.pure (fun _ _ _ _ _ _ _ _ _ _ _ _ _ lsA _ C _ hl0 _ _ kk => lv_istore_n C.1 C.2.1 hd hi hl0 hn hl kk) k
theorem Jo_istore {i : Nat} {x : Int32} (hd : dI M.2.1 pc q (.istore i) 2) (hn : i < M.2.2.1) (hl : (i, Value.int x) :: ls.filter (fun q => !(q.1 == i) && !(q.1 + 1 == i && q.2.category == 2)) = ls') (k : Jo E M cv q ls' st s o) : Jo E M cv pc ls (.int x :: st) s o := by
  obtain ⟨hd, rfl⟩ := hd
  exact Jo.pure (fun _ _ _ _ _ _ _ _ _ _ _ _ _ lsA _ C _ hl0 _ _ kk => lv_istore C.1 C.2.1 hd hl0 hn hl kk) k
theorem Jo_astoren {j : Fin 4} {i a : Nat} (hd : dI M.2.1 pc q (.astore_n j) 1) (hi : (j : Nat) = i) (hn : i < M.2.2.1) (hl : (i, Value.ref a) :: ls.filter (fun q => !(q.1 == i) && !(q.1 + 1 == i && q.2.category == 2)) = ls') (k : Jo E M cv q ls' st s o) : Jo E M cv pc ls (.ref a :: st) s o := by
  obtain ⟨hd, rfl⟩ := hd
  exact Jo.pure (fun _ _ _ _ _ _ _ _ _ _ _ _ _ lsA _ C _ hl0 _ _ kk => lv_astore_n C.1 C.2.1 hd hi hl0 hn hl kk) k
theorem Jo_astore {i a : Nat} (hd : dI M.2.1 pc q (.astore i) 2) (hn : i < M.2.2.1) (hl : (i, Value.ref a) :: ls.filter (fun q => !(q.1 == i) && !(q.1 + 1 == i && q.2.category == 2)) = ls') (k : Jo E M cv q ls' st s o) : Jo E M cv pc ls (.ref a :: st) s o := by
  obtain ⟨hd, rfl⟩ := hd
  exact Jo.pure (fun _ _ _ _ _ _ _ _ _ _ _ _ _ lsA _ C _ hl0 _ _ kk => lv_astore C.1 C.2.1 hd hl0 hn hl kk) k
theorem Jo_iinc {i : Nat} {n : Int} {x v : Int32} (k0 : Nat) (hd : dI M.2.1 pc q (.iinc i n) 3) (hk : ls[k0]? = some (i, .int x)) (hv : x + Int32.ofInt n = v) (hn : i < M.2.2.1) (hl : (i, Value.int v) :: ls.filter (fun q => !(q.1 == i) && !(q.1 + 1 == i && q.2.category == 2)) = ls') (k : Jo E M cv q ls' st s o) : Jo E M cv pc ls st s o := by
  obtain ⟨hd, rfl⟩ := hd
  exact Jo.pure (fun _ _ _ _ _ _ _ _ _ _ _ _ _ lsA _ C _ hl0 _ _ kk => lv_iinc C.1 C.2.1 hd hl0 hk hv hn hl kk) k
theorem Jo_iadd {x y : Int32} (hd : dI M.2.1 pc q .iadd 1) (k : Jo E M cv q ls (.int (x + y) :: st) s o) : Jo E M cv pc ls (.int y :: .int x :: st) s o := by
  obtain ⟨hd, rfl⟩ := hd
  exact Jo.pure (fun _ _ _ _ _ _ _ _ _ _ _ _ _ lsA _ C _ hl0 _ _ kk => lv_iadd C.1 C.2.1 hd (kk lsA hl0)) k
theorem Jo_isub {x y : Int32} (hd : dI M.2.1 pc q .isub 1) (k : Jo E M cv q ls (.int (x - y) :: st) s o) : Jo E M cv pc ls (.int y :: .int x :: st) s o := by
  obtain ⟨hd, rfl⟩ := hd
  exact Jo.pure (fun _ _ _ _ _ _ _ _ _ _ _ _ _ lsA _ C _ hl0 _ _ kk => lv_isub C.1 C.2.1 hd (kk lsA hl0)) k
theorem Jo_imul {x y : Int32} (hd : dI M.2.1 pc q .imul 1) (k : Jo E M cv q ls (.int (x * y) :: st) s o) : Jo E M cv pc ls (.int y :: .int x :: st) s o := by
  obtain ⟨hd, rfl⟩ := hd
  exact Jo.pure (fun _ _ _ _ _ _ _ _ _ _ _ _ _ lsA _ C _ hl0 _ _ kk => lv_imul C.1 C.2.1 hd (kk lsA hl0)) k
theorem Jo_iand {x y : Int32} (hd : dI M.2.1 pc q .iand 1) (k : Jo E M cv q ls (.int (x &&& y) :: st) s o) : Jo E M cv pc ls (.int y :: .int x :: st) s o := by
  obtain ⟨hd, rfl⟩ := hd
  exact Jo.pure (fun _ _ _ _ _ _ _ _ _ _ _ _ _ lsA _ C _ hl0 _ _ kk => lv_iand C.1 C.2.1 hd (kk lsA hl0)) k
theorem Jo_ior {x y : Int32} (hd : dI M.2.1 pc q .ior 1) (k : Jo E M cv q ls (.int (x ||| y) :: st) s o) : Jo E M cv pc ls (.int y :: .int x :: st) s o := by
  obtain ⟨hd, rfl⟩ := hd
  exact Jo.pure (fun _ _ _ _ _ _ _ _ _ _ _ _ _ lsA _ C _ hl0 _ _ kk => lv_ior C.1 C.2.1 hd (kk lsA hl0)) k
theorem Jo_ixor {x y : Int32} (hd : dI M.2.1 pc q .ixor 1) (k : Jo E M cv q ls (.int (x ^^^ y) :: st) s o) : Jo E M cv pc ls (.int y :: .int x :: st) s o := by
  obtain ⟨hd, rfl⟩ := hd
  exact Jo.pure (fun _ _ _ _ _ _ _ _ _ _ _ _ _ lsA _ C _ hl0 _ _ kk => lv_ixor C.1 C.2.1 hd (kk lsA hl0)) k
theorem Jo_ishl {x y : Int32} (hd : dI M.2.1 pc q .ishl 1) (k : Jo E M cv q ls (.int (x <<< (y &&& 31)) :: st) s o) : Jo E M cv pc ls (.int y :: .int x :: st) s o := by
  obtain ⟨hd, rfl⟩ := hd
  exact Jo.pure (fun _ _ _ _ _ _ _ _ _ _ _ _ _ lsA _ C _ hl0 _ _ kk => lv_ishl C.1 C.2.1 hd (kk lsA hl0)) k
theorem Jo_ishr {x y : Int32} (hd : dI M.2.1 pc q .ishr 1) (k : Jo E M cv q ls (.int (x >>> (y &&& 31)) :: st) s o) : Jo E M cv pc ls (.int y :: .int x :: st) s o := by
  obtain ⟨hd, rfl⟩ := hd
  exact Jo.pure (fun _ _ _ _ _ _ _ _ _ _ _ _ _ lsA _ C _ hl0 _ _ kk => lv_ishr C.1 C.2.1 hd (kk lsA hl0)) k
theorem Jo_idiv {x y : Int32} (hd : dI M.2.1 pc q .idiv 1) (k : Jo E M cv q ls (.int (x / y) :: st) s o) : Jo E M cv pc ls (.int y :: .int x :: st) s (if y = 0 then none else o) := by
  by_cases hy : y = 0
  · rw [if_pos hy]; exact Jo_none
  · rw [if_neg hy]
    obtain ⟨hd, rfl⟩ := hd
    exact Jo.pure (fun _ _ _ _ _ _ _ _ _ _ _ _ _ lsA _ C _ hl0 _ _ kk => lv_idiv C.1 C.2.1 hd hy (kk lsA hl0)) k
theorem Jo_irem {x y : Int32} (hd : dI M.2.1 pc q .irem 1) (k : Jo E M cv q ls (.int (x - x / y * y) :: st) s o) : Jo E M cv pc ls (.int y :: .int x :: st) s (if y = 0 then none else o) := by
  by_cases hy : y = 0
  · rw [if_pos hy]; exact Jo_none
  · rw [if_neg hy]
    obtain ⟨hd, rfl⟩ := hd
    exact Jo.pure (fun _ _ _ _ _ _ _ _ _ _ _ _ _ lsA _ C _ hl0 _ _ kk => lv_irem C.1 C.2.1 hd hy (kk lsA hl0)) k
theorem Jo_ineg {x : Int32} (hd : dI M.2.1 pc q .ineg 1) (k : Jo E M cv q ls (.int (-x) :: st) s o) : Jo E M cv pc ls (.int x :: st) s o := by
  obtain ⟨hd, rfl⟩ := hd
  exact Jo.pure (fun _ _ _ _ _ _ _ _ _ _ _ _ _ lsA _ C _ hl0 _ _ kk => lv_ineg C.1 C.2.1 hd (kk lsA hl0)) k
theorem Jo_iushr {x y : Int32} (hd : dI M.2.1 pc q .iushr 1) (k : Jo E M cv q ls (.int (x.toUInt32 >>> (y.toUInt32 &&& Int32.toUInt32 31)).toInt32 :: st) s o) : Jo E M cv pc ls (.int y :: .int x :: st) s o := by
  obtain ⟨hd, rfl⟩ := hd
  exact Jo.pure (fun _ _ _ _ _ _ _ _ _ _ _ _ _ lsA _ C _ hl0 _ _ kk => lv_iushr C.1 C.2.1 hd rfl (kk lsA hl0)) k
theorem Jo_i2b {x : Int32} (hd : dI M.2.1 pc q .i2b 1) (k : Jo E M cv q ls (.int x.toInt8.toInt32 :: st) s o) : Jo E M cv pc ls (.int x :: st) s o := by
  obtain ⟨hd, rfl⟩ := hd
  exact Jo.pure (fun _ _ _ _ _ _ _ _ _ _ _ _ _ lsA _ C _ hl0 _ _ kk => lv_i2b C.1 C.2.1 hd rfl (kk lsA hl0)) k
theorem Jo_i2s {x : Int32} (hd : dI M.2.1 pc q .i2s 1) (k : Jo E M cv q ls (.int x.toInt16.toInt32 :: st) s o) : Jo E M cv pc ls (.int x :: st) s o := by
  obtain ⟨hd, rfl⟩ := hd
  exact Jo.pure (fun _ _ _ _ _ _ _ _ _ _ _ _ _ lsA _ C _ hl0 _ _ kk => lv_i2s C.1 C.2.1 hd rfl (kk lsA hl0)) k
theorem Jo_i2c {x : Int32} (hd : dI M.2.1 pc q .i2c 1) (k : Jo E M cv q ls (.int (x.toUInt32 % 65536).toInt32 :: st) s o) : Jo E M cv pc ls (.int x :: st) s o := by
  obtain ⟨hd, rfl⟩ := hd
  exact Jo.pure (fun _ _ _ _ _ _ _ _ _ _ _ _ _ lsA _ C _ hl0 _ _ kk => lv_i2c C.1 C.2.1 hd rfl (kk lsA hl0)) k
theorem Jo_dup {v : Value} (hd : dI M.2.1 pc q .dup 1) (hv : v.category = 1) (k : Jo E M cv q ls (v :: v :: st) s o) : Jo E M cv pc ls (v :: st) s o := by
  obtain ⟨hd, rfl⟩ := hd
  exact Jo.pure (fun _ _ _ _ _ _ _ _ _ _ _ _ _ lsA _ C _ hl0 _ _ kk => lv_dup C.1 C.2.1 hd hv (kk lsA hl0)) k
theorem Jo_dup2 {v w : Value} (hd : dI M.2.1 pc q .dup2 1) (hv : v.category = 1) (hw : w.category = 1) (k : Jo E M cv q ls (v :: w :: v :: w :: st) s o) : Jo E M cv pc ls (v :: w :: st) s o := by
  obtain ⟨hd, rfl⟩ := hd
  exact Jo.pure (fun _ _ _ _ _ _ _ _ _ _ _ _ _ lsA _ C _ hl0 _ _ kk => lv_dup2_11 C.1 C.2.1 hd hv hw (kk lsA hl0)) k
theorem Jo_pop {v : Value} (hd : dI M.2.1 pc q .pop 1) (hv : v.category = 1) (k : Jo E M cv q ls st s o) : Jo E M cv pc ls (v :: st) s o := by
  obtain ⟨hd, rfl⟩ := hd
  exact Jo.pure (fun _ _ _ _ _ _ _ _ _ _ _ _ _ lsA _ C _ hl0 _ _ kk => lv_pop C.1 C.2.1 hd hv (kk lsA hl0)) k
theorem Jo_goto {off : Int} (tgt : Nat) (hd : decode M.2.1 pc = .ok (.goto off, 3)) (ht : (pc : Int) + off = (tgt : Int)) (k : Jo E M cv tgt ls st s o) : Jo E M cv pc ls st s o :=
  Jo.pure (fun _ _ _ _ _ _ _ _ _ _ _ _ _ lsA _ C _ hl0 _ _ kk => lv_goto C.1 C.2.1 hd ht (kk lsA hl0)) k
/-- a branch: two ways on, by a condition -/
theorem Jo.branch {c : Prop} [Decidable c] {st1 st2 : List Value} {q1 q2 : Nat} {o1 o2 : Option (α × hS)} (h : ∀ (p : Program) (e : Env) (R : Room) (s0 : State) (m : MethodId) (args : Array Value) (below : List Frame) (meth : Method) (cd : Code) (H : Heap) (locs : List Loc) (cells slots : Nat) (lsA : Array Slot) (Q : State → Prop),
    jCx E M p R s0 m args meth cd → (c → W p E.1 e R s0 m args below meth cd H locs cells slots Q (F0 m q1 lsA st1)) → (¬ c → W p E.1 e R s0 m args below meth cd H locs cells slots Q (F0 m q2 lsA st2)) → W p E.1 e R s0 m args below meth cd H locs cells slots Q (F0 m pc lsA st))
    (k1 : Jo E M cv q1 ls st1 s o1) (k2 : Jo E M cv q2 ls st2 s o2) : Jo E M cv pc ls st s (if c then o1 else o2) := by
  intro r hr
  by_cases hc : c
  · rw [if_pos hc] at hr
    have k := k1 r hr
    exact ⟨k.1, fun p e R s0 m args below meth cd H locs cells slots lsA C hH hS h1 h2 hl => h p e R s0 m args below meth cd H locs cells slots lsA _ C (fun _ => k.2 p e R s0 m args below meth cd H locs cells slots lsA C hH hS h1 h2 hl) (fun hn => absurd hc hn)⟩
  · rw [if_neg hc] at hr
    have k := k2 r hr
    exact ⟨k.1, fun p e R s0 m args below meth cd H locs cells slots lsA C hH hS h1 h2 hl => h p e R s0 m args below meth cd H locs cells slots lsA _ C (fun hn => absurd hn hc) (fun _ => k.2 p e R s0 m args below meth cd H locs cells slots lsA C hH hS h1 h2 hl)⟩
theorem ne_flip {x y : Int32} {A : Prop} (h : x = y → A) : ¬ ¬ x = y → A := fun hn => h (Decidable.not_not.mp hn)
theorem Jo_if_eq {x : Int32} {off : Int} {o1 o2 : Option (α × hS)} (tgt : Nat) (hd : decode M.2.1 pc = .ok (.ifCond .eq off, 3)) (ht : (pc : Int) + off = (tgt : Int)) (hq : pc + 3 = q) (k1 : Jo E M cv tgt ls st s o1) (k2 : Jo E M cv q ls st s o2) : Jo E M cv pc ls (.int x :: st) s (if x = 0 then o1 else o2) := by
  subst hq
  exact Jo.branch (fun _ _ _ _ _ _ _ _ _ _ _ _ _ _ _ C kt kf => lv_if_eq C.1 C.2.1 hd ht kt kf) k1 k2
theorem Jo_icmp_eq {x y : Int32} {off : Int} {o1 o2 : Option (α × hS)} (tgt : Nat) (hd : decode M.2.1 pc = .ok (.if_icmp .eq off, 3)) (ht : (pc : Int) + off = (tgt : Int)) (hq : pc + 3 = q) (k1 : Jo E M cv tgt ls st s o1) (k2 : Jo E M cv q ls st s o2) : Jo E M cv pc ls (.int y :: .int x :: st) s (if x = y then o1 else o2) := by
  subst hq
  exact Jo.branch (fun _ _ _ _ _ _ _ _ _ _ _ _ _ _ _ C kt kf => lv_icmp_eq C.1 C.2.1 hd ht kt kf) k1 k2
theorem Jo_if_ne {x : Int32} {off : Int} {o1 o2 : Option (α × hS)} (tgt : Nat) (hd : decode M.2.1 pc = .ok (.ifCond .ne off, 3)) (ht : (pc : Int) + off = (tgt : Int)) (hq : pc + 3 = q) (k1 : Jo E M cv q ls st s o1) (k2 : Jo E M cv tgt ls st s o2) : Jo E M cv pc ls (.int x :: st) s (if x = 0 then o1 else o2) := by
  subst hq
  exact Jo.branch (fun _ _ _ _ _ _ _ _ _ _ _ _ _ _ _ C kt kf => lv_if_ne C.1 C.2.1 hd ht kf kt) k1 k2
theorem Jo_icmp_ne {x y : Int32} {off : Int} {o1 o2 : Option (α × hS)} (tgt : Nat) (hd : decode M.2.1 pc = .ok (.if_icmp .ne off, 3)) (ht : (pc : Int) + off = (tgt : Int)) (hq : pc + 3 = q) (k1 : Jo E M cv q ls st s o1) (k2 : Jo E M cv tgt ls st s o2) : Jo E M cv pc ls (.int y :: .int x :: st) s (if x = y then o1 else o2) := by
  subst hq
  exact Jo.branch (fun _ _ _ _ _ _ _ _ _ _ _ _ _ _ _ C kt kf => lv_icmp_ne C.1 C.2.1 hd ht kf kt) k1 k2
theorem Jo_if_lt {x : Int32} {off : Int} {o1 o2 : Option (α × hS)} (tgt : Nat) (hd : decode M.2.1 pc = .ok (.ifCond .lt off, 3)) (ht : (pc : Int) + off = (tgt : Int)) (hq : pc + 3 = q) (k1 : Jo E M cv tgt ls st s o1) (k2 : Jo E M cv q ls st s o2) : Jo E M cv pc ls (.int x :: st) s (if x < 0 then o1 else o2) := by
  subst hq
  exact Jo.branch (fun _ _ _ _ _ _ _ _ _ _ _ _ _ _ _ C kt kf => lv_if_lt C.1 C.2.1 hd ht kt kf) k1 k2
theorem Jo_icmp_lt {x y : Int32} {off : Int} {o1 o2 : Option (α × hS)} (tgt : Nat) (hd : decode M.2.1 pc = .ok (.if_icmp .lt off, 3)) (ht : (pc : Int) + off = (tgt : Int)) (hq : pc + 3 = q) (k1 : Jo E M cv tgt ls st s o1) (k2 : Jo E M cv q ls st s o2) : Jo E M cv pc ls (.int y :: .int x :: st) s (if x < y then o1 else o2) := by
  subst hq
  exact Jo.branch (fun _ _ _ _ _ _ _ _ _ _ _ _ _ _ _ C kt kf => lv_icmp_lt C.1 C.2.1 hd ht kt kf) k1 k2
theorem Jo_if_ge {x : Int32} {off : Int} {o1 o2 : Option (α × hS)} (tgt : Nat) (hd : decode M.2.1 pc = .ok (.ifCond .ge off, 3)) (ht : (pc : Int) + off = (tgt : Int)) (hq : pc + 3 = q) (k1 : Jo E M cv tgt ls st s o1) (k2 : Jo E M cv q ls st s o2) : Jo E M cv pc ls (.int x :: st) s (if 0 ≤ x then o1 else o2) := by
  subst hq
  exact Jo.branch (fun _ _ _ _ _ _ _ _ _ _ _ _ _ _ _ C kt kf => lv_if_ge C.1 C.2.1 hd ht kt kf) k1 k2
theorem Jo_icmp_ge {x y : Int32} {off : Int} {o1 o2 : Option (α × hS)} (tgt : Nat) (hd : decode M.2.1 pc = .ok (.if_icmp .ge off, 3)) (ht : (pc : Int) + off = (tgt : Int)) (hq : pc + 3 = q) (k1 : Jo E M cv tgt ls st s o1) (k2 : Jo E M cv q ls st s o2) : Jo E M cv pc ls (.int y :: .int x :: st) s (if y ≤ x then o1 else o2) := by
  subst hq
  exact Jo.branch (fun _ _ _ _ _ _ _ _ _ _ _ _ _ _ _ C kt kf => lv_icmp_ge C.1 C.2.1 hd ht kt kf) k1 k2
theorem Jo_if_gt {x : Int32} {off : Int} {o1 o2 : Option (α × hS)} (tgt : Nat) (hd : decode M.2.1 pc = .ok (.ifCond .gt off, 3)) (ht : (pc : Int) + off = (tgt : Int)) (hq : pc + 3 = q) (k1 : Jo E M cv tgt ls st s o1) (k2 : Jo E M cv q ls st s o2) : Jo E M cv pc ls (.int x :: st) s (if 0 < x then o1 else o2) := by
  subst hq
  exact Jo.branch (fun _ _ _ _ _ _ _ _ _ _ _ _ _ _ _ C kt kf => lv_if_gt C.1 C.2.1 hd ht kt kf) k1 k2
theorem Jo_icmp_gt {x y : Int32} {off : Int} {o1 o2 : Option (α × hS)} (tgt : Nat) (hd : decode M.2.1 pc = .ok (.if_icmp .gt off, 3)) (ht : (pc : Int) + off = (tgt : Int)) (hq : pc + 3 = q) (k1 : Jo E M cv tgt ls st s o1) (k2 : Jo E M cv q ls st s o2) : Jo E M cv pc ls (.int y :: .int x :: st) s (if y < x then o1 else o2) := by
  subst hq
  exact Jo.branch (fun _ _ _ _ _ _ _ _ _ _ _ _ _ _ _ C kt kf => lv_icmp_gt C.1 C.2.1 hd ht kt kf) k1 k2
theorem Jo_if_le {x : Int32} {off : Int} {o1 o2 : Option (α × hS)} (tgt : Nat) (hd : decode M.2.1 pc = .ok (.ifCond .le off, 3)) (ht : (pc : Int) + off = (tgt : Int)) (hq : pc + 3 = q) (k1 : Jo E M cv tgt ls st s o1) (k2 : Jo E M cv q ls st s o2) : Jo E M cv pc ls (.int x :: st) s (if x ≤ 0 then o1 else o2) := by
  subst hq
  exact Jo.branch (fun _ _ _ _ _ _ _ _ _ _ _ _ _ _ _ C kt kf => lv_if_le C.1 C.2.1 hd ht kt kf) k1 k2
theorem Jo_icmp_le {x y : Int32} {off : Int} {o1 o2 : Option (α × hS)} (tgt : Nat) (hd : decode M.2.1 pc = .ok (.if_icmp .le off, 3)) (ht : (pc : Int) + off = (tgt : Int)) (hq : pc + 3 = q) (k1 : Jo E M cv tgt ls st s o1) (k2 : Jo E M cv q ls st s o2) : Jo E M cv pc ls (.int y :: .int x :: st) s (if x ≤ y then o1 else o2) := by
  subst hq
  exact Jo.branch (fun _ _ _ _ _ _ _ _ _ _ _ _ _ _ _ C kt kf => lv_icmp_le C.1 C.2.1 hd ht kt kf) k1 k2
end JR
