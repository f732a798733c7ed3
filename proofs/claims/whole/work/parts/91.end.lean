def R_law : String := "HeronTalkLaw"
def lw_P (b : Addr) (xs : List Int32) (args : Array Value) (s : State) : Prop := args = #[.ref b] ∧ s.IntsAt b xs ∧ xs.length ≤ 3072 ∧ (Jvm.Cond.and given_1 narrow_1).before args s = true
def lw_Q (_ : Array Value) (s : State) (o : Outcome) (t : State) : Prop := o = .returned (some (.int 1)) ∧ Framed s o t [] 600000 7302250
def lw_Z (below : List Frame) (a : Array Value) (s : State) : State → Prop := fun t => ∃ o, t.status = .running ∧ Ended t below o ∧ lw_Q a s o t
/-- the law's own end, with 1 on the stack, nothing written that was there before, its room as the claim has it -/
theorem lw_ret {p : Program} {l : Launch} {e : Env} {s : State} {m : MethodId} {below : List Frame} {meth : Method} {c : Code} {b : Nat} (hx : p.tables.exec = Jvm.exec) (hb : c.code = code) (hr : meth.sig.returnType = ret) (hlocks : meth.locks = false) {pc : Nat} {H : Heap} {ls : Array Slot} (hdg : decode code pc = .ok (.ireturn, 1)) : W p l e room_1 s m #[Value.ref b] below meth c H [] 600000 7302250 (lw_Z below #[Value.ref b] s) (F0 m pc ls [.int 1]) := by
  intro T hT X
  obtain ⟨fs, hret, hrun, hended, hW, hframe⟩ := X.leave (v := some (.int 1)) (hlocks := hlocks) (fun h => by rw [hr] at h; cases h)
  have hmeth' : T.vm.method? m = some meth := X.method'
  refine ⟨T.setFrames fs, ?_, .returned (some (.int 1)), hrun, hended, rfl, ⟨_, rfl⟩, hW, hframe⟩
  jvm_step X.here [X.here.top, hx, hb, hdg, hmeth', hr, ret, narrow_b1]
  (try refine ⟨rfl, ?_⟩); (try refine ⟨rfl, ?_⟩)
  first | (intro acts; rw [hret _ acts rfl rfl rfl]) | rw [hret _ _ rfl rfl rfl]
  exact Steps.refl _
/-- what holds at the law's entry: the machine, the code, the tables' words (any of lw_tbl by 'hts w (by decide +kernel)'), the script of L ints xs at the cell b, what the Statement gives of the start (any of its parts by flat_of_before) -/
def lw_At (p : Program) (s : State) (m : MethodId) (meth : Method) (c : Code) (b L : Nat) (xs : Nat → Int32) : Prop :=
  p.tables.exec = Jvm.exec ∧ c.code = code ∧ meth.sig.returnType = ret ∧ c.maxLocals = 4 ∧ s.vm.findClass R_law = some m.cls ∧ (∀ w ∈ lw_tbl, w.before #[Value.ref b] s = true) ∧ va_X b L xs s s.heap ∧ b < s.heap.size ∧ meth.locks = false ∧ meth.name = "law" ∧ (Jvm.Cond.and given_1 narrow_1).before #[Value.ref b] s = true
theorem W.mono {p : Program} {l : Launch} {e : Env} {R : Room} {s : State} {m : MethodId} {args : Array Value} {below : List Frame} {meth : Method} {c : Code} {H : Heap} {locs : List Loc} {cells slots : Nat} {Q Q' : State → Prop} {g : JFrame} (h : W p l e R s m args below meth c H locs cells slots Q g) (hQ : ∀ t, Q t → Q' t) : W p l e R s m args below meth c H locs cells slots Q' g := fun T hT X => by
  obtain ⟨t, a, b⟩ := h T hT X
  exact ⟨t, a, hQ t b⟩
theorem lw_end {E : jE} {r : hS} {below : List Frame} {a : Array Value} {s t : State} {mc ms : Nat} (hB : E.2.1 = s.heap.size) (h1 : mc ≤ 600000) (h2 : ms ≤ 7302250) (h : MQ below (jQ E (cvI 1) r) a s mc ms (hs_A E) t) : lw_Z below a s t := by
  obtain ⟨o, g1, g2, ⟨g3, -, -⟩, L, ⟨g4, g5, g6⟩, g7⟩ := h
  exact ⟨o, g1, g2, g3, g4, g5, g6.weaken (fun y hy hlt => absurd hlt (Nat.not_lt.mpr (by rw [← hB]; exact g7 y hy))) h1 h2⟩
set_option maxHeartbeats 4000000 in
theorem lw_tys {args : Array Value} {s : State} (hts : ∀ w ∈ lw_tbl, w.before args s = true) : ∃ dA : Nat → ClassId, ∀ (k : Nat) (q : ClassId × FieldType), ([(dA 8, .byte), (dA 9, .char), (dA 10, .int), (dA 11, .boolean), (dA 12, .object RX1), (dA 13, .object RX2), (dA 14, .object RX4)] : List (ClassId × FieldType))[k]? = some q → ArrOfT s q.1 q.2 ∧ va_RA s q.1 q.2 := by
  have prim : ∀ ty : FieldType, Cond.arrayClass ty ∈ lw_tbl → (∀ cA, s.vm.findClass ("[" ++ ty.toString) = some cA → va_RA s cA ty) → ∃ cA : ClassId, ArrOfT s cA ty ∧ va_RA s cA ty := by
    intro ty hw hr
    obtain ⟨cA, kA, comp, hfind, hk, hkind⟩ := Cond.arrayClass_spec (hts _ hw)
    exact ⟨cA, fun n z => ⟨fun k h => (by cases h), kA, hk, comp, hkind⟩, hr cA hfind⟩
  have obj : ∀ C : String, Cond.arrayOver (.object C) ∈ lw_tbl → ∃ cA : ClassId, ArrOfT s cA (.object C) ∧ va_RA s cA (.object C) := by
    intro C hw
    obtain ⟨comp, c, k, h1, h2, h3, h4, h5⟩ := Cond.arrayOver_spec (hts _ hw)
    exact ⟨c, fun n z => ⟨fun k h => (by cases h), k, h3, comp, h4⟩, k, comp, h3, h4, h1, h5⟩
  obtain ⟨c8, h8⟩ := prim .byte (by decide +kernel) (fun _ h => h)
  obtain ⟨c9, h9⟩ := prim .char (by decide +kernel) (fun _ h => h)
  obtain ⟨c10, h10⟩ := prim .int (by decide +kernel) (fun _ h => h)
  obtain ⟨c11, h11⟩ := prim .boolean (by decide +kernel) (fun _ h => h)
  obtain ⟨c12, h12⟩ := obj RX1 (by decide +kernel)
  obtain ⟨c13, h13⟩ := obj RX2 (by decide +kernel)
  obtain ⟨c14, h14⟩ := obj RX4 (by decide +kernel)
  refine ⟨fun k => if k = 8 then c8 else if k = 9 then c9 else if k = 10 then c10 else if k = 11 then c11 else if k = 12 then c12 else if k = 13 then c13 else c14, ?_⟩
  intro k q hq
  match k, hq with
  | 0, hq => cases hq; exact h8
  | 1, hq => cases hq; exact h9
  | 2, hq => cases hq; exact h10
  | 3, hq => cases hq; exact h11
  | 4, hq => cases hq; exact h12
  | 5, hq => cases hq; exact h13
  | 6, hq => cases hq; exact h14
  | k + 7, hq => simp at hq
set_option maxHeartbeats 4000000 in
theorem lw_cls {args : Array Value} {s : State} (hts : ∀ w ∈ tbG, w.before args s = true) : ∃ (dC : Nat → ClassId) (dI : Nat → Nat → Nat), ∀ (k : Nat) (q : vw_C), classes[k]? = some q → u_Kn s q.1 q.2.1 q.2.2 (dC k) (dI k) := by
  obtain ⟨c0, i0, k0⟩ := u_known (C := RX0) (T := TX0) (N := 10) (n := 10) hts in_0 (hts _ (tbG_in (by decide +kernel) rfl))
  obtain ⟨c1, i1, k1⟩ := u_known (C := RX1) (T := TX1) (N := 3) (n := 3) hts in_1 (hts _ (tbG_in (by decide +kernel) rfl))
  obtain ⟨c2, i2, k2⟩ := u_known (C := RX2) (T := TX2) (N := 6) (n := 6) hts in_2 (hts _ (tbG_in (by decide +kernel) rfl))
  obtain ⟨c3, i3, k3⟩ := u_known (C := RX3) (T := TX3) (N := 2) (n := 2) hts in_3 (hts _ (tbG_in (by decide +kernel) rfl))
  obtain ⟨c4, i4, k4⟩ := u_known (C := RX4) (T := TX4) (N := 4) (n := 4) hts in_4 (hts _ (tbG_in (by decide +kernel) rfl))
  obtain ⟨c5, i5, k5⟩ := u_known (C := RX5) (T := TX5) (N := 18) (n := 18) hts in_5 (hts _ (tbG_in (by decide +kernel) rfl))
  obtain ⟨c6, i6, k6⟩ := u_known (C := RX6) (T := TX6) (N := 11) (n := 11) hts in_6 (hts _ (tbG_in (by decide +kernel) rfl))
  obtain ⟨c7, i7, k7⟩ := u_known (C := RX7) (T := TX7) (N := 34) (n := 34) hts in_7 (hts _ (tbG_in (by decide +kernel) rfl))
  refine ⟨fun k => if k = 0 then c0 else if k = 1 then c1 else if k = 2 then c2 else if k = 3 then c3 else if k = 4 then c4 else if k = 5 then c5 else if k = 6 then c6 else c7, fun k => if k = 0 then i0 else if k = 1 then i1 else if k = 2 then i2 else if k = 3 then i3 else if k = 4 then i4 else if k = 5 then i5 else if k = 6 then i6 else i7, ?_⟩
  intro k q hq
  match k, hq with
  | 0, hq => cases hq; exact k0
  | 1, hq => cases hq; exact k1
  | 2, hq => cases hq; exact k2
  | 3, hq => cases hq; exact k3
  | 4, hq => cases hq; exact k4
  | 5, hq => cases hq; exact k5
  | 6, hq => cases hq; exact k6
  | 7, hq => cases hq; exact k7
  | k + 8, hq => simp [classes] at hq
def hs_0 (B : Nat) : hS := (B, 0, fun _ => (15, 0), fun _ _ => 0, fun _ _ => none)
set_option maxHeartbeats 4000000 in
set_option maxRecDepth 100000 in
/-- from the entry, for every script of at most 3072 ints, the law comes to its end with true -/
theorem whole_start {p : Program} {e : Env} {s : State} {m : MethodId} {below : List Frame} {meth : Method} {c : Code} (l : Launch) (hflags : l.flags = flags0) {b L : Nat} {xs : Nat → Int32} (hL : L ≤ 3072) (C0 : lw_At p s m meth c b L xs) : W p l e room_1 s m #[Value.ref b] below meth c s.heap [] 0 0 (lw_Z below #[Value.ref b] s) (entryFrame m ([Value.ref b] : List Value).toArray 4) := by
  obtain ⟨hx, hb, hr, hml, hown, hts, hX, hbl, hlocks, hnm, hgv⟩ := C0
  have htG : ∀ w ∈ tbG, w.before #[Value.ref b] s = true := fun w hw => hts w (List.mem_filter.mp hw).1
  have hs := flat_of_before _ hgv
  obtain ⟨dA, hdA⟩ := lw_tys hts
  obtain ⟨dC, dI, hKc⟩ := lw_cls htG
  have hA : ∀ a : Nat, a < s.heap.size → ¬ (fun q : Nat => s.heap.size ≤ q) a := fun a h => Nat.not_le.mpr h
  obtain ⟨ab, hab, hT⟩ := va_Tof (tm := .static "HeronTalk" "ABOVE" "[I") (ty := .int) (N := 6) (f := fun j => .int (hs_above j)) (args := #[Value.ref b]) (s := s) (by decide) (hs _ (by decide +kernel)) (va_eqt (hs (Cond.eq (.length (.static "HeronTalk" "ABOVE" "[I")) (.int 6)) (by decide +kernel))) (fun j hj => by
    match j, hj with
    | 0, _ => exact va_eqt (hs (Cond.eq (.elem (.static "HeronTalk" "ABOVE" "[I") (.int 0)) (.int (-1))) (by decide +kernel))
    | 1, _ => exact va_eqt (hs (Cond.eq (.elem (.static "HeronTalk" "ABOVE" "[I") (.int 1)) (.int 0)) (by decide +kernel))
    | 2, _ => exact va_eqt (hs (Cond.eq (.elem (.static "HeronTalk" "ABOVE" "[I") (.int 2)) (.int 0)) (by decide +kernel))
    | 3, _ => exact va_eqt (hs (Cond.eq (.elem (.static "HeronTalk" "ABOVE" "[I") (.int 3)) (.int 1)) (by decide +kernel))
    | 4, _ => exact va_eqt (hs (Cond.eq (.elem (.static "HeronTalk" "ABOVE" "[I") (.int 4)) (.int 2)) (by decide +kernel))
    | 5, _ => exact va_eqt (hs (Cond.eq (.elem (.static "HeronTalk" "ABOVE" "[I") (.int 5)) (.int 0)) (by decide +kernel))
    | j + 6, h => exact absurd h (by omega)) hA
  have hZ1 := va_Zof (hts (Cond.laysStatic "HeronTalk" "ABOVE" "[I") (by decide +kernel)) (hts (Cond.initialized "HeronTalk") (by decide +kernel)) hab hA
  have hZ2 := va_Zof (hts (Cond.laysStatic "java/lang/String" "COMPACT_STRINGS" "Z") (by decide +kernel)) (hts (Cond.initialized "java/lang/String") (by decide +kernel)) (va_eqi (hs (Cond.eq (.static "java/lang/String" "COMPACT_STRINGS" "Z") (.int 1)) (by decide +kernel))) hA
  have hZ3 := va_Zqof (hts (Cond.laysStatic "jdk/internal/util/Preconditions" "SIOOBE_FORMATTER" "Ljava/util/function/BiFunction;") (by decide +kernel)) (hts (Cond.initialized "jdk/internal/util/Preconditions") (by decide +kernel)) (hs (Cond.isRef (.static "jdk/internal/util/Preconditions" "SIOOBE_FORMATTER" "Ljava/util/function/BiFunction;")) (by decide +kernel)) hA
  obtain ⟨adK, adV, hStr, hadK⟩ := vk_Sof (args := #[Value.ref b]) (s := s) (N := 3) (tm := fun i => .string RX0 (([81, 87, 89] : List Nat).getD i 0)) (len := [5, 4, 4]) (byt := hs_byt) (A := fun q : Nat => s.heap.size ≤ q)
    (fun i hi => by match i, hi with
      | 0, _ => decide
      | 1, _ => decide
      | 2, _ => decide
      | i + 3, h => exact absurd h (by omega))
    (fun i hi => by match i, hi with
      | 0, _ => exact hs (Cond.exactly (.string "HeronTalk$Reader" 81) "java/lang/String") (by decide +kernel)
      | 1, _ => exact hs (Cond.exactly (.string "HeronTalk$Reader" 87) "java/lang/String") (by decide +kernel)
      | 2, _ => exact hs (Cond.exactly (.string "HeronTalk$Reader" 89) "java/lang/String") (by decide +kernel)
      | i + 3, h => exact absurd h (by omega))
    (fun i hi => by match i, hi with
      | 0, _ => exact hs (Cond.eq (.field (.string "HeronTalk$Reader" 81) "java/lang/String" "coder" "B") (.int 0)) (by decide +kernel)
      | 1, _ => exact hs (Cond.eq (.field (.string "HeronTalk$Reader" 87) "java/lang/String" "coder" "B") (.int 0)) (by decide +kernel)
      | 2, _ => exact hs (Cond.eq (.field (.string "HeronTalk$Reader" 89) "java/lang/String" "coder" "B") (.int 0)) (by decide +kernel)
      | i + 3, h => exact absurd h (by omega))
    (fun i hi => by match i, hi with
      | 0, _ => exact hs (Cond.arrayOf (.field (.string "HeronTalk$Reader" 81) "java/lang/String" "value" "[B") .byte) (by decide +kernel)
      | 1, _ => exact hs (Cond.arrayOf (.field (.string "HeronTalk$Reader" 87) "java/lang/String" "value" "[B") .byte) (by decide +kernel)
      | 2, _ => exact hs (Cond.arrayOf (.field (.string "HeronTalk$Reader" 89) "java/lang/String" "value" "[B") .byte) (by decide +kernel)
      | i + 3, h => exact absurd h (by omega))
    (fun i hi => by match i, hi with
      | 0, _ => exact hs (Cond.eq (.length (.field (.string "HeronTalk$Reader" 81) "java/lang/String" "value" "[B")) (.int 5)) (by decide +kernel)
      | 1, _ => exact hs (Cond.eq (.length (.field (.string "HeronTalk$Reader" 87) "java/lang/String" "value" "[B")) (.int 4)) (by decide +kernel)
      | 2, _ => exact hs (Cond.eq (.length (.field (.string "HeronTalk$Reader" 89) "java/lang/String" "value" "[B")) (.int 4)) (by decide +kernel)
      | i + 3, h => exact absurd h (by omega))
    (fun i hi j hj => by match i, hi with
      | 0, _ => match j, hj with
        | 0, _ => exact hs (Cond.eq (.elem (.field (.string "HeronTalk$Reader" 81) "java/lang/String" "value" "[B") (.int 0)) (.int 112)) (by decide +kernel)
        | 1, _ => exact hs (Cond.eq (.elem (.field (.string "HeronTalk$Reader" 81) "java/lang/String" "value" "[B") (.int 1)) (.int 114)) (by decide +kernel)
        | 2, _ => exact hs (Cond.eq (.elem (.field (.string "HeronTalk$Reader" 81) "java/lang/String" "value" "[B") (.int 2)) (.int 105)) (by decide +kernel)
        | 3, _ => exact hs (Cond.eq (.elem (.field (.string "HeronTalk$Reader" 81) "java/lang/String" "value" "[B") (.int 3)) (.int 99)) (by decide +kernel)
        | 4, _ => exact hs (Cond.eq (.elem (.field (.string "HeronTalk$Reader" 81) "java/lang/String" "value" "[B") (.int 4)) (.int 101)) (by decide +kernel)
        | j + 5, h => exact absurd h (by simp)
      | 1, _ => match j, hj with
        | 0, _ => exact hs (Cond.eq (.elem (.field (.string "HeronTalk$Reader" 87) "java/lang/String" "value" "[B") (.int 0)) (.int 108)) (by decide +kernel)
        | 1, _ => exact hs (Cond.eq (.elem (.field (.string "HeronTalk$Reader" 87) "java/lang/String" "value" "[B") (.int 1)) (.int 111)) (by decide +kernel)
        | 2, _ => exact hs (Cond.eq (.elem (.field (.string "HeronTalk$Reader" 87) "java/lang/String" "value" "[B") (.int 2)) (.int 111)) (by decide +kernel)
        | 3, _ => exact hs (Cond.eq (.elem (.field (.string "HeronTalk$Reader" 87) "java/lang/String" "value" "[B") (.int 3)) (.int 107)) (by decide +kernel)
        | j + 4, h => exact absurd h (by simp)
      | 2, _ => match j, hj with
        | 0, _ => exact hs (Cond.eq (.elem (.field (.string "HeronTalk$Reader" 89) "java/lang/String" "value" "[B") (.int 0)) (.int 102)) (by decide +kernel)
        | 1, _ => exact hs (Cond.eq (.elem (.field (.string "HeronTalk$Reader" 89) "java/lang/String" "value" "[B") (.int 1)) (.int 105)) (by decide +kernel)
        | 2, _ => exact hs (Cond.eq (.elem (.field (.string "HeronTalk$Reader" 89) "java/lang/String" "value" "[B") (.int 2)) (.int 110)) (by decide +kernel)
        | 3, _ => exact hs (Cond.eq (.elem (.field (.string "HeronTalk$Reader" 89) "java/lang/String" "value" "[B") (.int 3)) (.int 101)) (by decide +kernel)
        | j + 4, h => exact absurd h (by simp)
      | i + 3, h => exact absurd h (by omega))
    (fun i j hi hj hij => by match i, j, hi, hj with
      | 0, 1, _, _ => exact Or.inl (hs (Cond.not (Cond.eq (.string "HeronTalk$Reader" 81) (.string "HeronTalk$Reader" 87))) (by decide +kernel))
      | 0, 2, _, _ => exact Or.inl (hs (Cond.not (Cond.eq (.string "HeronTalk$Reader" 81) (.string "HeronTalk$Reader" 89))) (by decide +kernel))
      | 1, 2, _, _ => exact Or.inl (hs (Cond.not (Cond.eq (.string "HeronTalk$Reader" 87) (.string "HeronTalk$Reader" 89))) (by decide +kernel))
      | 1, 0, _, _ => exact Or.inr (hs (Cond.not (Cond.eq (.string "HeronTalk$Reader" 81) (.string "HeronTalk$Reader" 87))) (by decide +kernel))
      | 2, 0, _, _ => exact Or.inr (hs (Cond.not (Cond.eq (.string "HeronTalk$Reader" 81) (.string "HeronTalk$Reader" 89))) (by decide +kernel))
      | 2, 1, _, _ => exact Or.inr (hs (Cond.not (Cond.eq (.string "HeronTalk$Reader" 87) (.string "HeronTalk$Reader" 89))) (by decide +kernel))
      | 0, 0, _, _ => exact absurd rfl hij
      | 1, 1, _, _ => exact absurd rfl hij
      | 2, 2, _, _ => exact absurd rfl hij
      | i + 3, _, h, _ => exact absurd h (by omega)
      | _, j + 3, _, h => exact absurd h (by omega)) hA
  let E : jE := (l, s.heap.size, (dC, dI), dA, ab, adK, adV, b, L, xs)
  have hTT : hs_T E s := ⟨⟨hKc, hdA⟩, ⟨va_AO.of (hts (Cond.arrayOver (.object RX1)) (by decide +kernel)), va_AO.of (hts (Cond.arrayOver (.object RX2)) (by decide +kernel)), va_AO.of (hts (Cond.arrayOver (.object RX4)) (by decide +kernel))⟩, ⟨va_Nw.of rfl (hts _ (by decide +kernel)), va_Nw.of rfl (hts _ (by decide +kernel)), va_Nw.of rfl (hts _ (by decide +kernel))⟩, vk_R.of (hts (Cond.stringRef RX0 81 "price") (by decide +kernel)) (hadK 0 (by omega)), vk_R.of (hts (Cond.stringRef RX0 87 "look") (by decide +kernel)) (hadK 1 (by omega)), vk_R.of (hts (Cond.stringRef RX0 89 "fine") (by decide +kernel)) (hadK 2 (by omega))⟩
  have hZZ : hs_Z E s s.heap := ⟨hZ1, hT, hZ2, hZ3, hStr, hbl, hX⟩
  have hHH : hs_H E (hs_0 s.heap.size) s.heap := by
    refine ⟨Nat.le_refl _, rfl, fun k q h => ?_, fun a h => ?_⟩
    · have h2 := (hs_ws_mem h).2.1
      exact absurd h2 (by show ¬ s.heap.size + k < s.heap.size; omega)
    · exact absurd h (by show ¬ (15 : Nat) < 15; omega)
  obtain ⟨r, hp, hc1, hc2⟩ := pure_law s.heap.size L xs hL
  have K := (b_L_law_in E (hs_0 s.heap.size) (1, r) hp).2 p e room_1 s m #[Value.ref b] below meth c s.heap [] 0 0
  have hl := lv_entry ([.ref b]) (n := 4) (Nat.le_of_ble_eq_true rfl)
  rw [lg_entry_eq]
  have K2 := K _ ⟨hx, hb, hr, hown, htG, hlocks, hml, ⟨Nat.le_of_ble_eq_true rfl, Nat.le_of_ble_eq_true rfl⟩, hnm, hTT, hZZ, Nat.le_refl _⟩ hHH va_S.rf (by show 0 + (r.1 - s.heap.size) ≤ 600000; omega) (by show 0 + (r.2.1 - 0) ≤ 7302250; omega) hl
  exact K2.mono (fun t ht => lw_end (E := E) rfl (by show 0 + (r.1 - s.heap.size) ≤ 600000; omega) (by show 0 + (r.2.1 - 0) ≤ 7302250; omega) ht)
set_option maxHeartbeats 4000000 in
theorem lw_walk (l : Launch) (hflags : l.flags = flags0) (b : Addr) (xs : List Int32) : MetFree l x (headSpec (Jvm.Cond.code x code maxLocals ret :: tables_1) room_1) (lw_P b xs) (fun _ _ _ _ _ => True) lw_Q := by
  refine MetFree.of_bodyS (code := code) (maxLocals := maxLocals) (ret := ret) (by decide) ?_ ?_
  · intro args s m h hn
    obtain ⟨meth, c, h1, h2, h3, h4, h5, h6, -, -⟩ := Cond.code_spec hn (atoms_spec (ws := Jvm.Cond.code x code maxLocals ret :: tables_1) h _ List.mem_cons_self)
    exact ⟨meth, c, h1, h2, h3, h4, h5, h6⟩
  · intro p e s m args below meth c s₁ B hml0 hP _
    obtain ⟨rfl, hx, hbd, hgv⟩ := hP
    obtain ⟨scr, harrAt, hlist, hof, hsmall⟩ := hx
    obtain ⟨hcb, hkn, -, -⟩ := State.arrayAt?_spec harrAt
    have hown : s.vm.findClass R_law = some m.cls := findClass_of_methodNamed B.named
    have hts0 : ∀ c ∈ (Jvm.Cond.code x code maxLocals ret :: tables_1), c.before #[Value.ref b] s = true := atoms_spec (ws := Jvm.Cond.code x code maxLocals ret :: tables_1) B.pre
    have hts : ∀ w ∈ lw_tbl, w.before #[Value.ref b] s = true := k2_hts_sels lw_privs (fun w hw => hts0 w (List.mem_cons_of_mem _ hw)) lw_privs_ok
    have hml : c.maxLocals = 4 := B.maxLocals_eq (hts0 _ List.mem_cons_self)
    have X₀ : Stand p l e room_1 s m #[Value.ref b] below meth c s₁ [] 0 0 := Stand.of_body B
    have hh0 : s₁.heap = s.heap := by rw [B.state]; rfl
    have hsz : scr.slots.size = xs.length := by rw [← Array.length_toList, hlist, List.length_map]
    have hval : ∀ j : Nat, j < xs.length → scr.slots[j]? = some (.int (xs.getD j 0)) := fun j hj => by
      rw [← Array.getElem?_toList, hlist]
      simp [hj]
    have hbl : b < s.heap.size := (Array.getElem?_eq_some_iff.mp hcb).1
    have hX : va_X b xs.length (fun j => xs.getD j 0) s s.heap := ⟨scr, hcb, hof, hkn, hsz, hval⟩
    have K : W p l e room_1 s m #[Value.ref b] below meth c s₁.heap [] 0 0 (lw_Z below #[Value.ref b] s) (entryFrame m ([Value.ref b] : List Value).toArray 4) := by
      rw [hh0]
      exact whole_start l hflags hbd ⟨B.exec, B.bytes, B.returns, hml, hown, hts, hX, hbl, B.notSynchronized, (name_of_methodNamed B.named B.method).1, hgv⟩
    obtain ⟨t, a1, o, b1, b2, b3⟩ := K s₁ rfl X₀
    exact ⟨t, o, a1, b1, b2, b3⟩
theorem lw_pre_spec {args : Array Value} {s : State} (h : (Jvm.Cond.and given_1 narrow_1).before args s = true) (hr : rest_1_c.before args s = true) : ∃ (b : Addr) (xs : List Int32), lw_P b xs args s := by
  have hs := flat_of_before _ h
  have hq := flat_of_before _ hr
  have hc : (Cond.count 1).before args s = true := hs _ (by decide +kernel)
  have harr : (Cond.arrayOf (.arg 0) .int).before args s = true := hs _ (by decide +kernel)
  have hle : (Cond.le (.length (.arg 0)) (.int 3072)).before args s = true := hs _ (by decide +kernel)
  have hlen : (Cond.isInt (.length (.arg 0))).before args s = true := hq _ (by decide +kernel)
  have hall : (Cond.all (.arg 0) (.isInt (.elem (.arg 0) (.index 0)))).before args s = true := hq _ (by decide +kernel)
  obtain ⟨b, xs, hb, hx⟩ := State.ints_of_pre rfl harr hlen hall
  have hsm : xs.length < 2 ^ 31 := hx.choose_spec.2.2.2
  have hev : (Term.length (.arg 0)).eval args s none [] s = some (.int xs.length.toInt32) := hx.length_eval hb
  have hv := Cond.le_ints hev (show (Term.int 3072).eval args s none [] s = some (.int 3072) from rfl)
  have hd : xs.length.toInt32 ≤ 3072 := by
    simpa [Cond.before, Cond.holds, hv] using hle
  have hN : xs.length ≤ 3072 := (Int32.ofNat_le_ofNat hsm (by decide)).mp (show Int32.ofNat xs.length ≤ Int32.ofNat 3072 from hd)
  exact ⟨b, xs, Cond.one_arg hc (show args[0]? = some (.ref b) from hb), hx, hN, h⟩
theorem lw_comes (l : Launch) (hflags : l.flags = flags0) : Comes l x (Jvm.Cond.code x code maxLocals ret :: tables_1) room_1 (fun tb e args s => Calls_1 tb e args s ∧ rest_1 tb e args s ∧ Pre_1 tb e args s)
    (fun _ _ args s o t => lw_Q args s o t) := by
  intro p e ha hc hk s m args below hf hfit hheap happ hpre
  obtain ⟨b, xs, hP⟩ := lw_pre_spec hpre.2.2 hpre.2.1
  obtain ⟨k, o, h1, h2, h3, hQ⟩ := lw_walk l hflags b xs p e ha hc hk s m args below hf ((Spec.applies_iff_loose hf).mp happ).1 hP trivial
  exact ⟨k, o, h1, h2, h3, hQ⟩
theorem lw_frame {s t : State} {o : Outcome} {args : Array Value} (h : Framed s o t [] 600000 7302250) :
    Framed s o t (fieldLocs frame_1_writes args s ++ arrayLocs frame_1_arrays args s ++ staticLocs frame_1_statics s) 600000 7302250 := h
theorem lw_limb (L : Cond) (hL : ∀ (args : Array Value) (s t : State), L.after args s (.returned (some (.int 1))) t = true) :
    ArmFor flags0 classFile x code maxLocals ret World_1 tables_1 room_1 Calls_1 rest_1 Pre_1
      (fun tb e a s o t => postC L tb e a s o t ∧ Framed s o t (fieldLocs frame_1_writes a s ++ arrayLocs frame_1_arrays a s ++ staticLocs frame_1_statics s) 600000 7302250) := by
  intro l hflags _ _ p e ha hc hk s m args below hf hfit hheap happ hpre
  obtain ⟨k, o, h1, h2, h3, rfl, hF⟩ := lw_comes l hflags p e ha hc hk s m args below hf hfit hheap happ hpre
  exact ⟨k, _, h1, h2, h3, hL args s _, lw_frame hF⟩
theorem i_vc : Claimed_1_1 ∧ Claimed_1_2 := ⟨lw_limb limb_1_1 (fun args s t => by simp [limb_1_1, Cond.after, Cond.holds, Cond.value]), lw_limb limb_1_2 (fun args s t => Cond.after_iff.mpr (by
  first | (rw [show limb_1_2 = Cond.eq .result (.int 1) from rfl, Cond.eq_ints (x := 1) (y := 1) rfl rfl]; simp; done) | (simp [limb_1_2, Cond.value, Term.eval]; done)))⟩

