/-! HeronTalk$Town.learn(II)V -/
abbrev M_X5_learn : jM := (RX5, cX5_learn, 3, (none : Option Jvm.ClassFile.FieldType), "learn", 1, 25)
theorem yF_X5_learn : yF yX5_learn M_X5_learn 2 := ⟨w_213, w_198, by decide +kernel⟩
theorem yV_X5_learn : Cond.instanceMethod yX5_learn ∈ tbG ∧ Cond.selects yX5_learn.cls yX5_learn yX5_learn ∈ tbG := ⟨w_214, w_215⟩
theorem dX5_learn_0 : dI cX5_learn 0 1 (.aload_n 0) 1 := ⟨by decide +kernel, rfl⟩
theorem dX5_learn_1 : dI cX5_learn 1 4 (.getfield 43) 3 := ⟨by decide +kernel, rfl⟩
theorem dX5_learn_4 : dI cX5_learn 4 5 (.iload_n 1) 1 := ⟨by decide +kernel, rfl⟩
theorem dX5_learn_5 : dI cX5_learn 5 6 (.aload_n 0) 1 := ⟨by decide +kernel, rfl⟩
theorem dX5_learn_6 : dI cX5_learn 6 7 (.aload_n 0) 1 := ⟨by decide +kernel, rfl⟩
theorem dX5_learn_7 : dI cX5_learn 7 10 (.getfield 43) 3 := ⟨by decide +kernel, rfl⟩
theorem dX5_learn_10 : dI cX5_learn 10 11 (.iload_n 1) 1 := ⟨by decide +kernel, rfl⟩
theorem dX5_learn_11 : dI cX5_learn 11 12 (.iaload) 1 := ⟨by decide +kernel, rfl⟩
theorem dX5_learn_12 : dI cX5_learn 12 13 (.iload_n 2) 1 := ⟨by decide +kernel, rfl⟩
theorem dX5_learn_13 : dI cX5_learn 13 14 (.ior) 1 := ⟨by decide +kernel, rfl⟩
theorem dX5_learn_14 : decode cX5_learn 14 = .ok (.invokevirtual 95, 3) := by decide +kernel
theorem dX5_learn_17 : dI cX5_learn 17 18 (.iastore) 1 := ⟨by decide +kernel, rfl⟩
theorem dX5_learn_18 : dI cX5_learn 18 19 (.return_) 1 := ⟨by decide +kernel, rfl⟩
def f_X5_learn (s : hS) (a0 : Nat) (i1 : Int32) (i2 : Int32) : Option (Unit × hS) :=
  (gR s a0 5 10).bind fun a1 =>
  (gR s a0 5 10).bind fun a2 =>
  (aI s a2 10 i1).bind fun x3 =>
  (cV s a0 5 (f_X5_withWhatFollows s a0 (x3 ||| i2))).bind fun p4 =>
  (sI p4.2 a1 10 i1 p4.1).bind fun s5 =>
  some ((), s5)
theorem b_X5_learn_in (E : jE)  (s : hS) (a0 : Nat) (i1 : Int32) (i2 : Int32)  : Jo E M_X5_learn cvV 0 [(0, .ref a0), (1, .int i1), (2, .int i2)] [] s (f_X5_learn s a0 i1 i2) := by
  unfold f_X5_learn
  refine Jo_aloadn 0 dX5_learn_0 rfl rfl ?_
  refine Jo_getR fF_5_10 fR_5_10 dX5_learn_1 w_185 (fun a1 => ?_)
  refine Jo_iloadn 1 dX5_learn_4 rfl rfl ?_
  refine Jo_aloadn 0 dX5_learn_5 rfl rfl ?_
  refine Jo_aloadn 0 dX5_learn_6 rfl rfl ?_
  refine Jo_getR fF_5_10 fR_5_10 dX5_learn_7 w_185 (fun a2 => ?_)
  refine Jo_iloadn 1 dX5_learn_10 rfl rfl ?_
  refine Jo_iaload dX5_learn_11 (fun x3 => ?_)
  refine Jo_iloadn 2 dX5_learn_12 rfl rfl ?_
  refine Jo_ior dX5_learn_13 ?_
  refine Jo_callVi (a := a0) (rest := [.int i1, .ref a1]) [.int (x3 ||| i2)] cc_5 yF_X5_withWhatFollows yV_X5_withWhatFollows w_212 rfl rfl ⟨Nat.le_of_ble_eq_true rfl, Nat.le_of_ble_eq_true rfl, Nat.le_of_ble_eq_true rfl⟩ dX5_learn_14 rfl (K_X5_withWhatFollows E s a0 (x3 ||| i2)) (fun p4 => ?_)
  refine Jo_iastore dX5_learn_17 (fun s5 => ?_)
  exact Jo_vret rfl dX5_learn_18
theorem K_X5_learn (E : jE) (s : hS) (a0 : Nat) (i1 : Int32) (i2 : Int32) : jK E yX5_learn M_X5_learn cvV [.ref a0, .int i1, .int i2] s (f_X5_learn s a0 i1 i2) := jK_of ⟨by decide, rfl, rfl⟩ (Nat.le_of_ble_eq_true rfl) (b_X5_learn_in E s a0 i1 i2)
/-! HeronTalk$Town.addRule(III)I -/
abbrev M_X5_addRule : jM := (RX5, cX5_addRule, 5, (some .int), "addRule", 2, 47)
theorem yF_X5_addRule : yF yX5_addRule M_X5_addRule 3 := ⟨w_217, w_198, by decide +kernel⟩
theorem yV_X5_addRule : Cond.instanceMethod yX5_addRule ∈ tbG ∧ Cond.selects yX5_addRule.cls yX5_addRule yX5_addRule ∈ tbG := ⟨w_218, w_219⟩
theorem dX5_addRule_0 : dI cX5_addRule 0 1 (.aload_n 0) 1 := ⟨by decide +kernel, rfl⟩
theorem dX5_addRule_1 : dI cX5_addRule 1 4 (.getfield 18) 3 := ⟨by decide +kernel, rfl⟩
theorem dX5_addRule_4 : dI cX5_addRule 4 6 (.bipush 8) 2 := ⟨by decide +kernel, rfl⟩
theorem dX5_addRule_6 : decode cX5_addRule 6 = .ok (.if_icmp .ge 41, 3) := by decide +kernel
theorem dX5_addRule_9 : dI cX5_addRule 9 10 (.aload_n 0) 1 := ⟨by decide +kernel, rfl⟩
theorem dX5_addRule_10 : dI cX5_addRule 10 13 (.getfield 49) 3 := ⟨by decide +kernel, rfl⟩
theorem dX5_addRule_13 : dI cX5_addRule 13 14 (.aload_n 0) 1 := ⟨by decide +kernel, rfl⟩
theorem dX5_addRule_14 : dI cX5_addRule 14 17 (.getfield 18) 3 := ⟨by decide +kernel, rfl⟩
theorem dX5_addRule_17 : dI cX5_addRule 17 18 (.iconst 1) 1 := ⟨by decide +kernel, rfl⟩
theorem dX5_addRule_18 : dI cX5_addRule 18 19 (.iload_n 1) 1 := ⟨by decide +kernel, rfl⟩
theorem dX5_addRule_19 : dI cX5_addRule 19 20 (.ishl) 1 := ⟨by decide +kernel, rfl⟩
theorem dX5_addRule_20 : dI cX5_addRule 20 21 (.iconst 1) 1 := ⟨by decide +kernel, rfl⟩
theorem dX5_addRule_21 : dI cX5_addRule 21 22 (.iload_n 2) 1 := ⟨by decide +kernel, rfl⟩
theorem dX5_addRule_22 : dI cX5_addRule 22 23 (.ishl) 1 := ⟨by decide +kernel, rfl⟩
theorem dX5_addRule_23 : dI cX5_addRule 23 24 (.ior) 1 := ⟨by decide +kernel, rfl⟩
theorem dX5_addRule_24 : dI cX5_addRule 24 25 (.iastore) 1 := ⟨by decide +kernel, rfl⟩
theorem dX5_addRule_25 : dI cX5_addRule 25 26 (.aload_n 0) 1 := ⟨by decide +kernel, rfl⟩
theorem dX5_addRule_26 : dI cX5_addRule 26 29 (.getfield 52) 3 := ⟨by decide +kernel, rfl⟩
theorem dX5_addRule_29 : dI cX5_addRule 29 30 (.aload_n 0) 1 := ⟨by decide +kernel, rfl⟩
theorem dX5_addRule_30 : dI cX5_addRule 30 33 (.getfield 18) 3 := ⟨by decide +kernel, rfl⟩
theorem dX5_addRule_33 : dI cX5_addRule 33 34 (.iconst 1) 1 := ⟨by decide +kernel, rfl⟩
theorem dX5_addRule_34 : dI cX5_addRule 34 35 (.iload_n 3) 1 := ⟨by decide +kernel, rfl⟩
theorem dX5_addRule_35 : dI cX5_addRule 35 36 (.ishl) 1 := ⟨by decide +kernel, rfl⟩
theorem dX5_addRule_36 : dI cX5_addRule 36 37 (.iastore) 1 := ⟨by decide +kernel, rfl⟩
theorem dX5_addRule_37 : dI cX5_addRule 37 38 (.aload_n 0) 1 := ⟨by decide +kernel, rfl⟩
theorem dX5_addRule_38 : dI cX5_addRule 38 39 (.dup) 1 := ⟨by decide +kernel, rfl⟩
theorem dX5_addRule_39 : dI cX5_addRule 39 42 (.getfield 18) 3 := ⟨by decide +kernel, rfl⟩
theorem dX5_addRule_42 : dI cX5_addRule 42 43 (.iconst 1) 1 := ⟨by decide +kernel, rfl⟩
theorem dX5_addRule_43 : dI cX5_addRule 43 44 (.iadd) 1 := ⟨by decide +kernel, rfl⟩
theorem dX5_addRule_44 : dI cX5_addRule 44 47 (.putfield 18) 3 := ⟨by decide +kernel, rfl⟩
theorem dX5_addRule_47 : dI cX5_addRule 47 48 (.iconst 0) 1 := ⟨by decide +kernel, rfl⟩
theorem dX5_addRule_48 : dI cX5_addRule 48 50 (.istore 4) 2 := ⟨by decide +kernel, rfl⟩
theorem dX5_addRule_50 : dI cX5_addRule 50 52 (.iload 4) 2 := ⟨by decide +kernel, rfl⟩
theorem dX5_addRule_52 : dI cX5_addRule 52 53 (.aload_n 0) 1 := ⟨by decide +kernel, rfl⟩
theorem dX5_addRule_53 : dI cX5_addRule 53 56 (.getfield 15) 3 := ⟨by decide +kernel, rfl⟩
theorem dX5_addRule_56 : decode cX5_addRule 56 = .ok (.if_icmp .ge 16, 3) := by decide +kernel
theorem dX5_addRule_59 : dI cX5_addRule 59 60 (.aload_n 0) 1 := ⟨by decide +kernel, rfl⟩
theorem dX5_addRule_60 : dI cX5_addRule 60 62 (.iload 4) 2 := ⟨by decide +kernel, rfl⟩
theorem dX5_addRule_62 : dI cX5_addRule 62 63 (.iconst 0) 1 := ⟨by decide +kernel, rfl⟩
theorem dX5_addRule_63 : decode cX5_addRule 63 = .ok (.invokevirtual 70, 3) := by decide +kernel
theorem dX5_addRule_66 : dI cX5_addRule 66 69 (.iinc 4 1) 3 := ⟨by decide +kernel, rfl⟩
theorem dX5_addRule_69 : decode cX5_addRule 69 = .ok (.goto (-19), 3) := by decide +kernel
theorem dX5_addRule_72 : dI cX5_addRule 72 73 (.aload_n 0) 1 := ⟨by decide +kernel, rfl⟩
theorem dX5_addRule_73 : dI cX5_addRule 73 76 (.getfield 18) 3 := ⟨by decide +kernel, rfl⟩
theorem dX5_addRule_76 : dI cX5_addRule 76 77 (.ireturn) 1 := ⟨by decide +kernel, rfl⟩
def f_X5_addRule_b50 (k50 : Nat → Int32 → hS → Option (Int32 × hS)) (l0 : Nat) (l4 : Int32) (s : hS) : Option (Int32 × hS) :=
  (gI s l0 5 1).bind fun x1 =>
  if x1 ≤ l4 then
    (gI s l0 5 2).bind fun x2 =>
    some (x2, s)
  else
    (cV s l0 5 (f_X5_learn s l0 l4 (0 : Int32))).bind fun p3 =>
    k50 l0 (l4 + (1 : Int32)) p3.2
theorem b_X5_addRule_50 (E : jE) (k50 : Nat → Int32 → hS → Option (Int32 × hS)) (h50 : ∀ (s : hS) (l0 : Nat) (l4 : Int32) , Jo E M_X5_addRule cvI 50 [(0, .ref l0), (4, .int l4)] [] s (k50 l0 l4 s)) (s : hS) (l0 : Nat) (l4 : Int32)  : Jo E M_X5_addRule cvI 50 [(0, .ref l0), (4, .int l4)] [] s (f_X5_addRule_b50 k50 l0 l4 s) := by
  unfold f_X5_addRule_b50
  refine Jo_iload 1 dX5_addRule_50 rfl ?_
  refine Jo_aloadn 0 dX5_addRule_52 rfl rfl ?_
  refine Jo_getI fF_5_1 fI_5_1 dX5_addRule_53 w_194 (fun x1 => ?_)
  refine Jo_icmp_ge 72 dX5_addRule_56 (by decide) rfl ?_ ?_
  · refine Jo_aloadn 0 dX5_addRule_72 rfl rfl ?_
    refine Jo_getI fF_5_2 fI_5_2 dX5_addRule_73 w_193 (fun x2 => ?_)
    exact Jo_iret rfl dX5_addRule_76
  · refine Jo_aloadn 0 dX5_addRule_59 rfl rfl ?_
    refine Jo_iload 1 dX5_addRule_60 rfl ?_
    refine Jo_iconst (v := (0 : Int32)) dX5_addRule_62 (by decide) ?_
    refine Jo_callVv (a := l0) (rest := []) [.int l4, .int (0 : Int32)] cc_5 yF_X5_learn yV_X5_learn w_216 rfl rfl ⟨Nat.le_of_ble_eq_true rfl, Nat.le_of_ble_eq_true rfl, Nat.le_of_ble_eq_true rfl⟩ dX5_addRule_63 rfl (K_X5_learn E s l0 l4 (0 : Int32)) (fun p3 => ?_)
    refine Jo_iinc (v := (l4 + (1 : Int32))) (ls' := [(4, .int (l4 + (1 : Int32))), (0, .ref l0)]) 1 dX5_addRule_66 rfl rfl (by decide) rfl ?_
    refine Jo_goto 50 dX5_addRule_69 (by decide) ?_
    refine Jo_sub [1, 0] rfl ?_
    exact h50 p3.2 l0 (l4 + (1 : Int32))
theorem e_X5_addRule_50 (E : jE)  (n : Nat) : ∀ (s : hS) (l0 : Nat) (l4 : Int32) , Jo E M_X5_addRule cvI 50 [(0, .ref l0), (4, .int l4)] [] s ((jL f_X5_addRule_b50 (fun _ _ _ => none) n) l0 l4 s) :=
  jL_ind (P := fun f => ∀ (s : hS) (l0 : Nat) (l4 : Int32) , Jo E M_X5_addRule cvI 50 [(0, .ref l0), (4, .int l4)] [] s (f l0 l4 s)) (fun _ _ _ => Jo_none) (fun b hb s l0 l4 => b_X5_addRule_50 E  b hb s l0 l4) n
def f_X5_addRule_b47 (l0 : Nat) (s : hS) : Option (Int32 × hS) :=
  jL f_X5_addRule_b50 (fun _ _ _ => none) jF l0 (0 : Int32) s
theorem b_X5_addRule_47 (E : jE)  (s : hS) (l0 : Nat)  : Jo E M_X5_addRule cvI 47 [(0, .ref l0)] [] s (f_X5_addRule_b47  l0 s) := by
  unfold f_X5_addRule_b47
  refine Jo_iconst (v := (0 : Int32)) dX5_addRule_47 (by decide) ?_
  refine Jo_istore (ls' := [(4, .int (0 : Int32)), (0, .ref l0)]) dX5_addRule_48 (by decide) rfl ?_
  refine Jo_sub [1, 0] rfl ?_
  exact e_X5_addRule_50 E jF s l0 (0 : Int32)
def f_X5_addRule (s : hS) (a0 : Nat) (i1 : Int32) (i2 : Int32) (i3 : Int32) : Option (Int32 × hS) :=
  (gI s a0 5 2).bind fun x1 =>
  if (8 : Int32) ≤ x1 then
    f_X5_addRule_b47 a0 s
  else
    (gR s a0 5 12).bind fun a2 =>
    (gI s a0 5 2).bind fun x3 =>
    (sI s a2 10 x3 (((1 : Int32) <<< (i1 &&& 31)) ||| ((1 : Int32) <<< (i2 &&& 31)))).bind fun s4 =>
    (gR s4 a0 5 13).bind fun a5 =>
    (gI s4 a0 5 2).bind fun x6 =>
    (sI s4 a5 10 x6 ((1 : Int32) <<< (i3 &&& 31))).bind fun s7 =>
    (gI s7 a0 5 2).bind fun x8 =>
    (pI s7 a0 5 2 (x8 + (1 : Int32))).bind fun s9 =>
    f_X5_addRule_b47 a0 s9
theorem b_X5_addRule_in (E : jE)  (s : hS) (a0 : Nat) (i1 : Int32) (i2 : Int32) (i3 : Int32)  : Jo E M_X5_addRule cvI 0 [(0, .ref a0), (1, .int i1), (2, .int i2), (3, .int i3)] [] s (f_X5_addRule s a0 i1 i2 i3) := by
  unfold f_X5_addRule
  refine Jo_aloadn 0 dX5_addRule_0 rfl rfl ?_
  refine Jo_getI fF_5_2 fI_5_2 dX5_addRule_1 w_193 (fun x1 => ?_)
  refine Jo_bipush (v := (8 : Int32)) dX5_addRule_4 (by decide) ?_
  refine Jo_icmp_ge 47 dX5_addRule_6 (by decide) rfl ?_ ?_
  · refine Jo_sub [0] rfl ?_
    exact b_X5_addRule_47 E s a0
  · refine Jo_aloadn 0 dX5_addRule_9 rfl rfl ?_
    refine Jo_getR fF_5_12 fR_5_12 dX5_addRule_10 w_183 (fun a2 => ?_)
    refine Jo_aloadn 0 dX5_addRule_13 rfl rfl ?_
    refine Jo_getI fF_5_2 fI_5_2 dX5_addRule_14 w_193 (fun x3 => ?_)
    refine Jo_iconst (v := (1 : Int32)) dX5_addRule_17 (by decide) ?_
    refine Jo_iloadn 1 dX5_addRule_18 rfl rfl ?_
    refine Jo_ishl dX5_addRule_19 ?_
    refine Jo_iconst (v := (1 : Int32)) dX5_addRule_20 (by decide) ?_
    refine Jo_iloadn 2 dX5_addRule_21 rfl rfl ?_
    refine Jo_ishl dX5_addRule_22 ?_
    refine Jo_ior dX5_addRule_23 ?_
    refine Jo_iastore dX5_addRule_24 (fun s4 => ?_)
    refine Jo_aloadn 0 dX5_addRule_25 rfl rfl ?_
    refine Jo_getR fF_5_13 fR_5_13 dX5_addRule_26 w_182 (fun a5 => ?_)
    refine Jo_aloadn 0 dX5_addRule_29 rfl rfl ?_
    refine Jo_getI fF_5_2 fI_5_2 dX5_addRule_30 w_193 (fun x6 => ?_)
    refine Jo_iconst (v := (1 : Int32)) dX5_addRule_33 (by decide) ?_
    refine Jo_iloadn 3 dX5_addRule_34 rfl rfl ?_
    refine Jo_ishl dX5_addRule_35 ?_
    refine Jo_iastore dX5_addRule_36 (fun s7 => ?_)
    refine Jo_aloadn 0 dX5_addRule_37 rfl rfl ?_
    refine Jo_dup dX5_addRule_38 rfl ?_
    refine Jo_getI fF_5_2 fI_5_2 dX5_addRule_39 w_193 (fun x8 => ?_)
    refine Jo_iconst (v := (1 : Int32)) dX5_addRule_42 (by decide) ?_
    refine Jo_iadd dX5_addRule_43 ?_
    refine Jo_putI fF_5_2 fI_5_2 (Or.inl rfl) rfl dX5_addRule_44 w_193 (fun s9 => ?_)
    refine Jo_sub [0] rfl ?_
    exact b_X5_addRule_47 E s9 a0
theorem K_X5_addRule (E : jE) (s : hS) (a0 : Nat) (i1 : Int32) (i2 : Int32) (i3 : Int32) : jK E yX5_addRule M_X5_addRule cvI [.ref a0, .int i1, .int i2, .int i3] s (f_X5_addRule s a0 i1 i2 i3) := jK_of ⟨by decide, rfl, rfl⟩ (Nat.le_of_ble_eq_true rfl) (b_X5_addRule_in E s a0 i1 i2 i3)
/-! HeronTalk$Town.addTalk(III)I -/
abbrev M_X5_addTalk : jM := (RX5, cX5_addTalk, 5, (some .int), "addTalk", 0, 0)
theorem yF_X5_addTalk : yF yX5_addTalk M_X5_addTalk 3 := ⟨w_220, w_198, by decide +kernel⟩
theorem yV_X5_addTalk : Cond.instanceMethod yX5_addTalk ∈ tbG ∧ Cond.selects yX5_addTalk.cls yX5_addTalk yX5_addTalk ∈ tbG := ⟨w_221, w_222⟩
theorem dX5_addTalk_0 : dI cX5_addTalk 0 1 (.aload_n 0) 1 := ⟨by decide +kernel, rfl⟩
theorem dX5_addTalk_1 : dI cX5_addTalk 1 4 (.getfield 21) 3 := ⟨by decide +kernel, rfl⟩
theorem dX5_addTalk_4 : dI cX5_addTalk 4 6 (.istore 4) 2 := ⟨by decide +kernel, rfl⟩
theorem dX5_addTalk_6 : dI cX5_addTalk 6 8 (.iload 4) 2 := ⟨by decide +kernel, rfl⟩
theorem dX5_addTalk_8 : dI cX5_addTalk 8 10 (.bipush 8) 2 := ⟨by decide +kernel, rfl⟩
theorem dX5_addTalk_10 : decode cX5_addTalk 10 = .ok (.if_icmp .ge 37, 3) := by decide +kernel
theorem dX5_addTalk_13 : dI cX5_addTalk 13 14 (.aload_n 0) 1 := ⟨by decide +kernel, rfl⟩
theorem dX5_addTalk_14 : dI cX5_addTalk 14 17 (.getfield 55) 3 := ⟨by decide +kernel, rfl⟩
theorem dX5_addTalk_17 : dI cX5_addTalk 17 19 (.iload 4) 2 := ⟨by decide +kernel, rfl⟩
theorem dX5_addTalk_19 : dI cX5_addTalk 19 20 (.iload_n 1) 1 := ⟨by decide +kernel, rfl⟩
theorem dX5_addTalk_20 : dI cX5_addTalk 20 21 (.iastore) 1 := ⟨by decide +kernel, rfl⟩
theorem dX5_addTalk_21 : dI cX5_addTalk 21 22 (.aload_n 0) 1 := ⟨by decide +kernel, rfl⟩
theorem dX5_addTalk_22 : dI cX5_addTalk 22 25 (.getfield 58) 3 := ⟨by decide +kernel, rfl⟩
theorem dX5_addTalk_25 : dI cX5_addTalk 25 27 (.iload 4) 2 := ⟨by decide +kernel, rfl⟩
theorem dX5_addTalk_27 : dI cX5_addTalk 27 28 (.iload_n 2) 1 := ⟨by decide +kernel, rfl⟩
theorem dX5_addTalk_28 : dI cX5_addTalk 28 29 (.iastore) 1 := ⟨by decide +kernel, rfl⟩
theorem dX5_addTalk_29 : dI cX5_addTalk 29 30 (.aload_n 0) 1 := ⟨by decide +kernel, rfl⟩
theorem dX5_addTalk_30 : dI cX5_addTalk 30 33 (.getfield 61) 3 := ⟨by decide +kernel, rfl⟩
theorem dX5_addTalk_33 : dI cX5_addTalk 33 35 (.iload 4) 2 := ⟨by decide +kernel, rfl⟩
theorem dX5_addTalk_35 : dI cX5_addTalk 35 36 (.iload_n 3) 1 := ⟨by decide +kernel, rfl⟩
theorem dX5_addTalk_36 : dI cX5_addTalk 36 37 (.iastore) 1 := ⟨by decide +kernel, rfl⟩
theorem dX5_addTalk_37 : dI cX5_addTalk 37 38 (.aload_n 0) 1 := ⟨by decide +kernel, rfl⟩
theorem dX5_addTalk_38 : dI cX5_addTalk 38 39 (.dup) 1 := ⟨by decide +kernel, rfl⟩
theorem dX5_addTalk_39 : dI cX5_addTalk 39 42 (.getfield 21) 3 := ⟨by decide +kernel, rfl⟩
theorem dX5_addTalk_42 : dI cX5_addTalk 42 43 (.iconst 1) 1 := ⟨by decide +kernel, rfl⟩
theorem dX5_addTalk_43 : dI cX5_addTalk 43 44 (.iadd) 1 := ⟨by decide +kernel, rfl⟩
theorem dX5_addTalk_44 : dI cX5_addTalk 44 47 (.putfield 21) 3 := ⟨by decide +kernel, rfl⟩
theorem dX5_addTalk_47 : dI cX5_addTalk 47 49 (.iload 4) 2 := ⟨by decide +kernel, rfl⟩
theorem dX5_addTalk_49 : dI cX5_addTalk 49 50 (.ireturn) 1 := ⟨by decide +kernel, rfl⟩
def f_X5_addTalk (s : hS) (a0 : Nat) (i1 : Int32) (i2 : Int32) (i3 : Int32) : Option (Int32 × hS) :=
  (gI s a0 5 3).bind fun x1 =>
  if (8 : Int32) ≤ x1 then
    some (x1, s)
  else
    (gR s a0 5 14).bind fun a2 =>
    (sI s a2 10 x1 i1).bind fun s3 =>
    (gR s3 a0 5 15).bind fun a4 =>
    (sI s3 a4 10 x1 i2).bind fun s5 =>
    (gR s5 a0 5 16).bind fun a6 =>
    (sI s5 a6 10 x1 i3).bind fun s7 =>
    (gI s7 a0 5 3).bind fun x8 =>
    (pI s7 a0 5 3 (x8 + (1 : Int32))).bind fun s9 =>
    some (x1, s9)
theorem b_X5_addTalk_in (E : jE)  (s : hS) (a0 : Nat) (i1 : Int32) (i2 : Int32) (i3 : Int32)  : Jo E M_X5_addTalk cvI 0 [(0, .ref a0), (1, .int i1), (2, .int i2), (3, .int i3)] [] s (f_X5_addTalk s a0 i1 i2 i3) := by
  unfold f_X5_addTalk
  refine Jo_aloadn 0 dX5_addTalk_0 rfl rfl ?_
  refine Jo_getI fF_5_3 fI_5_3 dX5_addTalk_1 w_192 (fun x1 => ?_)
  refine Jo_istore (ls' := [(4, .int x1), (0, .ref a0), (1, .int i1), (2, .int i2), (3, .int i3)]) dX5_addTalk_4 (by decide) rfl ?_
  refine Jo_iload 0 dX5_addTalk_6 rfl ?_
  refine Jo_bipush (v := (8 : Int32)) dX5_addTalk_8 (by decide) ?_
  refine Jo_icmp_ge 47 dX5_addTalk_10 (by decide) rfl ?_ ?_
  · refine Jo_iload 0 dX5_addTalk_47 rfl ?_
    exact Jo_iret rfl dX5_addTalk_49
  · refine Jo_aloadn 1 dX5_addTalk_13 rfl rfl ?_
    refine Jo_getR fF_5_14 fR_5_14 dX5_addTalk_14 w_181 (fun a2 => ?_)
    refine Jo_iload 0 dX5_addTalk_17 rfl ?_
    refine Jo_iloadn 2 dX5_addTalk_19 rfl rfl ?_
    refine Jo_iastore dX5_addTalk_20 (fun s3 => ?_)
    refine Jo_aloadn 1 dX5_addTalk_21 rfl rfl ?_
    refine Jo_getR fF_5_15 fR_5_15 dX5_addTalk_22 w_180 (fun a4 => ?_)
    refine Jo_iload 0 dX5_addTalk_25 rfl ?_
    refine Jo_iloadn 3 dX5_addTalk_27 rfl rfl ?_
    refine Jo_iastore dX5_addTalk_28 (fun s5 => ?_)
    refine Jo_aloadn 1 dX5_addTalk_29 rfl rfl ?_
    refine Jo_getR fF_5_16 fR_5_16 dX5_addTalk_30 w_179 (fun a6 => ?_)
    refine Jo_iload 0 dX5_addTalk_33 rfl ?_
    refine Jo_iloadn 4 dX5_addTalk_35 rfl rfl ?_
    refine Jo_iastore dX5_addTalk_36 (fun s7 => ?_)
    refine Jo_aloadn 1 dX5_addTalk_37 rfl rfl ?_
    refine Jo_dup dX5_addTalk_38 rfl ?_
    refine Jo_getI fF_5_3 fI_5_3 dX5_addTalk_39 w_192 (fun x8 => ?_)
    refine Jo_iconst (v := (1 : Int32)) dX5_addTalk_42 (by decide) ?_
    refine Jo_iadd dX5_addTalk_43 ?_
    refine Jo_putI fF_5_3 fI_5_3 (Or.inl rfl) rfl dX5_addTalk_44 w_192 (fun s9 => ?_)
    refine Jo_iload 0 dX5_addTalk_47 rfl ?_
    exact Jo_iret rfl dX5_addTalk_49
theorem K_X5_addTalk (E : jE) (s : hS) (a0 : Nat) (i1 : Int32) (i2 : Int32) (i3 : Int32) : jK E yX5_addTalk M_X5_addTalk cvI [.ref a0, .int i1, .int i2, .int i3] s (f_X5_addTalk s a0 i1 i2 i3) := jK_of ⟨by decide, rfl, rfl⟩ (Nat.le_of_ble_eq_true rfl) (b_X5_addTalk_in E s a0 i1 i2 i3)
/-! HeronTalk$Town.addText(LHeronTalk$Text;)I -/
abbrev M_X5_addText : jM := (RX5, cX5_addText, 3, (some .int), "addText", 0, 0)
theorem yF_X5_addText : yF yX5_addText M_X5_addText 1 := ⟨w_223, w_198, by decide +kernel⟩
theorem yV_X5_addText : Cond.instanceMethod yX5_addText ∈ tbG ∧ Cond.selects yX5_addText.cls yX5_addText yX5_addText ∈ tbG := ⟨w_224, w_225⟩
theorem dX5_addText_0 : dI cX5_addText 0 1 (.aload_n 0) 1 := ⟨by decide +kernel, rfl⟩
theorem dX5_addText_1 : dI cX5_addText 1 4 (.getfield 24) 3 := ⟨by decide +kernel, rfl⟩
theorem dX5_addText_4 : dI cX5_addText 4 5 (.istore_n 2) 1 := ⟨by decide +kernel, rfl⟩
theorem dX5_addText_5 : dI cX5_addText 5 6 (.iload_n 2) 1 := ⟨by decide +kernel, rfl⟩
theorem dX5_addText_6 : dI cX5_addText 6 8 (.bipush 14) 2 := ⟨by decide +kernel, rfl⟩
theorem dX5_addText_8 : decode cX5_addText 8 = .ok (.if_icmp .ge 20, 3) := by decide +kernel
theorem dX5_addText_11 : dI cX5_addText 11 12 (.aload_n 0) 1 := ⟨by decide +kernel, rfl⟩
theorem dX5_addText_12 : dI cX5_addText 12 15 (.getfield 66) 3 := ⟨by decide +kernel, rfl⟩
theorem dX5_addText_15 : dI cX5_addText 15 16 (.iload_n 2) 1 := ⟨by decide +kernel, rfl⟩
theorem dX5_addText_16 : dI cX5_addText 16 17 (.aload_n 1) 1 := ⟨by decide +kernel, rfl⟩
theorem dX5_addText_17 : dI cX5_addText 17 18 (.aastore) 1 := ⟨by decide +kernel, rfl⟩
theorem dX5_addText_18 : dI cX5_addText 18 19 (.aload_n 0) 1 := ⟨by decide +kernel, rfl⟩
theorem dX5_addText_19 : dI cX5_addText 19 20 (.dup) 1 := ⟨by decide +kernel, rfl⟩
theorem dX5_addText_20 : dI cX5_addText 20 23 (.getfield 24) 3 := ⟨by decide +kernel, rfl⟩
theorem dX5_addText_23 : dI cX5_addText 23 24 (.iconst 1) 1 := ⟨by decide +kernel, rfl⟩
theorem dX5_addText_24 : dI cX5_addText 24 25 (.iadd) 1 := ⟨by decide +kernel, rfl⟩
theorem dX5_addText_25 : dI cX5_addText 25 28 (.putfield 24) 3 := ⟨by decide +kernel, rfl⟩
theorem dX5_addText_28 : dI cX5_addText 28 29 (.iload_n 2) 1 := ⟨by decide +kernel, rfl⟩
theorem dX5_addText_29 : dI cX5_addText 29 30 (.ireturn) 1 := ⟨by decide +kernel, rfl⟩
def f_X5_addText (s : hS) (a0 : Nat) (a1 : Nat) : Option (Int32 × hS) :=
  (gI s a0 5 4).bind fun x1 =>
  if (14 : Int32) ≤ x1 then
    some (x1, s)
  else
    (gR s a0 5 17).bind fun a2 =>
    (sR s a2 14 x1 a1 4).bind fun s3 =>
    (gI s3 a0 5 4).bind fun x4 =>
    (pI s3 a0 5 4 (x4 + (1 : Int32))).bind fun s5 =>
    some (x1, s5)
theorem b_X5_addText_in (E : jE)  (s : hS) (a0 : Nat) (a1 : Nat)  : Jo E M_X5_addText cvI 0 [(0, .ref a0), (1, .ref a1)] [] s (f_X5_addText s a0 a1) := by
  unfold f_X5_addText
  refine Jo_aloadn 0 dX5_addText_0 rfl rfl ?_
  refine Jo_getI fF_5_4 fI_5_4 dX5_addText_1 w_191 (fun x1 => ?_)
  refine Jo_istoren (ls' := [(2, .int x1), (0, .ref a0), (1, .ref a1)]) dX5_addText_4 rfl (by decide) rfl ?_
  refine Jo_iloadn 0 dX5_addText_5 rfl rfl ?_
  refine Jo_bipush (v := (14 : Int32)) dX5_addText_6 (by decide) ?_
  refine Jo_icmp_ge 28 dX5_addText_8 (by decide) rfl ?_ ?_
  · refine Jo_iloadn 0 dX5_addText_28 rfl rfl ?_
    exact Jo_iret rfl dX5_addText_29
  · refine Jo_aloadn 1 dX5_addText_11 rfl rfl ?_
    refine Jo_getR fF_5_17 fR_5_17 dX5_addText_12 w_177 (fun a2 => ?_)
    refine Jo_iloadn 0 dX5_addText_15 rfl rfl ?_
    refine Jo_aloadn 2 dX5_addText_16 rfl rfl ?_
    refine Jo_aastore hts_14 dX5_addText_17 (fun s3 => ?_)
    refine Jo_aloadn 1 dX5_addText_18 rfl rfl ?_
    refine Jo_dup dX5_addText_19 rfl ?_
    refine Jo_getI fF_5_4 fI_5_4 dX5_addText_20 w_191 (fun x4 => ?_)
    refine Jo_iconst (v := (1 : Int32)) dX5_addText_23 (by decide) ?_
    refine Jo_iadd dX5_addText_24 ?_
    refine Jo_putI fF_5_4 fI_5_4 (Or.inl rfl) rfl dX5_addText_25 w_191 (fun s5 => ?_)
    refine Jo_iloadn 0 dX5_addText_28 rfl rfl ?_
    exact Jo_iret rfl dX5_addText_29
theorem K_X5_addText (E : jE) (s : hS) (a0 : Nat) (a1 : Nat) : jK E yX5_addText M_X5_addText cvI [.ref a0, .ref a1] s (f_X5_addText s a0 a1) := jK_of ⟨by decide, rfl, rfl⟩ (Nat.le_of_ble_eq_true rfl) (b_X5_addText_in E s a0 a1)
/-! HeronTalk$Town.allFacts()I -/
abbrev M_X5_allFacts : jM := (RX5, cX5_allFacts, 1, (some .int), "allFacts", 0, 0)
theorem yF_X5_allFacts : yF yX5_allFacts M_X5_allFacts 0 := ⟨w_226, w_198, by decide +kernel⟩
theorem yV_X5_allFacts : Cond.instanceMethod yX5_allFacts ∈ tbG ∧ Cond.selects yX5_allFacts.cls yX5_allFacts yX5_allFacts ∈ tbG := ⟨w_227, w_228⟩
theorem dX5_allFacts_0 : dI cX5_allFacts 0 1 (.iconst 1) 1 := ⟨by decide +kernel, rfl⟩
theorem dX5_allFacts_1 : dI cX5_allFacts 1 2 (.aload_n 0) 1 := ⟨by decide +kernel, rfl⟩
theorem dX5_allFacts_2 : dI cX5_allFacts 2 5 (.getfield 9) 3 := ⟨by decide +kernel, rfl⟩
theorem dX5_allFacts_5 : dI cX5_allFacts 5 6 (.ishl) 1 := ⟨by decide +kernel, rfl⟩
theorem dX5_allFacts_6 : dI cX5_allFacts 6 7 (.iconst 1) 1 := ⟨by decide +kernel, rfl⟩
theorem dX5_allFacts_7 : dI cX5_allFacts 7 8 (.isub) 1 := ⟨by decide +kernel, rfl⟩
theorem dX5_allFacts_8 : dI cX5_allFacts 8 9 (.ireturn) 1 := ⟨by decide +kernel, rfl⟩
def f_X5_allFacts (s : hS) (a0 : Nat) : Option (Int32 × hS) :=
  (gI s a0 5 0).bind fun x1 =>
  some ((((1 : Int32) <<< (x1 &&& 31)) - (1 : Int32)), s)
theorem b_X5_allFacts_in (E : jE)  (s : hS) (a0 : Nat)  : Jo E M_X5_allFacts cvI 0 [(0, .ref a0)] [] s (f_X5_allFacts s a0) := by
  unfold f_X5_allFacts
  refine Jo_iconst (v := (1 : Int32)) dX5_allFacts_0 (by decide) ?_
  refine Jo_aloadn 0 dX5_allFacts_1 rfl rfl ?_
  refine Jo_getI fF_5_0 fI_5_0 dX5_allFacts_2 w_195 (fun x1 => ?_)
  refine Jo_ishl dX5_allFacts_5 ?_
  refine Jo_iconst (v := (1 : Int32)) dX5_allFacts_6 (by decide) ?_
  refine Jo_isub dX5_allFacts_7 ?_
  exact Jo_iret rfl dX5_allFacts_8
theorem K_X5_allFacts (E : jE) (s : hS) (a0 : Nat) : jK E yX5_allFacts M_X5_allFacts cvI [.ref a0] s (f_X5_allFacts s a0) := jK_of ⟨by decide, rfl, rfl⟩ (Nat.le_of_ble_eq_true rfl) (b_X5_allFacts_in E s a0)
/-! HeronTalk$Town.isFresh(I)Z -/
abbrev M_X5_isFresh : jM := (RX5, cX5_isFresh, 2, (some .boolean), "isFresh", 0, 0)
theorem yF_X5_isFresh : yF yX5_isFresh M_X5_isFresh 1 := ⟨w_229, w_198, by decide +kernel⟩
theorem yV_X5_isFresh : Cond.instanceMethod yX5_isFresh ∈ tbG ∧ Cond.selects yX5_isFresh.cls yX5_isFresh yX5_isFresh ∈ tbG := ⟨w_230, w_231⟩
theorem dX5_isFresh_0 : dI cX5_isFresh 0 1 (.aload_n 0) 1 := ⟨by decide +kernel, rfl⟩
theorem dX5_isFresh_1 : dI cX5_isFresh 1 4 (.getfield 27) 3 := ⟨by decide +kernel, rfl⟩
theorem dX5_isFresh_4 : dI cX5_isFresh 4 5 (.aload_n 0) 1 := ⟨by decide +kernel, rfl⟩
theorem dX5_isFresh_5 : dI cX5_isFresh 5 8 (.getfield 40) 3 := ⟨by decide +kernel, rfl⟩
theorem dX5_isFresh_8 : dI cX5_isFresh 8 9 (.iload_n 1) 1 := ⟨by decide +kernel, rfl⟩
theorem dX5_isFresh_9 : dI cX5_isFresh 9 10 (.iaload) 1 := ⟨by decide +kernel, rfl⟩
theorem dX5_isFresh_10 : decode cX5_isFresh 10 = .ok (.if_icmp .gt 7, 3) := by decide +kernel
theorem dX5_isFresh_13 : dI cX5_isFresh 13 14 (.iconst 1) 1 := ⟨by decide +kernel, rfl⟩
theorem dX5_isFresh_14 : decode cX5_isFresh 14 = .ok (.goto 4, 3) := by decide +kernel
theorem dX5_isFresh_17 : dI cX5_isFresh 17 18 (.iconst 0) 1 := ⟨by decide +kernel, rfl⟩
theorem dX5_isFresh_18 : dI cX5_isFresh 18 19 (.ireturn) 1 := ⟨by decide +kernel, rfl⟩
def f_X5_isFresh (s : hS) (a0 : Nat) (i1 : Int32) : Option (Int32 × hS) :=
  (gI s a0 5 5).bind fun x1 =>
  (gR s a0 5 9).bind fun a2 =>
  (aI s a2 10 i1).bind fun x3 =>
  if x3 < x1 then
    some ((0 : Int32), s)
  else
    some ((1 : Int32), s)
theorem b_X5_isFresh_in (E : jE)  (s : hS) (a0 : Nat) (i1 : Int32)  : Jo E M_X5_isFresh cvI 0 [(0, .ref a0), (1, .int i1)] [] s (f_X5_isFresh s a0 i1) := by
  unfold f_X5_isFresh
  refine Jo_aloadn 0 dX5_isFresh_0 rfl rfl ?_
  refine Jo_getI fF_5_5 fI_5_5 dX5_isFresh_1 w_190 (fun x1 => ?_)
  refine Jo_aloadn 0 dX5_isFresh_4 rfl rfl ?_
  refine Jo_getR fF_5_9 fR_5_9 dX5_isFresh_5 w_186 (fun a2 => ?_)
  refine Jo_iloadn 1 dX5_isFresh_8 rfl rfl ?_
  refine Jo_iaload dX5_isFresh_9 (fun x3 => ?_)
  refine Jo_icmp_gt 17 dX5_isFresh_10 (by decide) rfl ?_ ?_
  · refine Jo_iconst (v := (0 : Int32)) dX5_isFresh_17 (by decide) ?_
    exact Jo_zret0 rfl dX5_isFresh_18
  · refine Jo_iconst (v := (1 : Int32)) dX5_isFresh_13 (by decide) ?_
    refine Jo_goto 18 dX5_isFresh_14 (by decide) ?_
    exact Jo_zret1 rfl dX5_isFresh_18
theorem K_X5_isFresh (E : jE) (s : hS) (a0 : Nat) (i1 : Int32) : jK E yX5_isFresh M_X5_isFresh cvI [.ref a0, .int i1] s (f_X5_isFresh s a0 i1) := jK_of ⟨by decide, rfl, rfl⟩ (Nat.le_of_ble_eq_true rfl) (b_X5_isFresh_in E s a0 i1)
/-! HeronTalk$Town.freshFacts()I -/
abbrev M_X5_freshFacts : jM := (RX5, cX5_freshFacts, 3, (some .int), "freshFacts", 1, 21)
theorem yF_X5_freshFacts : yF yX5_freshFacts M_X5_freshFacts 0 := ⟨w_233, w_198, by decide +kernel⟩
theorem yV_X5_freshFacts : Cond.instanceMethod yX5_freshFacts ∈ tbG ∧ Cond.selects yX5_freshFacts.cls yX5_freshFacts yX5_freshFacts ∈ tbG := ⟨w_234, w_235⟩
theorem dX5_freshFacts_0 : dI cX5_freshFacts 0 1 (.iconst 0) 1 := ⟨by decide +kernel, rfl⟩
theorem dX5_freshFacts_1 : dI cX5_freshFacts 1 2 (.istore_n 1) 1 := ⟨by decide +kernel, rfl⟩
theorem dX5_freshFacts_2 : dI cX5_freshFacts 2 3 (.iconst 0) 1 := ⟨by decide +kernel, rfl⟩
theorem dX5_freshFacts_3 : dI cX5_freshFacts 3 4 (.istore_n 2) 1 := ⟨by decide +kernel, rfl⟩
theorem dX5_freshFacts_4 : dI cX5_freshFacts 4 5 (.iload_n 2) 1 := ⟨by decide +kernel, rfl⟩
theorem dX5_freshFacts_5 : dI cX5_freshFacts 5 6 (.aload_n 0) 1 := ⟨by decide +kernel, rfl⟩
theorem dX5_freshFacts_6 : dI cX5_freshFacts 6 9 (.getfield 9) 3 := ⟨by decide +kernel, rfl⟩
theorem dX5_freshFacts_9 : decode cX5_freshFacts 9 = .ok (.if_icmp .ge 23, 3) := by decide +kernel
theorem dX5_freshFacts_12 : dI cX5_freshFacts 12 13 (.aload_n 0) 1 := ⟨by decide +kernel, rfl⟩
theorem dX5_freshFacts_13 : dI cX5_freshFacts 13 14 (.iload_n 2) 1 := ⟨by decide +kernel, rfl⟩
theorem dX5_freshFacts_14 : decode cX5_freshFacts 14 = .ok (.invokevirtual 74, 3) := by decide +kernel
theorem dX5_freshFacts_17 : decode cX5_freshFacts 17 = .ok (.ifCond .eq 9, 3) := by decide +kernel
theorem dX5_freshFacts_20 : dI cX5_freshFacts 20 21 (.iload_n 1) 1 := ⟨by decide +kernel, rfl⟩
theorem dX5_freshFacts_21 : dI cX5_freshFacts 21 22 (.iconst 1) 1 := ⟨by decide +kernel, rfl⟩
theorem dX5_freshFacts_22 : dI cX5_freshFacts 22 23 (.iload_n 2) 1 := ⟨by decide +kernel, rfl⟩
theorem dX5_freshFacts_23 : dI cX5_freshFacts 23 24 (.ishl) 1 := ⟨by decide +kernel, rfl⟩
theorem dX5_freshFacts_24 : dI cX5_freshFacts 24 25 (.ior) 1 := ⟨by decide +kernel, rfl⟩
theorem dX5_freshFacts_25 : dI cX5_freshFacts 25 26 (.istore_n 1) 1 := ⟨by decide +kernel, rfl⟩
theorem dX5_freshFacts_26 : dI cX5_freshFacts 26 29 (.iinc 2 1) 3 := ⟨by decide +kernel, rfl⟩
theorem dX5_freshFacts_29 : decode cX5_freshFacts 29 = .ok (.goto (-25), 3) := by decide +kernel
theorem dX5_freshFacts_32 : dI cX5_freshFacts 32 33 (.iload_n 1) 1 := ⟨by decide +kernel, rfl⟩
theorem dX5_freshFacts_33 : dI cX5_freshFacts 33 34 (.ireturn) 1 := ⟨by decide +kernel, rfl⟩
def f_X5_freshFacts_b26 (k4 : Nat → Int32 → Int32 → hS → Option (Int32 × hS)) (l0 : Nat) (l1 : Int32) (l2 : Int32) (s : hS) : Option (Int32 × hS) :=
  k4 l0 l1 (l2 + (1 : Int32)) s
theorem b_X5_freshFacts_26 (E : jE) (k4 : Nat → Int32 → Int32 → hS → Option (Int32 × hS)) (h4 : ∀ (s : hS) (l0 : Nat) (l1 : Int32) (l2 : Int32) , Jo E M_X5_freshFacts cvI 4 [(0, .ref l0), (1, .int l1), (2, .int l2)] [] s (k4 l0 l1 l2 s)) (s : hS) (l0 : Nat) (l1 : Int32) (l2 : Int32)  : Jo E M_X5_freshFacts cvI 26 [(0, .ref l0), (1, .int l1), (2, .int l2)] [] s (f_X5_freshFacts_b26 k4 l0 l1 l2 s) := by
  unfold f_X5_freshFacts_b26
  refine Jo_iinc (v := (l2 + (1 : Int32))) (ls' := [(2, .int (l2 + (1 : Int32))), (0, .ref l0), (1, .int l1)]) 2 dX5_freshFacts_26 rfl rfl (by decide) rfl ?_
  refine Jo_goto 4 dX5_freshFacts_29 (by decide) ?_
  refine Jo_sub [1, 2, 0] rfl ?_
  exact h4 s l0 l1 (l2 + (1 : Int32))
def f_X5_freshFacts_b4 (k4 : Nat → Int32 → Int32 → hS → Option (Int32 × hS)) (l0 : Nat) (l1 : Int32) (l2 : Int32) (s : hS) : Option (Int32 × hS) :=
  (gI s l0 5 0).bind fun x1 =>
  if x1 ≤ l2 then
    some (l1, s)
  else
    (cV s l0 5 (f_X5_isFresh s l0 l2)).bind fun p2 =>
    if p2.1 = 0 then
      f_X5_freshFacts_b26 k4 l0 l1 l2 p2.2
    else
      nmv ((l1 ||| ((1 : Int32) <<< (l2 &&& 31)))) fun x3 =>
      f_X5_freshFacts_b26 k4 l0 x3 l2 p2.2
theorem b_X5_freshFacts_4 (E : jE) (k4 : Nat → Int32 → Int32 → hS → Option (Int32 × hS)) (h4 : ∀ (s : hS) (l0 : Nat) (l1 : Int32) (l2 : Int32) , Jo E M_X5_freshFacts cvI 4 [(0, .ref l0), (1, .int l1), (2, .int l2)] [] s (k4 l0 l1 l2 s)) (s : hS) (l0 : Nat) (l1 : Int32) (l2 : Int32)  : Jo E M_X5_freshFacts cvI 4 [(0, .ref l0), (1, .int l1), (2, .int l2)] [] s (f_X5_freshFacts_b4 k4 l0 l1 l2 s) := by
  unfold f_X5_freshFacts_b4
  refine Jo_iloadn 2 dX5_freshFacts_4 rfl rfl ?_
  refine Jo_aloadn 0 dX5_freshFacts_5 rfl rfl ?_
  refine Jo_getI fF_5_0 fI_5_0 dX5_freshFacts_6 w_195 (fun x1 => ?_)
  refine Jo_icmp_ge 32 dX5_freshFacts_9 (by decide) rfl ?_ ?_
  · refine Jo_iloadn 1 dX5_freshFacts_32 rfl rfl ?_
    exact Jo_iret rfl dX5_freshFacts_33
  · refine Jo_aloadn 0 dX5_freshFacts_12 rfl rfl ?_
    refine Jo_iloadn 2 dX5_freshFacts_13 rfl rfl ?_
    refine Jo_callVi (a := l0) (rest := []) [.int l2] cc_5 yF_X5_isFresh yV_X5_isFresh w_232 rfl rfl ⟨Nat.le_of_ble_eq_true rfl, Nat.le_of_ble_eq_true rfl, Nat.le_of_ble_eq_true rfl⟩ dX5_freshFacts_14 rfl (K_X5_isFresh E s l0 l2) (fun p2 => ?_)
    refine Jo_if_eq 26 dX5_freshFacts_17 (by decide) rfl ?_ ?_
    · exact b_X5_freshFacts_26 E k4 h4 p2.2 l0 l1 l2
    · refine Jo_iloadn 1 dX5_freshFacts_20 rfl rfl ?_
      refine Jo_iconst (v := (1 : Int32)) dX5_freshFacts_21 (by decide) ?_
      refine Jo_iloadn 2 dX5_freshFacts_22 rfl rfl ?_
      refine Jo_ishl dX5_freshFacts_23 ?_
      refine Jo_ior dX5_freshFacts_24 ?_
      refine Jo_nm (fun x3 => ?_)
      refine Jo_istoren (ls' := [(1, .int x3), (0, .ref l0), (2, .int l2)]) dX5_freshFacts_25 rfl (by decide) rfl ?_
      refine Jo_sub [1, 0, 2] rfl ?_
      exact b_X5_freshFacts_26 E k4 h4 p2.2 l0 x3 l2
theorem e_X5_freshFacts_4 (E : jE)  (n : Nat) : ∀ (s : hS) (l0 : Nat) (l1 : Int32) (l2 : Int32) , Jo E M_X5_freshFacts cvI 4 [(0, .ref l0), (1, .int l1), (2, .int l2)] [] s ((jL f_X5_freshFacts_b4 (fun _ _ _ _ => none) n) l0 l1 l2 s) :=
  jL_ind (P := fun f => ∀ (s : hS) (l0 : Nat) (l1 : Int32) (l2 : Int32) , Jo E M_X5_freshFacts cvI 4 [(0, .ref l0), (1, .int l1), (2, .int l2)] [] s (f l0 l1 l2 s)) (fun _ _ _ _ => Jo_none) (fun b hb s l0 l1 l2 => b_X5_freshFacts_4 E  b hb s l0 l1 l2) n
def f_X5_freshFacts (s : hS) (a0 : Nat) : Option (Int32 × hS) :=
  jL f_X5_freshFacts_b4 (fun _ _ _ _ => none) jF a0 (0 : Int32) (0 : Int32) s
theorem b_X5_freshFacts_in (E : jE)  (s : hS) (a0 : Nat)  : Jo E M_X5_freshFacts cvI 0 [(0, .ref a0)] [] s (f_X5_freshFacts s a0) := by
  unfold f_X5_freshFacts
  refine Jo_iconst (v := (0 : Int32)) dX5_freshFacts_0 (by decide) ?_
  refine Jo_istoren (ls' := [(1, .int (0 : Int32)), (0, .ref a0)]) dX5_freshFacts_1 rfl (by decide) rfl ?_
  refine Jo_iconst (v := (0 : Int32)) dX5_freshFacts_2 (by decide) ?_
  refine Jo_istoren (ls' := [(2, .int (0 : Int32)), (1, .int (0 : Int32)), (0, .ref a0)]) dX5_freshFacts_3 rfl (by decide) rfl ?_
  refine Jo_sub [2, 1, 0] rfl ?_
  exact e_X5_freshFacts_4 E jF s a0 (0 : Int32) (0 : Int32)
theorem K_X5_freshFacts (E : jE) (s : hS) (a0 : Nat) : jK E yX5_freshFacts M_X5_freshFacts cvI [.ref a0] s (f_X5_freshFacts s a0) := jK_of ⟨by decide, rfl, rfl⟩ (Nat.le_of_ble_eq_true rfl) (b_X5_freshFacts_in E s a0)
/-! HeronTalk$Town.isKnown(II)Z -/
abbrev M_X5_isKnown : jM := (RX5, cX5_isKnown, 3, (some .boolean), "isKnown", 0, 0)
theorem yF_X5_isKnown : yF yX5_isKnown M_X5_isKnown 2 := ⟨w_236, w_198, by decide +kernel⟩
theorem yV_X5_isKnown : Cond.instanceMethod yX5_isKnown ∈ tbG ∧ Cond.selects yX5_isKnown.cls yX5_isKnown yX5_isKnown ∈ tbG := ⟨w_237, w_238⟩
theorem dX5_isKnown_0 : dI cX5_isKnown 0 1 (.aload_n 0) 1 := ⟨by decide +kernel, rfl⟩
theorem dX5_isKnown_1 : dI cX5_isKnown 1 4 (.getfield 43) 3 := ⟨by decide +kernel, rfl⟩
theorem dX5_isKnown_4 : dI cX5_isKnown 4 5 (.iload_n 1) 1 := ⟨by decide +kernel, rfl⟩
theorem dX5_isKnown_5 : dI cX5_isKnown 5 6 (.iaload) 1 := ⟨by decide +kernel, rfl⟩
theorem dX5_isKnown_6 : dI cX5_isKnown 6 7 (.iload_n 2) 1 := ⟨by decide +kernel, rfl⟩
theorem dX5_isKnown_7 : dI cX5_isKnown 7 8 (.ishr) 1 := ⟨by decide +kernel, rfl⟩
theorem dX5_isKnown_8 : dI cX5_isKnown 8 9 (.iconst 1) 1 := ⟨by decide +kernel, rfl⟩
theorem dX5_isKnown_9 : dI cX5_isKnown 9 10 (.iand) 1 := ⟨by decide +kernel, rfl⟩
theorem dX5_isKnown_10 : decode cX5_isKnown 10 = .ok (.ifCond .eq 7, 3) := by decide +kernel
theorem dX5_isKnown_13 : dI cX5_isKnown 13 14 (.iconst 1) 1 := ⟨by decide +kernel, rfl⟩
theorem dX5_isKnown_14 : decode cX5_isKnown 14 = .ok (.goto 4, 3) := by decide +kernel
theorem dX5_isKnown_17 : dI cX5_isKnown 17 18 (.iconst 0) 1 := ⟨by decide +kernel, rfl⟩
theorem dX5_isKnown_18 : dI cX5_isKnown 18 19 (.ireturn) 1 := ⟨by decide +kernel, rfl⟩
def f_X5_isKnown (s : hS) (a0 : Nat) (i1 : Int32) (i2 : Int32) : Option (Int32 × hS) :=
  (gR s a0 5 10).bind fun a1 =>
  (aI s a1 10 i1).bind fun x2 =>
  if ((x2 >>> (i2 &&& 31)) &&& (1 : Int32)) = 0 then
    some ((0 : Int32), s)
  else
    some ((1 : Int32), s)
theorem b_X5_isKnown_in (E : jE)  (s : hS) (a0 : Nat) (i1 : Int32) (i2 : Int32)  : Jo E M_X5_isKnown cvI 0 [(0, .ref a0), (1, .int i1), (2, .int i2)] [] s (f_X5_isKnown s a0 i1 i2) := by
  unfold f_X5_isKnown
  refine Jo_aloadn 0 dX5_isKnown_0 rfl rfl ?_
  refine Jo_getR fF_5_10 fR_5_10 dX5_isKnown_1 w_185 (fun a1 => ?_)
  refine Jo_iloadn 1 dX5_isKnown_4 rfl rfl ?_
  refine Jo_iaload dX5_isKnown_5 (fun x2 => ?_)
  refine Jo_iloadn 2 dX5_isKnown_6 rfl rfl ?_
  refine Jo_ishr dX5_isKnown_7 ?_
  refine Jo_iconst (v := (1 : Int32)) dX5_isKnown_8 (by decide) ?_
  refine Jo_iand dX5_isKnown_9 ?_
  refine Jo_if_eq 17 dX5_isKnown_10 (by decide) rfl ?_ ?_
  · refine Jo_iconst (v := (0 : Int32)) dX5_isKnown_17 (by decide) ?_
    exact Jo_zret0 rfl dX5_isKnown_18
  · refine Jo_iconst (v := (1 : Int32)) dX5_isKnown_13 (by decide) ?_
    refine Jo_goto 18 dX5_isKnown_14 (by decide) ?_
    exact Jo_zret1 rfl dX5_isKnown_18
theorem K_X5_isKnown (E : jE) (s : hS) (a0 : Nat) (i1 : Int32) (i2 : Int32) : jK E yX5_isKnown M_X5_isKnown cvI [.ref a0, .int i1, .int i2] s (f_X5_isKnown s a0 i1 i2) := jK_of ⟨by decide, rfl, rfl⟩ (Nat.le_of_ble_eq_true rfl) (b_X5_isKnown_in E s a0 i1 i2)
/-! HeronTalk$Town.knowersOf(I)I -/
abbrev M_X5_knowersOf : jM := (RX5, cX5_knowersOf, 4, (some .int), "knowersOf", 1, 22)
theorem yF_X5_knowersOf : yF yX5_knowersOf M_X5_knowersOf 1 := ⟨w_240, w_198, by decide +kernel⟩
theorem yV_X5_knowersOf : Cond.instanceMethod yX5_knowersOf ∈ tbG ∧ Cond.selects yX5_knowersOf.cls yX5_knowersOf yX5_knowersOf ∈ tbG := ⟨w_241, w_242⟩
theorem dX5_knowersOf_0 : dI cX5_knowersOf 0 1 (.iconst 0) 1 := ⟨by decide +kernel, rfl⟩
theorem dX5_knowersOf_1 : dI cX5_knowersOf 1 2 (.istore_n 2) 1 := ⟨by decide +kernel, rfl⟩
theorem dX5_knowersOf_2 : dI cX5_knowersOf 2 3 (.iconst 0) 1 := ⟨by decide +kernel, rfl⟩
theorem dX5_knowersOf_3 : dI cX5_knowersOf 3 4 (.istore_n 3) 1 := ⟨by decide +kernel, rfl⟩
theorem dX5_knowersOf_4 : dI cX5_knowersOf 4 5 (.iload_n 3) 1 := ⟨by decide +kernel, rfl⟩
theorem dX5_knowersOf_5 : dI cX5_knowersOf 5 6 (.aload_n 0) 1 := ⟨by decide +kernel, rfl⟩
theorem dX5_knowersOf_6 : dI cX5_knowersOf 6 9 (.getfield 15) 3 := ⟨by decide +kernel, rfl⟩
theorem dX5_knowersOf_9 : decode cX5_knowersOf 9 = .ok (.if_icmp .ge 24, 3) := by decide +kernel
theorem dX5_knowersOf_12 : dI cX5_knowersOf 12 13 (.aload_n 0) 1 := ⟨by decide +kernel, rfl⟩
theorem dX5_knowersOf_13 : dI cX5_knowersOf 13 14 (.iload_n 3) 1 := ⟨by decide +kernel, rfl⟩
theorem dX5_knowersOf_14 : dI cX5_knowersOf 14 15 (.iload_n 1) 1 := ⟨by decide +kernel, rfl⟩
theorem dX5_knowersOf_15 : decode cX5_knowersOf 15 = .ok (.invokevirtual 78, 3) := by decide +kernel
theorem dX5_knowersOf_18 : decode cX5_knowersOf 18 = .ok (.ifCond .eq 9, 3) := by decide +kernel
theorem dX5_knowersOf_21 : dI cX5_knowersOf 21 22 (.iload_n 2) 1 := ⟨by decide +kernel, rfl⟩
theorem dX5_knowersOf_22 : dI cX5_knowersOf 22 23 (.iconst 1) 1 := ⟨by decide +kernel, rfl⟩
theorem dX5_knowersOf_23 : dI cX5_knowersOf 23 24 (.iload_n 3) 1 := ⟨by decide +kernel, rfl⟩
theorem dX5_knowersOf_24 : dI cX5_knowersOf 24 25 (.ishl) 1 := ⟨by decide +kernel, rfl⟩
theorem dX5_knowersOf_25 : dI cX5_knowersOf 25 26 (.ior) 1 := ⟨by decide +kernel, rfl⟩
theorem dX5_knowersOf_26 : dI cX5_knowersOf 26 27 (.istore_n 2) 1 := ⟨by decide +kernel, rfl⟩
theorem dX5_knowersOf_27 : dI cX5_knowersOf 27 30 (.iinc 3 1) 3 := ⟨by decide +kernel, rfl⟩
theorem dX5_knowersOf_30 : decode cX5_knowersOf 30 = .ok (.goto (-26), 3) := by decide +kernel
theorem dX5_knowersOf_33 : dI cX5_knowersOf 33 34 (.iload_n 2) 1 := ⟨by decide +kernel, rfl⟩
theorem dX5_knowersOf_34 : dI cX5_knowersOf 34 35 (.ireturn) 1 := ⟨by decide +kernel, rfl⟩
def f_X5_knowersOf_b27 (k4 : Nat → Int32 → Int32 → Int32 → hS → Option (Int32 × hS)) (l0 : Nat) (l1 : Int32) (l2 : Int32) (l3 : Int32) (s : hS) : Option (Int32 × hS) :=
  k4 l0 l1 l2 (l3 + (1 : Int32)) s
theorem b_X5_knowersOf_27 (E : jE) (k4 : Nat → Int32 → Int32 → Int32 → hS → Option (Int32 × hS)) (h4 : ∀ (s : hS) (l0 : Nat) (l1 : Int32) (l2 : Int32) (l3 : Int32) , Jo E M_X5_knowersOf cvI 4 [(0, .ref l0), (1, .int l1), (2, .int l2), (3, .int l3)] [] s (k4 l0 l1 l2 l3 s)) (s : hS) (l0 : Nat) (l1 : Int32) (l2 : Int32) (l3 : Int32)  : Jo E M_X5_knowersOf cvI 27 [(0, .ref l0), (1, .int l1), (2, .int l2), (3, .int l3)] [] s (f_X5_knowersOf_b27 k4 l0 l1 l2 l3 s) := by
  unfold f_X5_knowersOf_b27
  refine Jo_iinc (v := (l3 + (1 : Int32))) (ls' := [(3, .int (l3 + (1 : Int32))), (0, .ref l0), (1, .int l1), (2, .int l2)]) 3 dX5_knowersOf_27 rfl rfl (by decide) rfl ?_
  refine Jo_goto 4 dX5_knowersOf_30 (by decide) ?_
  refine Jo_sub [1, 2, 3, 0] rfl ?_
  exact h4 s l0 l1 l2 (l3 + (1 : Int32))
def f_X5_knowersOf_b4 (k4 : Nat → Int32 → Int32 → Int32 → hS → Option (Int32 × hS)) (l0 : Nat) (l1 : Int32) (l2 : Int32) (l3 : Int32) (s : hS) : Option (Int32 × hS) :=
  (gI s l0 5 1).bind fun x1 =>
  if x1 ≤ l3 then
    some (l2, s)
  else
    (cV s l0 5 (f_X5_isKnown s l0 l3 l1)).bind fun p2 =>
    if p2.1 = 0 then
      f_X5_knowersOf_b27 k4 l0 l1 l2 l3 p2.2
    else
      nmv ((l2 ||| ((1 : Int32) <<< (l3 &&& 31)))) fun x3 =>
      f_X5_knowersOf_b27 k4 l0 l1 x3 l3 p2.2
theorem b_X5_knowersOf_4 (E : jE) (k4 : Nat → Int32 → Int32 → Int32 → hS → Option (Int32 × hS)) (h4 : ∀ (s : hS) (l0 : Nat) (l1 : Int32) (l2 : Int32) (l3 : Int32) , Jo E M_X5_knowersOf cvI 4 [(0, .ref l0), (1, .int l1), (2, .int l2), (3, .int l3)] [] s (k4 l0 l1 l2 l3 s)) (s : hS) (l0 : Nat) (l1 : Int32) (l2 : Int32) (l3 : Int32)  : Jo E M_X5_knowersOf cvI 4 [(0, .ref l0), (1, .int l1), (2, .int l2), (3, .int l3)] [] s (f_X5_knowersOf_b4 k4 l0 l1 l2 l3 s) := by
  unfold f_X5_knowersOf_b4
  refine Jo_iloadn 3 dX5_knowersOf_4 rfl rfl ?_
  refine Jo_aloadn 0 dX5_knowersOf_5 rfl rfl ?_
  refine Jo_getI fF_5_1 fI_5_1 dX5_knowersOf_6 w_194 (fun x1 => ?_)
  refine Jo_icmp_ge 33 dX5_knowersOf_9 (by decide) rfl ?_ ?_
  · refine Jo_iloadn 2 dX5_knowersOf_33 rfl rfl ?_
    exact Jo_iret rfl dX5_knowersOf_34
  · refine Jo_aloadn 0 dX5_knowersOf_12 rfl rfl ?_
    refine Jo_iloadn 3 dX5_knowersOf_13 rfl rfl ?_
    refine Jo_iloadn 1 dX5_knowersOf_14 rfl rfl ?_
    refine Jo_callVi (a := l0) (rest := []) [.int l3, .int l1] cc_5 yF_X5_isKnown yV_X5_isKnown w_239 rfl rfl ⟨Nat.le_of_ble_eq_true rfl, Nat.le_of_ble_eq_true rfl, Nat.le_of_ble_eq_true rfl⟩ dX5_knowersOf_15 rfl (K_X5_isKnown E s l0 l3 l1) (fun p2 => ?_)
    refine Jo_if_eq 27 dX5_knowersOf_18 (by decide) rfl ?_ ?_
    · exact b_X5_knowersOf_27 E k4 h4 p2.2 l0 l1 l2 l3
    · refine Jo_iloadn 2 dX5_knowersOf_21 rfl rfl ?_
      refine Jo_iconst (v := (1 : Int32)) dX5_knowersOf_22 (by decide) ?_
      refine Jo_iloadn 3 dX5_knowersOf_23 rfl rfl ?_
      refine Jo_ishl dX5_knowersOf_24 ?_
      refine Jo_ior dX5_knowersOf_25 ?_
      refine Jo_nm (fun x3 => ?_)
      refine Jo_istoren (ls' := [(2, .int x3), (0, .ref l0), (1, .int l1), (3, .int l3)]) dX5_knowersOf_26 rfl (by decide) rfl ?_
      refine Jo_sub [1, 2, 0, 3] rfl ?_
      exact b_X5_knowersOf_27 E k4 h4 p2.2 l0 l1 x3 l3
theorem e_X5_knowersOf_4 (E : jE)  (n : Nat) : ∀ (s : hS) (l0 : Nat) (l1 : Int32) (l2 : Int32) (l3 : Int32) , Jo E M_X5_knowersOf cvI 4 [(0, .ref l0), (1, .int l1), (2, .int l2), (3, .int l3)] [] s ((jL f_X5_knowersOf_b4 (fun _ _ _ _ _ => none) n) l0 l1 l2 l3 s) :=
  jL_ind (P := fun f => ∀ (s : hS) (l0 : Nat) (l1 : Int32) (l2 : Int32) (l3 : Int32) , Jo E M_X5_knowersOf cvI 4 [(0, .ref l0), (1, .int l1), (2, .int l2), (3, .int l3)] [] s (f l0 l1 l2 l3 s)) (fun _ _ _ _ _ => Jo_none) (fun b hb s l0 l1 l2 l3 => b_X5_knowersOf_4 E  b hb s l0 l1 l2 l3) n
def f_X5_knowersOf (s : hS) (a0 : Nat) (i1 : Int32) : Option (Int32 × hS) :=
  jL f_X5_knowersOf_b4 (fun _ _ _ _ _ => none) jF a0 i1 (0 : Int32) (0 : Int32) s
theorem b_X5_knowersOf_in (E : jE)  (s : hS) (a0 : Nat) (i1 : Int32)  : Jo E M_X5_knowersOf cvI 0 [(0, .ref a0), (1, .int i1)] [] s (f_X5_knowersOf s a0 i1) := by
  unfold f_X5_knowersOf
  refine Jo_iconst (v := (0 : Int32)) dX5_knowersOf_0 (by decide) ?_
  refine Jo_istoren (ls' := [(2, .int (0 : Int32)), (0, .ref a0), (1, .int i1)]) dX5_knowersOf_1 rfl (by decide) rfl ?_
  refine Jo_iconst (v := (0 : Int32)) dX5_knowersOf_2 (by decide) ?_
  refine Jo_istoren (ls' := [(3, .int (0 : Int32)), (2, .int (0 : Int32)), (0, .ref a0), (1, .int i1)]) dX5_knowersOf_3 rfl (by decide) rfl ?_
  refine Jo_sub [2, 3, 1, 0] rfl ?_
  exact e_X5_knowersOf_4 E jF s a0 i1 (0 : Int32) (0 : Int32)
theorem K_X5_knowersOf (E : jE) (s : hS) (a0 : Nat) (i1 : Int32) : jK E yX5_knowersOf M_X5_knowersOf cvI [.ref a0, .int i1] s (f_X5_knowersOf s a0 i1) := jK_of ⟨by decide, rfl, rfl⟩ (Nat.le_of_ble_eq_true rfl) (b_X5_knowersOf_in E s a0 i1)
/-! HeronTalk$Town.howManyKnow(I)I -/
abbrev M_X5_howManyKnow : jM := (RX5, cX5_howManyKnow, 4, (some .int), "howManyKnow", 0, 0)
theorem yF_X5_howManyKnow : yF yX5_howManyKnow M_X5_howManyKnow 1 := ⟨w_243, w_198, by decide +kernel⟩
theorem yV_X5_howManyKnow : Cond.instanceMethod yX5_howManyKnow ∈ tbG ∧ Cond.selects yX5_howManyKnow.cls yX5_howManyKnow yX5_howManyKnow ∈ tbG := ⟨w_244, w_245⟩
theorem dX5_howManyKnow_0 : dI cX5_howManyKnow 0 1 (.iconst 0) 1 := ⟨by decide +kernel, rfl⟩
theorem dX5_howManyKnow_1 : dI cX5_howManyKnow 1 2 (.istore_n 2) 1 := ⟨by decide +kernel, rfl⟩
theorem dX5_howManyKnow_2 : dI cX5_howManyKnow 2 3 (.iconst 0) 1 := ⟨by decide +kernel, rfl⟩
theorem dX5_howManyKnow_3 : dI cX5_howManyKnow 3 4 (.istore_n 3) 1 := ⟨by decide +kernel, rfl⟩
theorem dX5_howManyKnow_4 : dI cX5_howManyKnow 4 5 (.iload_n 3) 1 := ⟨by decide +kernel, rfl⟩
theorem dX5_howManyKnow_5 : dI cX5_howManyKnow 5 6 (.aload_n 0) 1 := ⟨by decide +kernel, rfl⟩
theorem dX5_howManyKnow_6 : dI cX5_howManyKnow 6 9 (.getfield 15) 3 := ⟨by decide +kernel, rfl⟩
theorem dX5_howManyKnow_9 : decode cX5_howManyKnow 9 = .ok (.if_icmp .ge 22, 3) := by decide +kernel
theorem dX5_howManyKnow_12 : dI cX5_howManyKnow 12 13 (.iload_n 2) 1 := ⟨by decide +kernel, rfl⟩
theorem dX5_howManyKnow_13 : dI cX5_howManyKnow 13 14 (.aload_n 0) 1 := ⟨by decide +kernel, rfl⟩
theorem dX5_howManyKnow_14 : dI cX5_howManyKnow 14 17 (.getfield 43) 3 := ⟨by decide +kernel, rfl⟩
theorem dX5_howManyKnow_17 : dI cX5_howManyKnow 17 18 (.iload_n 3) 1 := ⟨by decide +kernel, rfl⟩
theorem dX5_howManyKnow_18 : dI cX5_howManyKnow 18 19 (.iaload) 1 := ⟨by decide +kernel, rfl⟩
theorem dX5_howManyKnow_19 : dI cX5_howManyKnow 19 20 (.iload_n 1) 1 := ⟨by decide +kernel, rfl⟩
theorem dX5_howManyKnow_20 : dI cX5_howManyKnow 20 21 (.ishr) 1 := ⟨by decide +kernel, rfl⟩
theorem dX5_howManyKnow_21 : dI cX5_howManyKnow 21 22 (.iconst 1) 1 := ⟨by decide +kernel, rfl⟩
theorem dX5_howManyKnow_22 : dI cX5_howManyKnow 22 23 (.iand) 1 := ⟨by decide +kernel, rfl⟩
theorem dX5_howManyKnow_23 : dI cX5_howManyKnow 23 24 (.iadd) 1 := ⟨by decide +kernel, rfl⟩
theorem dX5_howManyKnow_24 : dI cX5_howManyKnow 24 25 (.istore_n 2) 1 := ⟨by decide +kernel, rfl⟩
theorem dX5_howManyKnow_25 : dI cX5_howManyKnow 25 28 (.iinc 3 1) 3 := ⟨by decide +kernel, rfl⟩
theorem dX5_howManyKnow_28 : decode cX5_howManyKnow 28 = .ok (.goto (-24), 3) := by decide +kernel
theorem dX5_howManyKnow_31 : dI cX5_howManyKnow 31 32 (.iload_n 2) 1 := ⟨by decide +kernel, rfl⟩
theorem dX5_howManyKnow_32 : dI cX5_howManyKnow 32 33 (.ireturn) 1 := ⟨by decide +kernel, rfl⟩
def f_X5_howManyKnow_b4 (k4 : Nat → Int32 → Int32 → Int32 → hS → Option (Int32 × hS)) (l0 : Nat) (l1 : Int32) (l2 : Int32) (l3 : Int32) (s : hS) : Option (Int32 × hS) :=
  (gI s l0 5 1).bind fun x1 =>
  if x1 ≤ l3 then
    some (l2, s)
  else
    (gR s l0 5 10).bind fun a2 =>
    (aI s a2 10 l3).bind fun x3 =>
    nmv ((l2 + ((x3 >>> (l1 &&& 31)) &&& (1 : Int32)))) fun x4 =>
    k4 l0 l1 x4 (l3 + (1 : Int32)) s
theorem b_X5_howManyKnow_4 (E : jE) (k4 : Nat → Int32 → Int32 → Int32 → hS → Option (Int32 × hS)) (h4 : ∀ (s : hS) (l0 : Nat) (l1 : Int32) (l2 : Int32) (l3 : Int32) , Jo E M_X5_howManyKnow cvI 4 [(0, .ref l0), (1, .int l1), (2, .int l2), (3, .int l3)] [] s (k4 l0 l1 l2 l3 s)) (s : hS) (l0 : Nat) (l1 : Int32) (l2 : Int32) (l3 : Int32)  : Jo E M_X5_howManyKnow cvI 4 [(0, .ref l0), (1, .int l1), (2, .int l2), (3, .int l3)] [] s (f_X5_howManyKnow_b4 k4 l0 l1 l2 l3 s) := by
  unfold f_X5_howManyKnow_b4
  refine Jo_iloadn 3 dX5_howManyKnow_4 rfl rfl ?_
  refine Jo_aloadn 0 dX5_howManyKnow_5 rfl rfl ?_
  refine Jo_getI fF_5_1 fI_5_1 dX5_howManyKnow_6 w_194 (fun x1 => ?_)
  refine Jo_icmp_ge 31 dX5_howManyKnow_9 (by decide) rfl ?_ ?_
  · refine Jo_iloadn 2 dX5_howManyKnow_31 rfl rfl ?_
    exact Jo_iret rfl dX5_howManyKnow_32
  · refine Jo_iloadn 2 dX5_howManyKnow_12 rfl rfl ?_
    refine Jo_aloadn 0 dX5_howManyKnow_13 rfl rfl ?_
    refine Jo_getR fF_5_10 fR_5_10 dX5_howManyKnow_14 w_185 (fun a2 => ?_)
    refine Jo_iloadn 3 dX5_howManyKnow_17 rfl rfl ?_
    refine Jo_iaload dX5_howManyKnow_18 (fun x3 => ?_)
    refine Jo_iloadn 1 dX5_howManyKnow_19 rfl rfl ?_
    refine Jo_ishr dX5_howManyKnow_20 ?_
    refine Jo_iconst (v := (1 : Int32)) dX5_howManyKnow_21 (by decide) ?_
    refine Jo_iand dX5_howManyKnow_22 ?_
    refine Jo_iadd dX5_howManyKnow_23 ?_
    refine Jo_nm (fun x4 => ?_)
    refine Jo_istoren (ls' := [(2, .int x4), (0, .ref l0), (1, .int l1), (3, .int l3)]) dX5_howManyKnow_24 rfl (by decide) rfl ?_
    refine Jo_iinc (v := (l3 + (1 : Int32))) (ls' := [(3, .int (l3 + (1 : Int32))), (2, .int x4), (0, .ref l0), (1, .int l1)]) 3 dX5_howManyKnow_25 rfl rfl (by decide) rfl ?_
    refine Jo_goto 4 dX5_howManyKnow_28 (by decide) ?_
    refine Jo_sub [2, 3, 1, 0] rfl ?_
    exact h4 s l0 l1 x4 (l3 + (1 : Int32))
theorem e_X5_howManyKnow_4 (E : jE)  (n : Nat) : ∀ (s : hS) (l0 : Nat) (l1 : Int32) (l2 : Int32) (l3 : Int32) , Jo E M_X5_howManyKnow cvI 4 [(0, .ref l0), (1, .int l1), (2, .int l2), (3, .int l3)] [] s ((jL f_X5_howManyKnow_b4 (fun _ _ _ _ _ => none) n) l0 l1 l2 l3 s) :=
  jL_ind (P := fun f => ∀ (s : hS) (l0 : Nat) (l1 : Int32) (l2 : Int32) (l3 : Int32) , Jo E M_X5_howManyKnow cvI 4 [(0, .ref l0), (1, .int l1), (2, .int l2), (3, .int l3)] [] s (f l0 l1 l2 l3 s)) (fun _ _ _ _ _ => Jo_none) (fun b hb s l0 l1 l2 l3 => b_X5_howManyKnow_4 E  b hb s l0 l1 l2 l3) n
def f_X5_howManyKnow (s : hS) (a0 : Nat) (i1 : Int32) : Option (Int32 × hS) :=
  jL f_X5_howManyKnow_b4 (fun _ _ _ _ _ => none) jF a0 i1 (0 : Int32) (0 : Int32) s
theorem b_X5_howManyKnow_in (E : jE)  (s : hS) (a0 : Nat) (i1 : Int32)  : Jo E M_X5_howManyKnow cvI 0 [(0, .ref a0), (1, .int i1)] [] s (f_X5_howManyKnow s a0 i1) := by
  unfold f_X5_howManyKnow
  refine Jo_iconst (v := (0 : Int32)) dX5_howManyKnow_0 (by decide) ?_
  refine Jo_istoren (ls' := [(2, .int (0 : Int32)), (0, .ref a0), (1, .int i1)]) dX5_howManyKnow_1 rfl (by decide) rfl ?_
  refine Jo_iconst (v := (0 : Int32)) dX5_howManyKnow_2 (by decide) ?_
  refine Jo_istoren (ls' := [(3, .int (0 : Int32)), (2, .int (0 : Int32)), (0, .ref a0), (1, .int i1)]) dX5_howManyKnow_3 rfl (by decide) rfl ?_
  refine Jo_sub [2, 3, 1, 0] rfl ?_
  exact e_X5_howManyKnow_4 E jF s a0 i1 (0 : Int32) (0 : Int32)
theorem K_X5_howManyKnow (E : jE) (s : hS) (a0 : Nat) (i1 : Int32) : jK E yX5_howManyKnow M_X5_howManyKnow cvI [.ref a0, .int i1] s (f_X5_howManyKnow s a0 i1) := jK_of ⟨by decide, rfl, rfl⟩ (Nat.le_of_ble_eq_true rfl) (b_X5_howManyKnow_in E s a0 i1)
/-! HeronTalk$Town.knownTogether()I -/
abbrev M_X5_knownTogether : jM := (RX5, cX5_knownTogether, 3, (some .int), "knownTogether", 1, 20)
theorem yF_X5_knownTogether : yF yX5_knownTogether M_X5_knownTogether 0 := ⟨w_247, w_198, by decide +kernel⟩
theorem yV_X5_knownTogether : Cond.instanceMethod yX5_knownTogether ∈ tbG ∧ Cond.selects yX5_knownTogether.cls yX5_knownTogether yX5_knownTogether ∈ tbG := ⟨w_248, w_249⟩
theorem dX5_knownTogether_0 : dI cX5_knownTogether 0 1 (.iconst 0) 1 := ⟨by decide +kernel, rfl⟩
theorem dX5_knownTogether_1 : dI cX5_knownTogether 1 2 (.istore_n 1) 1 := ⟨by decide +kernel, rfl⟩
theorem dX5_knownTogether_2 : dI cX5_knownTogether 2 3 (.iconst 0) 1 := ⟨by decide +kernel, rfl⟩
theorem dX5_knownTogether_3 : dI cX5_knownTogether 3 4 (.istore_n 2) 1 := ⟨by decide +kernel, rfl⟩
theorem dX5_knownTogether_4 : dI cX5_knownTogether 4 5 (.iload_n 2) 1 := ⟨by decide +kernel, rfl⟩
theorem dX5_knownTogether_5 : dI cX5_knownTogether 5 6 (.aload_n 0) 1 := ⟨by decide +kernel, rfl⟩
theorem dX5_knownTogether_6 : dI cX5_knownTogether 6 9 (.getfield 15) 3 := ⟨by decide +kernel, rfl⟩
theorem dX5_knownTogether_9 : decode cX5_knownTogether 9 = .ok (.if_icmp .ge 21, 3) := by decide +kernel
theorem dX5_knownTogether_12 : dI cX5_knownTogether 12 13 (.iload_n 1) 1 := ⟨by decide +kernel, rfl⟩
theorem dX5_knownTogether_13 : dI cX5_knownTogether 13 14 (.aload_n 0) 1 := ⟨by decide +kernel, rfl⟩
theorem dX5_knownTogether_14 : dI cX5_knownTogether 14 17 (.getfield 43) 3 := ⟨by decide +kernel, rfl⟩
theorem dX5_knownTogether_17 : dI cX5_knownTogether 17 18 (.iload_n 2) 1 := ⟨by decide +kernel, rfl⟩
theorem dX5_knownTogether_18 : dI cX5_knownTogether 18 19 (.iaload) 1 := ⟨by decide +kernel, rfl⟩
theorem dX5_knownTogether_19 : decode cX5_knownTogether 19 = .ok (.invokestatic 82, 3) := by decide +kernel
theorem dX5_knownTogether_22 : dI cX5_knownTogether 22 23 (.iadd) 1 := ⟨by decide +kernel, rfl⟩
theorem dX5_knownTogether_23 : dI cX5_knownTogether 23 24 (.istore_n 1) 1 := ⟨by decide +kernel, rfl⟩
theorem dX5_knownTogether_24 : dI cX5_knownTogether 24 27 (.iinc 2 1) 3 := ⟨by decide +kernel, rfl⟩
theorem dX5_knownTogether_27 : decode cX5_knownTogether 27 = .ok (.goto (-23), 3) := by decide +kernel
theorem dX5_knownTogether_30 : dI cX5_knownTogether 30 31 (.iload_n 1) 1 := ⟨by decide +kernel, rfl⟩
theorem dX5_knownTogether_31 : dI cX5_knownTogether 31 32 (.ireturn) 1 := ⟨by decide +kernel, rfl⟩
def f_X5_knownTogether_b4 (k4 : Nat → Int32 → Int32 → hS → Option (Int32 × hS)) (l0 : Nat) (l1 : Int32) (l2 : Int32) (s : hS) : Option (Int32 × hS) :=
  (gI s l0 5 1).bind fun x1 =>
  if x1 ≤ l2 then
    some (l1, s)
  else
    (gR s l0 5 10).bind fun a2 =>
    (aI s a2 10 l2).bind fun x3 =>
    (f_J6_bitCount_0f7a4 s x3).bind fun p4 =>
    nmv ((l1 + p4.1)) fun x5 =>
    k4 l0 x5 (l2 + (1 : Int32)) p4.2
theorem b_X5_knownTogether_4 (E : jE) (k4 : Nat → Int32 → Int32 → hS → Option (Int32 × hS)) (h4 : ∀ (s : hS) (l0 : Nat) (l1 : Int32) (l2 : Int32) , Jo E M_X5_knownTogether cvI 4 [(0, .ref l0), (1, .int l1), (2, .int l2)] [] s (k4 l0 l1 l2 s)) (s : hS) (l0 : Nat) (l1 : Int32) (l2 : Int32)  : Jo E M_X5_knownTogether cvI 4 [(0, .ref l0), (1, .int l1), (2, .int l2)] [] s (f_X5_knownTogether_b4 k4 l0 l1 l2 s) := by
  unfold f_X5_knownTogether_b4
  refine Jo_iloadn 2 dX5_knownTogether_4 rfl rfl ?_
  refine Jo_aloadn 0 dX5_knownTogether_5 rfl rfl ?_
  refine Jo_getI fF_5_1 fI_5_1 dX5_knownTogether_6 w_194 (fun x1 => ?_)
  refine Jo_icmp_ge 30 dX5_knownTogether_9 (by decide) rfl ?_ ?_
  · refine Jo_iloadn 1 dX5_knownTogether_30 rfl rfl ?_
    exact Jo_iret rfl dX5_knownTogether_31
  · refine Jo_iloadn 1 dX5_knownTogether_12 rfl rfl ?_
    refine Jo_aloadn 0 dX5_knownTogether_13 rfl rfl ?_
    refine Jo_getR fF_5_10 fR_5_10 dX5_knownTogether_14 w_185 (fun a2 => ?_)
    refine Jo_iloadn 2 dX5_knownTogether_17 rfl rfl ?_
    refine Jo_iaload dX5_knownTogether_18 (fun x3 => ?_)
    refine Jo_callSi (rest := [.int l1]) [.int x3] yF_J6_bitCount_0f7a4 yS_J6_bitCount_0f7a4 w_246 rfl rfl ⟨Nat.le_of_ble_eq_true rfl, Nat.le_of_ble_eq_true rfl, Nat.le_of_ble_eq_true rfl⟩ dX5_knownTogether_19 rfl (K_J6_bitCount_0f7a4 E s x3) (fun p4 => ?_)
    refine Jo_iadd dX5_knownTogether_22 ?_
    refine Jo_nm (fun x5 => ?_)
    refine Jo_istoren (ls' := [(1, .int x5), (0, .ref l0), (2, .int l2)]) dX5_knownTogether_23 rfl (by decide) rfl ?_
    refine Jo_iinc (v := (l2 + (1 : Int32))) (ls' := [(2, .int (l2 + (1 : Int32))), (1, .int x5), (0, .ref l0)]) 2 dX5_knownTogether_24 rfl rfl (by decide) rfl ?_
    refine Jo_goto 4 dX5_knownTogether_27 (by decide) ?_
    refine Jo_sub [2, 1, 0] rfl ?_
    exact h4 p4.2 l0 x5 (l2 + (1 : Int32))
theorem e_X5_knownTogether_4 (E : jE)  (n : Nat) : ∀ (s : hS) (l0 : Nat) (l1 : Int32) (l2 : Int32) , Jo E M_X5_knownTogether cvI 4 [(0, .ref l0), (1, .int l1), (2, .int l2)] [] s ((jL f_X5_knownTogether_b4 (fun _ _ _ _ => none) n) l0 l1 l2 s) :=
  jL_ind (P := fun f => ∀ (s : hS) (l0 : Nat) (l1 : Int32) (l2 : Int32) , Jo E M_X5_knownTogether cvI 4 [(0, .ref l0), (1, .int l1), (2, .int l2)] [] s (f l0 l1 l2 s)) (fun _ _ _ _ => Jo_none) (fun b hb s l0 l1 l2 => b_X5_knownTogether_4 E  b hb s l0 l1 l2) n
def f_X5_knownTogether (s : hS) (a0 : Nat) : Option (Int32 × hS) :=
  jL f_X5_knownTogether_b4 (fun _ _ _ _ => none) jF a0 (0 : Int32) (0 : Int32) s
theorem b_X5_knownTogether_in (E : jE)  (s : hS) (a0 : Nat)  : Jo E M_X5_knownTogether cvI 0 [(0, .ref a0)] [] s (f_X5_knownTogether s a0) := by
  unfold f_X5_knownTogether
  refine Jo_iconst (v := (0 : Int32)) dX5_knownTogether_0 (by decide) ?_
  refine Jo_istoren (ls' := [(1, .int (0 : Int32)), (0, .ref a0)]) dX5_knownTogether_1 rfl (by decide) rfl ?_
  refine Jo_iconst (v := (0 : Int32)) dX5_knownTogether_2 (by decide) ?_
  refine Jo_istoren (ls' := [(2, .int (0 : Int32)), (1, .int (0 : Int32)), (0, .ref a0)]) dX5_knownTogether_3 rfl (by decide) rfl ?_
  refine Jo_sub [2, 1, 0] rfl ?_
  exact e_X5_knownTogether_4 E jF s a0 (0 : Int32) (0 : Int32)
theorem K_X5_knownTogether (E : jE) (s : hS) (a0 : Nat) : jK E yX5_knownTogether M_X5_knownTogether cvI [.ref a0] s (f_X5_knownTogether s a0) := jK_of ⟨by decide, rfl, rfl⟩ (Nat.le_of_ble_eq_true rfl) (b_X5_knownTogether_in E s a0)
/-! HeronTalk$Town.newsOf(I)I -/
abbrev M_X5_newsOf : jM := (RX5, cX5_newsOf, 4, (some .int), "newsOf", 2, 43)
theorem yF_X5_newsOf : yF yX5_newsOf M_X5_newsOf 1 := ⟨w_251, w_198, by decide +kernel⟩
theorem yV_X5_newsOf : Cond.instanceMethod yX5_newsOf ∈ tbG ∧ Cond.selects yX5_newsOf.cls yX5_newsOf yX5_newsOf ∈ tbG := ⟨w_252, w_253⟩
theorem dX5_newsOf_0 : dI cX5_newsOf 0 1 (.aload_n 0) 1 := ⟨by decide +kernel, rfl⟩
theorem dX5_newsOf_1 : decode cX5_newsOf 1 = .ok (.invokevirtual 88, 3) := by decide +kernel
theorem dX5_newsOf_4 : dI cX5_newsOf 4 5 (.aload_n 0) 1 := ⟨by decide +kernel, rfl⟩
theorem dX5_newsOf_5 : dI cX5_newsOf 5 8 (.getfield 43) 3 := ⟨by decide +kernel, rfl⟩
theorem dX5_newsOf_8 : dI cX5_newsOf 8 9 (.iload_n 1) 1 := ⟨by decide +kernel, rfl⟩
theorem dX5_newsOf_9 : dI cX5_newsOf 9 10 (.iaload) 1 := ⟨by decide +kernel, rfl⟩
theorem dX5_newsOf_10 : dI cX5_newsOf 10 11 (.iand) 1 := ⟨by decide +kernel, rfl⟩
theorem dX5_newsOf_11 : dI cX5_newsOf 11 12 (.istore_n 2) 1 := ⟨by decide +kernel, rfl⟩
theorem dX5_newsOf_12 : dI cX5_newsOf 12 13 (.iconst 0) 1 := ⟨by decide +kernel, rfl⟩
theorem dX5_newsOf_13 : dI cX5_newsOf 13 14 (.istore_n 3) 1 := ⟨by decide +kernel, rfl⟩
theorem dX5_newsOf_14 : dI cX5_newsOf 14 15 (.iload_n 3) 1 := ⟨by decide +kernel, rfl⟩
theorem dX5_newsOf_15 : dI cX5_newsOf 15 16 (.aload_n 0) 1 := ⟨by decide +kernel, rfl⟩
theorem dX5_newsOf_16 : dI cX5_newsOf 16 19 (.getfield 15) 3 := ⟨by decide +kernel, rfl⟩
theorem dX5_newsOf_19 : decode cX5_newsOf 19 = .ok (.if_icmp .ge 25, 3) := by decide +kernel
theorem dX5_newsOf_22 : dI cX5_newsOf 22 23 (.iload_n 3) 1 := ⟨by decide +kernel, rfl⟩
theorem dX5_newsOf_23 : dI cX5_newsOf 23 24 (.iload_n 1) 1 := ⟨by decide +kernel, rfl⟩
theorem dX5_newsOf_24 : decode cX5_newsOf 24 = .ok (.if_icmp .eq 14, 3) := by decide +kernel
theorem dX5_newsOf_27 : dI cX5_newsOf 27 28 (.iload_n 2) 1 := ⟨by decide +kernel, rfl⟩
theorem dX5_newsOf_28 : dI cX5_newsOf 28 29 (.aload_n 0) 1 := ⟨by decide +kernel, rfl⟩
theorem dX5_newsOf_29 : dI cX5_newsOf 29 32 (.getfield 43) 3 := ⟨by decide +kernel, rfl⟩
theorem dX5_newsOf_32 : dI cX5_newsOf 32 33 (.iload_n 3) 1 := ⟨by decide +kernel, rfl⟩
theorem dX5_newsOf_33 : dI cX5_newsOf 33 34 (.iaload) 1 := ⟨by decide +kernel, rfl⟩
theorem dX5_newsOf_34 : dI cX5_newsOf 34 35 (.iconst (-1)) 1 := ⟨by decide +kernel, rfl⟩
theorem dX5_newsOf_35 : dI cX5_newsOf 35 36 (.ixor) 1 := ⟨by decide +kernel, rfl⟩
theorem dX5_newsOf_36 : dI cX5_newsOf 36 37 (.iand) 1 := ⟨by decide +kernel, rfl⟩
theorem dX5_newsOf_37 : dI cX5_newsOf 37 38 (.istore_n 2) 1 := ⟨by decide +kernel, rfl⟩
theorem dX5_newsOf_38 : dI cX5_newsOf 38 41 (.iinc 3 1) 3 := ⟨by decide +kernel, rfl⟩
theorem dX5_newsOf_41 : decode cX5_newsOf 41 = .ok (.goto (-27), 3) := by decide +kernel
theorem dX5_newsOf_44 : dI cX5_newsOf 44 45 (.iload_n 2) 1 := ⟨by decide +kernel, rfl⟩
theorem dX5_newsOf_45 : decode cX5_newsOf 45 = .ok (.invokestatic 82, 3) := by decide +kernel
theorem dX5_newsOf_48 : dI cX5_newsOf 48 49 (.ireturn) 1 := ⟨by decide +kernel, rfl⟩
def f_X5_newsOf_b38 (k14 : Nat → Int32 → Int32 → Int32 → hS → Option (Int32 × hS)) (l0 : Nat) (l1 : Int32) (l2 : Int32) (l3 : Int32) (s : hS) : Option (Int32 × hS) :=
  k14 l0 l1 l2 (l3 + (1 : Int32)) s
theorem b_X5_newsOf_38 (E : jE) (k14 : Nat → Int32 → Int32 → Int32 → hS → Option (Int32 × hS)) (h14 : ∀ (s : hS) (l0 : Nat) (l1 : Int32) (l2 : Int32) (l3 : Int32) , Jo E M_X5_newsOf cvI 14 [(0, .ref l0), (1, .int l1), (2, .int l2), (3, .int l3)] [] s (k14 l0 l1 l2 l3 s)) (s : hS) (l0 : Nat) (l1 : Int32) (l2 : Int32) (l3 : Int32)  : Jo E M_X5_newsOf cvI 38 [(0, .ref l0), (1, .int l1), (2, .int l2), (3, .int l3)] [] s (f_X5_newsOf_b38 k14 l0 l1 l2 l3 s) := by
  unfold f_X5_newsOf_b38
  refine Jo_iinc (v := (l3 + (1 : Int32))) (ls' := [(3, .int (l3 + (1 : Int32))), (0, .ref l0), (1, .int l1), (2, .int l2)]) 3 dX5_newsOf_38 rfl rfl (by decide) rfl ?_
  refine Jo_goto 14 dX5_newsOf_41 (by decide) ?_
  refine Jo_sub [1, 2, 3, 0] rfl ?_
  exact h14 s l0 l1 l2 (l3 + (1 : Int32))
def f_X5_newsOf_b14 (k14 : Nat → Int32 → Int32 → Int32 → hS → Option (Int32 × hS)) (l0 : Nat) (l1 : Int32) (l2 : Int32) (l3 : Int32) (s : hS) : Option (Int32 × hS) :=
  (gI s l0 5 1).bind fun x1 =>
  if x1 ≤ l3 then
    (f_J6_bitCount_0f7a4 s l2).bind fun p2 =>
    some (p2.1, p2.2)
  else
    if l3 = l1 then
      f_X5_newsOf_b38 k14 l0 l1 l2 l3 s
    else
      (gR s l0 5 10).bind fun a3 =>
      (aI s a3 10 l3).bind fun x4 =>
      nmv ((l2 &&& (x4 ^^^ (-1 : Int32)))) fun x5 =>
      f_X5_newsOf_b38 k14 l0 l1 x5 l3 s
theorem b_X5_newsOf_14 (E : jE) (k14 : Nat → Int32 → Int32 → Int32 → hS → Option (Int32 × hS)) (h14 : ∀ (s : hS) (l0 : Nat) (l1 : Int32) (l2 : Int32) (l3 : Int32) , Jo E M_X5_newsOf cvI 14 [(0, .ref l0), (1, .int l1), (2, .int l2), (3, .int l3)] [] s (k14 l0 l1 l2 l3 s)) (s : hS) (l0 : Nat) (l1 : Int32) (l2 : Int32) (l3 : Int32)  : Jo E M_X5_newsOf cvI 14 [(0, .ref l0), (1, .int l1), (2, .int l2), (3, .int l3)] [] s (f_X5_newsOf_b14 k14 l0 l1 l2 l3 s) := by
  unfold f_X5_newsOf_b14
  refine Jo_iloadn 3 dX5_newsOf_14 rfl rfl ?_
  refine Jo_aloadn 0 dX5_newsOf_15 rfl rfl ?_
  refine Jo_getI fF_5_1 fI_5_1 dX5_newsOf_16 w_194 (fun x1 => ?_)
  refine Jo_icmp_ge 44 dX5_newsOf_19 (by decide) rfl ?_ ?_
  · refine Jo_iloadn 2 dX5_newsOf_44 rfl rfl ?_
    refine Jo_callSi (rest := []) [.int l2] yF_J6_bitCount_0f7a4 yS_J6_bitCount_0f7a4 w_246 rfl rfl ⟨Nat.le_of_ble_eq_true rfl, Nat.le_of_ble_eq_true rfl, Nat.le_of_ble_eq_true rfl⟩ dX5_newsOf_45 rfl (K_J6_bitCount_0f7a4 E s l2) (fun p2 => ?_)
    exact Jo_iret rfl dX5_newsOf_48
  · refine Jo_iloadn 3 dX5_newsOf_22 rfl rfl ?_
    refine Jo_iloadn 1 dX5_newsOf_23 rfl rfl ?_
    refine Jo_icmp_eq 38 dX5_newsOf_24 (by decide) rfl ?_ ?_
    · exact b_X5_newsOf_38 E k14 h14 s l0 l1 l2 l3
    · refine Jo_iloadn 2 dX5_newsOf_27 rfl rfl ?_
      refine Jo_aloadn 0 dX5_newsOf_28 rfl rfl ?_
      refine Jo_getR fF_5_10 fR_5_10 dX5_newsOf_29 w_185 (fun a3 => ?_)
      refine Jo_iloadn 3 dX5_newsOf_32 rfl rfl ?_
      refine Jo_iaload dX5_newsOf_33 (fun x4 => ?_)
      refine Jo_iconst (v := (-1 : Int32)) dX5_newsOf_34 (by decide) ?_
      refine Jo_ixor dX5_newsOf_35 ?_
      refine Jo_iand dX5_newsOf_36 ?_
      refine Jo_nm (fun x5 => ?_)
      refine Jo_istoren (ls' := [(2, .int x5), (0, .ref l0), (1, .int l1), (3, .int l3)]) dX5_newsOf_37 rfl (by decide) rfl ?_
      refine Jo_sub [1, 2, 0, 3] rfl ?_
      exact b_X5_newsOf_38 E k14 h14 s l0 l1 x5 l3
theorem e_X5_newsOf_14 (E : jE)  (n : Nat) : ∀ (s : hS) (l0 : Nat) (l1 : Int32) (l2 : Int32) (l3 : Int32) , Jo E M_X5_newsOf cvI 14 [(0, .ref l0), (1, .int l1), (2, .int l2), (3, .int l3)] [] s ((jL f_X5_newsOf_b14 (fun _ _ _ _ _ => none) n) l0 l1 l2 l3 s) :=
  jL_ind (P := fun f => ∀ (s : hS) (l0 : Nat) (l1 : Int32) (l2 : Int32) (l3 : Int32) , Jo E M_X5_newsOf cvI 14 [(0, .ref l0), (1, .int l1), (2, .int l2), (3, .int l3)] [] s (f l0 l1 l2 l3 s)) (fun _ _ _ _ _ => Jo_none) (fun b hb s l0 l1 l2 l3 => b_X5_newsOf_14 E  b hb s l0 l1 l2 l3) n
def f_X5_newsOf (s : hS) (a0 : Nat) (i1 : Int32) : Option (Int32 × hS) :=
  (cV s a0 5 (f_X5_freshFacts s a0)).bind fun p1 =>
  (gR p1.2 a0 5 10).bind fun a2 =>
  (aI p1.2 a2 10 i1).bind fun x3 =>
  nmv ((p1.1 &&& x3)) fun x4 =>
  jL f_X5_newsOf_b14 (fun _ _ _ _ _ => none) jF a0 i1 x4 (0 : Int32) p1.2
theorem b_X5_newsOf_in (E : jE)  (s : hS) (a0 : Nat) (i1 : Int32)  : Jo E M_X5_newsOf cvI 0 [(0, .ref a0), (1, .int i1)] [] s (f_X5_newsOf s a0 i1) := by
  unfold f_X5_newsOf
  refine Jo_aloadn 0 dX5_newsOf_0 rfl rfl ?_
  refine Jo_callVi (a := a0) (rest := []) [] cc_5 yF_X5_freshFacts yV_X5_freshFacts w_250 rfl rfl ⟨Nat.le_of_ble_eq_true rfl, Nat.le_of_ble_eq_true rfl, Nat.le_of_ble_eq_true rfl⟩ dX5_newsOf_1 rfl (K_X5_freshFacts E s a0) (fun p1 => ?_)
  refine Jo_aloadn 0 dX5_newsOf_4 rfl rfl ?_
  refine Jo_getR fF_5_10 fR_5_10 dX5_newsOf_5 w_185 (fun a2 => ?_)
  refine Jo_iloadn 1 dX5_newsOf_8 rfl rfl ?_
  refine Jo_iaload dX5_newsOf_9 (fun x3 => ?_)
  refine Jo_iand dX5_newsOf_10 ?_
  refine Jo_nm (fun x4 => ?_)
  refine Jo_istoren (ls' := [(2, .int x4), (0, .ref a0), (1, .int i1)]) dX5_newsOf_11 rfl (by decide) rfl ?_
  refine Jo_iconst (v := (0 : Int32)) dX5_newsOf_12 (by decide) ?_
  refine Jo_istoren (ls' := [(3, .int (0 : Int32)), (2, .int x4), (0, .ref a0), (1, .int i1)]) dX5_newsOf_13 rfl (by decide) rfl ?_
  refine Jo_sub [2, 3, 1, 0] rfl ?_
  exact e_X5_newsOf_14 E jF p1.2 a0 i1 x4 (0 : Int32)
theorem K_X5_newsOf (E : jE) (s : hS) (a0 : Nat) (i1 : Int32) : jK E yX5_newsOf M_X5_newsOf cvI [.ref a0, .int i1] s (f_X5_newsOf s a0 i1) := jK_of ⟨by decide, rfl, rfl⟩ (Nat.le_of_ble_eq_true rfl) (b_X5_newsOf_in E s a0 i1)
