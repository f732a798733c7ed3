/-! HeronTalk$Reader.endPiece()V -/
abbrev M_X0_endPiece : jM := (RX0, cX0_endPiece, 1, (none : Option Jvm.ClassFile.FieldType), "endPiece", 1, 21)
theorem yF_X0_endPiece : yF yX0_endPiece M_X0_endPiece 0 := ⟨w_73, w_32, by decide +kernel⟩
theorem yV_X0_endPiece : Cond.instanceMethod yX0_endPiece ∈ tbG ∧ Cond.selects yX0_endPiece.cls yX0_endPiece yX0_endPiece ∈ tbG := ⟨w_74, w_75⟩
theorem dX0_endPiece_0 : dI cX0_endPiece 0 1 (.aload_n 0) 1 := ⟨by decide +kernel, rfl⟩
theorem dX0_endPiece_1 : dI cX0_endPiece 1 2 (.iconst 0) 1 := ⟨by decide +kernel, rfl⟩
theorem dX0_endPiece_2 : dI cX0_endPiece 2 5 (.putfield 41) 3 := ⟨by decide +kernel, rfl⟩
theorem dX0_endPiece_5 : dI cX0_endPiece 5 6 (.aload_n 0) 1 := ⟨by decide +kernel, rfl⟩
theorem dX0_endPiece_6 : dI cX0_endPiece 6 9 (.getfield 29) 3 := ⟨by decide +kernel, rfl⟩
theorem dX0_endPiece_9 : decode cX0_endPiece 9 = .ok (.ifCond .le 48, 3) := by decide +kernel
theorem dX0_endPiece_12 : dI cX0_endPiece 12 13 (.aload_n 0) 1 := ⟨by decide +kernel, rfl⟩
theorem dX0_endPiece_13 : dI cX0_endPiece 13 16 (.getfield 22) 3 := ⟨by decide +kernel, rfl⟩
theorem dX0_endPiece_16 : dI cX0_endPiece 16 17 (.aload_n 0) 1 := ⟨by decide +kernel, rfl⟩
theorem dX0_endPiece_17 : dI cX0_endPiece 17 20 (.getfield 29) 3 := ⟨by decide +kernel, rfl⟩
theorem dX0_endPiece_20 : dI cX0_endPiece 20 21 (.iconst 1) 1 := ⟨by decide +kernel, rfl⟩
theorem dX0_endPiece_21 : dI cX0_endPiece 21 22 (.isub) 1 := ⟨by decide +kernel, rfl⟩
theorem dX0_endPiece_22 : dI cX0_endPiece 22 23 (.iaload) 1 := ⟨by decide +kernel, rfl⟩
theorem dX0_endPiece_23 : dI cX0_endPiece 23 25 (.bipush 33) 2 := ⟨by decide +kernel, rfl⟩
theorem dX0_endPiece_25 : decode cX0_endPiece 25 = .ok (.if_icmp .ne 32, 3) := by decide +kernel
theorem dX0_endPiece_28 : dI cX0_endPiece 28 29 (.aload_n 0) 1 := ⟨by decide +kernel, rfl⟩
theorem dX0_endPiece_29 : dI cX0_endPiece 29 30 (.dup) 1 := ⟨by decide +kernel, rfl⟩
theorem dX0_endPiece_30 : dI cX0_endPiece 30 33 (.getfield 29) 3 := ⟨by decide +kernel, rfl⟩
theorem dX0_endPiece_33 : dI cX0_endPiece 33 34 (.iconst 1) 1 := ⟨by decide +kernel, rfl⟩
theorem dX0_endPiece_34 : dI cX0_endPiece 34 35 (.isub) 1 := ⟨by decide +kernel, rfl⟩
theorem dX0_endPiece_35 : dI cX0_endPiece 35 38 (.putfield 29) 3 := ⟨by decide +kernel, rfl⟩
theorem dX0_endPiece_38 : dI cX0_endPiece 38 39 (.aload_n 0) 1 := ⟨by decide +kernel, rfl⟩
theorem dX0_endPiece_39 : dI cX0_endPiece 39 40 (.dup) 1 := ⟨by decide +kernel, rfl⟩
theorem dX0_endPiece_40 : dI cX0_endPiece 40 43 (.getfield 38) 3 := ⟨by decide +kernel, rfl⟩
theorem dX0_endPiece_43 : dI cX0_endPiece 43 44 (.iconst 1) 1 := ⟨by decide +kernel, rfl⟩
theorem dX0_endPiece_44 : dI cX0_endPiece 44 45 (.isub) 1 := ⟨by decide +kernel, rfl⟩
theorem dX0_endPiece_45 : dI cX0_endPiece 45 48 (.putfield 38) 3 := ⟨by decide +kernel, rfl⟩
theorem dX0_endPiece_48 : dI cX0_endPiece 48 49 (.aload_n 0) 1 := ⟨by decide +kernel, rfl⟩
theorem dX0_endPiece_49 : dI cX0_endPiece 49 51 (.bipush (-33)) 2 := ⟨by decide +kernel, rfl⟩
theorem dX0_endPiece_51 : decode cX0_endPiece 51 = .ok (.invokevirtual 119, 3) := by decide +kernel
theorem dX0_endPiece_54 : decode cX0_endPiece 54 = .ok (.goto (-49), 3) := by decide +kernel
theorem dX0_endPiece_57 : dI cX0_endPiece 57 58 (.return_) 1 := ⟨by decide +kernel, rfl⟩
def f_X0_endPiece_b5 (k5 : Nat → hS → Option (Unit × hS)) (l0 : Nat) (s : hS) : Option (Unit × hS) :=
  (gI s l0 0 4).bind fun x1 =>
  if x1 ≤ 0 then
    some ((), s)
  else
    (gR s l0 0 3).bind fun a2 =>
    (gI s l0 0 4).bind fun x3 =>
    (aI s a2 10 (x3 - (1 : Int32))).bind fun x4 =>
    if x4 = (33 : Int32) then
      (gI s l0 0 4).bind fun x5 =>
      (pI s l0 0 4 (x5 - (1 : Int32))).bind fun s6 =>
      (gI s6 l0 0 8).bind fun x7 =>
      (pI s6 l0 0 8 (x7 - (1 : Int32))).bind fun s8 =>
      (cV s8 l0 0 (f_X0_put s8 l0 (-33 : Int32))).bind fun p9 =>
      k5 l0 p9.2
    else
      some ((), s)
theorem b_X0_endPiece_5 (E : jE) (k5 : Nat → hS → Option (Unit × hS)) (h5 : ∀ (s : hS) (l0 : Nat) , Jo E M_X0_endPiece cvV 5 [(0, .ref l0)] [] s (k5 l0 s)) (s : hS) (l0 : Nat)  : Jo E M_X0_endPiece cvV 5 [(0, .ref l0)] [] s (f_X0_endPiece_b5 k5 l0 s) := by
  unfold f_X0_endPiece_b5
  refine Jo_aloadn 0 dX0_endPiece_5 rfl rfl ?_
  refine Jo_getI fF_0_4 fI_0_4 dX0_endPiece_6 w_71 (fun x1 => ?_)
  refine Jo_if_le 57 dX0_endPiece_9 (by decide) rfl ?_ ?_
  · exact Jo_vret rfl dX0_endPiece_57
  · refine Jo_aloadn 0 dX0_endPiece_12 rfl rfl ?_
    refine Jo_getR fF_0_3 fR_0_3 dX0_endPiece_13 w_23 (fun a2 => ?_)
    refine Jo_aloadn 0 dX0_endPiece_16 rfl rfl ?_
    refine Jo_getI fF_0_4 fI_0_4 dX0_endPiece_17 w_71 (fun x3 => ?_)
    refine Jo_iconst (v := (1 : Int32)) dX0_endPiece_20 (by decide) ?_
    refine Jo_isub dX0_endPiece_21 ?_
    refine Jo_iaload dX0_endPiece_22 (fun x4 => ?_)
    refine Jo_bipush (v := (33 : Int32)) dX0_endPiece_23 (by decide) ?_
    refine Jo_icmp_ne 57 dX0_endPiece_25 (by decide) rfl ?_ ?_
    · refine Jo_aloadn 0 dX0_endPiece_28 rfl rfl ?_
      refine Jo_dup dX0_endPiece_29 rfl ?_
      refine Jo_getI fF_0_4 fI_0_4 dX0_endPiece_30 w_71 (fun x5 => ?_)
      refine Jo_iconst (v := (1 : Int32)) dX0_endPiece_33 (by decide) ?_
      refine Jo_isub dX0_endPiece_34 ?_
      refine Jo_putI fF_0_4 fI_0_4 (Or.inl rfl) rfl dX0_endPiece_35 w_71 (fun s6 => ?_)
      refine Jo_aloadn 0 dX0_endPiece_38 rfl rfl ?_
      refine Jo_dup dX0_endPiece_39 rfl ?_
      refine Jo_getI fF_0_8 fI_0_8 dX0_endPiece_40 w_70 (fun x7 => ?_)
      refine Jo_iconst (v := (1 : Int32)) dX0_endPiece_43 (by decide) ?_
      refine Jo_isub dX0_endPiece_44 ?_
      refine Jo_putI fF_0_8 fI_0_8 (Or.inl rfl) rfl dX0_endPiece_45 w_70 (fun s8 => ?_)
      refine Jo_aloadn 0 dX0_endPiece_48 rfl rfl ?_
      refine Jo_bipush (v := (-33 : Int32)) dX0_endPiece_49 (by decide) ?_
      refine Jo_callVv (a := l0) (rest := []) [.int (-33 : Int32)] cc_0 yF_X0_put yV_X0_put w_69 rfl rfl ⟨Nat.le_of_ble_eq_true rfl, Nat.le_of_ble_eq_true rfl, Nat.le_of_ble_eq_true rfl⟩ dX0_endPiece_51 rfl (K_X0_put E s8 l0 (-33 : Int32)) (fun p9 => ?_)
      refine Jo_goto 5 dX0_endPiece_54 (by decide) ?_
      exact h5 p9.2 l0
    · exact Jo_vret rfl dX0_endPiece_57
theorem e_X0_endPiece_5 (E : jE)  (n : Nat) : ∀ (s : hS) (l0 : Nat) , Jo E M_X0_endPiece cvV 5 [(0, .ref l0)] [] s ((jL f_X0_endPiece_b5 (fun _ _ => none) n) l0 s) :=
  jL_ind (P := fun f => ∀ (s : hS) (l0 : Nat) , Jo E M_X0_endPiece cvV 5 [(0, .ref l0)] [] s (f l0 s)) (fun _ _ => Jo_none) (fun b hb s l0 => b_X0_endPiece_5 E  b hb s l0) n
def f_X0_endPiece (s : hS) (a0 : Nat) : Option (Unit × hS) :=
  (pZ s a0 0 9 (0 : Int32)).bind fun s1 =>
  jL f_X0_endPiece_b5 (fun _ _ => none) jF a0 s1
theorem b_X0_endPiece_in (E : jE)  (s : hS) (a0 : Nat)  : Jo E M_X0_endPiece cvV 0 [(0, .ref a0)] [] s (f_X0_endPiece s a0) := by
  unfold f_X0_endPiece
  refine Jo_aloadn 0 dX0_endPiece_0 rfl rfl ?_
  refine Jo_iconst (v := (0 : Int32)) dX0_endPiece_1 (by decide) ?_
  refine Jo_putZ fF_0_9 fI_0_9 (Or.inl rfl) rfl dX0_endPiece_2 w_72 (fun s1 => ?_)
  exact e_X0_endPiece_5 E jF s1 a0
theorem K_X0_endPiece (E : jE) (s : hS) (a0 : Nat) : jK E yX0_endPiece M_X0_endPiece cvV [.ref a0] s (f_X0_endPiece s a0) := jK_of ⟨by decide, rfl, rfl⟩ (Nat.le_of_ble_eq_true rfl) (b_X0_endPiece_in E s a0)
/-! HeronTalk$Reader.putLeaf(I)V -/
abbrev M_X0_putLeaf : jM := (RX0, cX0_putLeaf, 2, (none : Option Jvm.ClassFile.FieldType), "putLeaf", 2, 41)
theorem yF_X0_putLeaf : yF yX0_putLeaf M_X0_putLeaf 1 := ⟨w_78, w_32, by decide +kernel⟩
theorem yV_X0_putLeaf : Cond.instanceMethod yX0_putLeaf ∈ tbG ∧ Cond.selects yX0_putLeaf.cls yX0_putLeaf yX0_putLeaf ∈ tbG := ⟨w_79, w_80⟩
theorem dX0_putLeaf_0 : dI cX0_putLeaf 0 1 (.aload_n 0) 1 := ⟨by decide +kernel, rfl⟩
theorem dX0_putLeaf_1 : dI cX0_putLeaf 1 2 (.dup) 1 := ⟨by decide +kernel, rfl⟩
theorem dX0_putLeaf_2 : dI cX0_putLeaf 2 5 (.getfield 32) 3 := ⟨by decide +kernel, rfl⟩
theorem dX0_putLeaf_5 : dI cX0_putLeaf 5 6 (.iconst 1) 1 := ⟨by decide +kernel, rfl⟩
theorem dX0_putLeaf_6 : dI cX0_putLeaf 6 7 (.iadd) 1 := ⟨by decide +kernel, rfl⟩
theorem dX0_putLeaf_7 : dI cX0_putLeaf 7 10 (.putfield 32) 3 := ⟨by decide +kernel, rfl⟩
theorem dX0_putLeaf_10 : dI cX0_putLeaf 10 11 (.aload_n 0) 1 := ⟨by decide +kernel, rfl⟩
theorem dX0_putLeaf_11 : dI cX0_putLeaf 11 12 (.iload_n 1) 1 := ⟨by decide +kernel, rfl⟩
theorem dX0_putLeaf_12 : decode cX0_putLeaf 12 = .ok (.invokevirtual 119, 3) := by decide +kernel
theorem dX0_putLeaf_15 : dI cX0_putLeaf 15 16 (.aload_n 0) 1 := ⟨by decide +kernel, rfl⟩
theorem dX0_putLeaf_16 : decode cX0_putLeaf 16 = .ok (.invokevirtual 109, 3) := by decide +kernel
theorem dX0_putLeaf_19 : dI cX0_putLeaf 19 20 (.return_) 1 := ⟨by decide +kernel, rfl⟩
def f_X0_putLeaf (s : hS) (a0 : Nat) (i1 : Int32) : Option (Unit × hS) :=
  (gI s a0 0 6).bind fun x1 =>
  (pI s a0 0 6 (x1 + (1 : Int32))).bind fun s2 =>
  (cV s2 a0 0 (f_X0_put s2 a0 i1)).bind fun p3 =>
  (cV p3.2 a0 0 (f_X0_endPiece p3.2 a0)).bind fun p4 =>
  some ((), p4.2)
theorem b_X0_putLeaf_in (E : jE)  (s : hS) (a0 : Nat) (i1 : Int32)  : Jo E M_X0_putLeaf cvV 0 [(0, .ref a0), (1, .int i1)] [] s (f_X0_putLeaf s a0 i1) := by
  unfold f_X0_putLeaf
  refine Jo_aloadn 0 dX0_putLeaf_0 rfl rfl ?_
  refine Jo_dup dX0_putLeaf_1 rfl ?_
  refine Jo_getI fF_0_6 fI_0_6 dX0_putLeaf_2 w_77 (fun x1 => ?_)
  refine Jo_iconst (v := (1 : Int32)) dX0_putLeaf_5 (by decide) ?_
  refine Jo_iadd dX0_putLeaf_6 ?_
  refine Jo_putI fF_0_6 fI_0_6 (Or.inl rfl) rfl dX0_putLeaf_7 w_77 (fun s2 => ?_)
  refine Jo_aloadn 0 dX0_putLeaf_10 rfl rfl ?_
  refine Jo_iloadn 1 dX0_putLeaf_11 rfl rfl ?_
  refine Jo_callVv (a := a0) (rest := []) [.int i1] cc_0 yF_X0_put yV_X0_put w_69 rfl rfl ⟨Nat.le_of_ble_eq_true rfl, Nat.le_of_ble_eq_true rfl, Nat.le_of_ble_eq_true rfl⟩ dX0_putLeaf_12 rfl (K_X0_put E s2 a0 i1) (fun p3 => ?_)
  refine Jo_aloadn 0 dX0_putLeaf_15 rfl rfl ?_
  refine Jo_callVv (a := a0) (rest := []) [] cc_0 yF_X0_endPiece yV_X0_endPiece w_76 rfl rfl ⟨Nat.le_of_ble_eq_true rfl, Nat.le_of_ble_eq_true rfl, Nat.le_of_ble_eq_true rfl⟩ dX0_putLeaf_16 rfl (K_X0_endPiece E p3.2 a0) (fun p4 => ?_)
  exact Jo_vret rfl dX0_putLeaf_19
theorem K_X0_putLeaf (E : jE) (s : hS) (a0 : Nat) (i1 : Int32) : jK E yX0_putLeaf M_X0_putLeaf cvV [.ref a0, .int i1] s (f_X0_putLeaf s a0 i1) := jK_of ⟨by decide, rfl, rfl⟩ (Nat.le_of_ble_eq_true rfl) (b_X0_putLeaf_in E s a0 i1)
/-! HeronTalk$Reader.nameOf(I)I -/
abbrev M_X0_nameOf : jM := (RX0, cX0_nameOf, 2, (some .int), "nameOf", 0, 0)
theorem yF_X0_nameOf : yF yX0_nameOf M_X0_nameOf 1 := ⟨w_82, w_32, by decide +kernel⟩
theorem yV_X0_nameOf : Cond.instanceMethod yX0_nameOf ∈ tbG ∧ Cond.selects yX0_nameOf.cls yX0_nameOf yX0_nameOf ∈ tbG := ⟨w_83, w_84⟩
theorem dX0_nameOf_0 : dI cX0_nameOf 0 1 (.iload_n 1) 1 := ⟨by decide +kernel, rfl⟩
theorem dX0_nameOf_1 : decode cX0_nameOf 1 = .ok (.lookupswitch 123 #[(104, 108), (107, 65), (110, 80), (115, 94), (119, 51)], 51) := by decide +kernel
theorem dX0_nameOf_52 : dI cX0_nameOf 52 53 (.aload_n 0) 1 := ⟨by decide +kernel, rfl⟩
theorem dX0_nameOf_53 : dI cX0_nameOf 53 56 (.getfield 56) 3 := ⟨by decide +kernel, rfl⟩
theorem dX0_nameOf_56 : dI cX0_nameOf 56 57 (.iconst 2) 1 := ⟨by decide +kernel, rfl⟩
theorem dX0_nameOf_57 : decode cX0_nameOf 57 = .ok (.if_icmp .ne 7, 3) := by decide +kernel
theorem dX0_nameOf_60 : dI cX0_nameOf 60 61 (.iconst 0) 1 := ⟨by decide +kernel, rfl⟩
theorem dX0_nameOf_61 : decode cX0_nameOf 61 = .ok (.goto 4, 3) := by decide +kernel
theorem dX0_nameOf_64 : dI cX0_nameOf 64 65 (.iconst (-1)) 1 := ⟨by decide +kernel, rfl⟩
theorem dX0_nameOf_65 : dI cX0_nameOf 65 66 (.ireturn) 1 := ⟨by decide +kernel, rfl⟩
theorem dX0_nameOf_66 : dI cX0_nameOf 66 67 (.aload_n 0) 1 := ⟨by decide +kernel, rfl⟩
theorem dX0_nameOf_67 : dI cX0_nameOf 67 70 (.getfield 56) 3 := ⟨by decide +kernel, rfl⟩
theorem dX0_nameOf_70 : dI cX0_nameOf 70 71 (.iconst 2) 1 := ⟨by decide +kernel, rfl⟩
theorem dX0_nameOf_71 : decode cX0_nameOf 71 = .ok (.if_icmp .ne 7, 3) := by decide +kernel
theorem dX0_nameOf_74 : dI cX0_nameOf 74 75 (.iconst 0) 1 := ⟨by decide +kernel, rfl⟩
theorem dX0_nameOf_75 : decode cX0_nameOf 75 = .ok (.goto 5, 3) := by decide +kernel
theorem dX0_nameOf_78 : dI cX0_nameOf 78 80 (.bipush (-3)) 2 := ⟨by decide +kernel, rfl⟩
theorem dX0_nameOf_80 : dI cX0_nameOf 80 81 (.ireturn) 1 := ⟨by decide +kernel, rfl⟩
theorem dX0_nameOf_81 : dI cX0_nameOf 81 82 (.aload_n 0) 1 := ⟨by decide +kernel, rfl⟩
theorem dX0_nameOf_82 : dI cX0_nameOf 82 85 (.getfield 56) 3 := ⟨by decide +kernel, rfl⟩
theorem dX0_nameOf_85 : decode cX0_nameOf 85 = .ok (.ifCond .ne 8, 3) := by decide +kernel
theorem dX0_nameOf_88 : dI cX0_nameOf 88 90 (.bipush (-2)) 2 := ⟨by decide +kernel, rfl⟩
theorem dX0_nameOf_90 : decode cX0_nameOf 90 = .ok (.goto 4, 3) := by decide +kernel
theorem dX0_nameOf_93 : dI cX0_nameOf 93 94 (.iconst 0) 1 := ⟨by decide +kernel, rfl⟩
theorem dX0_nameOf_94 : dI cX0_nameOf 94 95 (.ireturn) 1 := ⟨by decide +kernel, rfl⟩
theorem dX0_nameOf_95 : dI cX0_nameOf 95 96 (.aload_n 0) 1 := ⟨by decide +kernel, rfl⟩
theorem dX0_nameOf_96 : dI cX0_nameOf 96 99 (.getfield 56) 3 := ⟨by decide +kernel, rfl⟩
theorem dX0_nameOf_99 : dI cX0_nameOf 99 100 (.iconst 2) 1 := ⟨by decide +kernel, rfl⟩
theorem dX0_nameOf_100 : decode cX0_nameOf 100 = .ok (.if_icmp .ne 7, 3) := by decide +kernel
theorem dX0_nameOf_103 : dI cX0_nameOf 103 104 (.iconst (-1)) 1 := ⟨by decide +kernel, rfl⟩
theorem dX0_nameOf_104 : decode cX0_nameOf 104 = .ok (.goto 4, 3) := by decide +kernel
theorem dX0_nameOf_107 : dI cX0_nameOf 107 108 (.iconst 0) 1 := ⟨by decide +kernel, rfl⟩
theorem dX0_nameOf_108 : dI cX0_nameOf 108 109 (.ireturn) 1 := ⟨by decide +kernel, rfl⟩
theorem dX0_nameOf_109 : dI cX0_nameOf 109 110 (.aload_n 0) 1 := ⟨by decide +kernel, rfl⟩
theorem dX0_nameOf_110 : dI cX0_nameOf 110 113 (.getfield 56) 3 := ⟨by decide +kernel, rfl⟩
theorem dX0_nameOf_113 : dI cX0_nameOf 113 114 (.iconst 2) 1 := ⟨by decide +kernel, rfl⟩
theorem dX0_nameOf_114 : decode cX0_nameOf 114 = .ok (.if_icmp .ne 8, 3) := by decide +kernel
theorem dX0_nameOf_117 : dI cX0_nameOf 117 119 (.bipush (-2)) 2 := ⟨by decide +kernel, rfl⟩
theorem dX0_nameOf_119 : decode cX0_nameOf 119 = .ok (.goto 4, 3) := by decide +kernel
theorem dX0_nameOf_122 : dI cX0_nameOf 122 123 (.iconst 0) 1 := ⟨by decide +kernel, rfl⟩
theorem dX0_nameOf_123 : dI cX0_nameOf 123 124 (.ireturn) 1 := ⟨by decide +kernel, rfl⟩
theorem dX0_nameOf_124 : dI cX0_nameOf 124 125 (.iconst 0) 1 := ⟨by decide +kernel, rfl⟩
theorem dX0_nameOf_125 : dI cX0_nameOf 125 126 (.ireturn) 1 := ⟨by decide +kernel, rfl⟩
def f_X0_nameOf (s : hS) (a0 : Nat) (i1 : Int32) : Option (Int32 × hS) :=
  if i1 = (104 : Int32) then
    (gI s a0 0 5).bind fun x2 =>
    if x2 = (2 : Int32) then
      some ((-2 : Int32), s)
    else
      some ((0 : Int32), s)
  else
  if i1 = (107 : Int32) then
    (gI s a0 0 5).bind fun x4 =>
    if x4 = (2 : Int32) then
      some ((0 : Int32), s)
    else
      some ((-3 : Int32), s)
  else
  if i1 = (110 : Int32) then
    (gI s a0 0 5).bind fun x6 =>
    if x6 = 0 then
      some ((-2 : Int32), s)
    else
      some ((0 : Int32), s)
  else
  if i1 = (115 : Int32) then
    (gI s a0 0 5).bind fun x8 =>
    if x8 = (2 : Int32) then
      some ((-1 : Int32), s)
    else
      some ((0 : Int32), s)
  else
  if i1 = (119 : Int32) then
    (gI s a0 0 5).bind fun x10 =>
    if x10 = (2 : Int32) then
      some ((0 : Int32), s)
    else
      some ((-1 : Int32), s)
  else
  some ((0 : Int32), s)
theorem b_X0_nameOf_in (E : jE)  (s : hS) (a0 : Nat) (i1 : Int32)  : Jo E M_X0_nameOf cvI 0 [(0, .ref a0), (1, .int i1)] [] s (f_X0_nameOf s a0 i1) := by
  unfold f_X0_nameOf
  refine Jo_iloadn 1 dX0_nameOf_0 rfl rfl ?_
  refine Jo_case ?_ (fun g1 => ?_)
  · refine Jo_look (off := 108) 109 dX0_nameOf_1 (by decide) (by decide) (by decide) ?_
    refine Jo_aloadn 0 dX0_nameOf_109 rfl rfl ?_
    refine Jo_getI fF_0_5 fI_0_5 dX0_nameOf_110 w_81 (fun x2 => ?_)
    refine Jo_iconst (v := (2 : Int32)) dX0_nameOf_113 (by decide) ?_
    refine Jo_icmp_ne 122 dX0_nameOf_114 (by decide) rfl ?_ ?_
    · refine Jo_bipush (v := (-2 : Int32)) dX0_nameOf_117 (by decide) ?_
      refine Jo_goto 123 dX0_nameOf_119 (by decide) ?_
      exact Jo_iret rfl dX0_nameOf_123
    · refine Jo_iconst (v := (0 : Int32)) dX0_nameOf_122 (by decide) ?_
      exact Jo_iret rfl dX0_nameOf_123
  refine Jo_case ?_ (fun g3 => ?_)
  · refine Jo_look (off := 65) 66 dX0_nameOf_1 (by decide) (by decide) (by decide) ?_
    refine Jo_aloadn 0 dX0_nameOf_66 rfl rfl ?_
    refine Jo_getI fF_0_5 fI_0_5 dX0_nameOf_67 w_81 (fun x4 => ?_)
    refine Jo_iconst (v := (2 : Int32)) dX0_nameOf_70 (by decide) ?_
    refine Jo_icmp_ne 78 dX0_nameOf_71 (by decide) rfl ?_ ?_
    · refine Jo_iconst (v := (0 : Int32)) dX0_nameOf_74 (by decide) ?_
      refine Jo_goto 80 dX0_nameOf_75 (by decide) ?_
      exact Jo_iret rfl dX0_nameOf_80
    · refine Jo_bipush (v := (-3 : Int32)) dX0_nameOf_78 (by decide) ?_
      exact Jo_iret rfl dX0_nameOf_80
  refine Jo_case ?_ (fun g5 => ?_)
  · refine Jo_look (off := 80) 81 dX0_nameOf_1 (by decide) (by decide) (by decide) ?_
    refine Jo_aloadn 0 dX0_nameOf_81 rfl rfl ?_
    refine Jo_getI fF_0_5 fI_0_5 dX0_nameOf_82 w_81 (fun x6 => ?_)
    refine Jo_if_ne 93 dX0_nameOf_85 (by decide) rfl ?_ ?_
    · refine Jo_bipush (v := (-2 : Int32)) dX0_nameOf_88 (by decide) ?_
      refine Jo_goto 94 dX0_nameOf_90 (by decide) ?_
      exact Jo_iret rfl dX0_nameOf_94
    · refine Jo_iconst (v := (0 : Int32)) dX0_nameOf_93 (by decide) ?_
      exact Jo_iret rfl dX0_nameOf_94
  refine Jo_case ?_ (fun g7 => ?_)
  · refine Jo_look (off := 94) 95 dX0_nameOf_1 (by decide) (by decide) (by decide) ?_
    refine Jo_aloadn 0 dX0_nameOf_95 rfl rfl ?_
    refine Jo_getI fF_0_5 fI_0_5 dX0_nameOf_96 w_81 (fun x8 => ?_)
    refine Jo_iconst (v := (2 : Int32)) dX0_nameOf_99 (by decide) ?_
    refine Jo_icmp_ne 107 dX0_nameOf_100 (by decide) rfl ?_ ?_
    · refine Jo_iconst (v := (-1 : Int32)) dX0_nameOf_103 (by decide) ?_
      refine Jo_goto 108 dX0_nameOf_104 (by decide) ?_
      exact Jo_iret rfl dX0_nameOf_108
    · refine Jo_iconst (v := (0 : Int32)) dX0_nameOf_107 (by decide) ?_
      exact Jo_iret rfl dX0_nameOf_108
  refine Jo_case ?_ (fun g9 => ?_)
  · refine Jo_look (off := 51) 52 dX0_nameOf_1 (by decide) (by decide) (by decide) ?_
    refine Jo_aloadn 0 dX0_nameOf_52 rfl rfl ?_
    refine Jo_getI fF_0_5 fI_0_5 dX0_nameOf_53 w_81 (fun x10 => ?_)
    refine Jo_iconst (v := (2 : Int32)) dX0_nameOf_56 (by decide) ?_
    refine Jo_icmp_ne 64 dX0_nameOf_57 (by decide) rfl ?_ ?_
    · refine Jo_iconst (v := (0 : Int32)) dX0_nameOf_60 (by decide) ?_
      refine Jo_goto 65 dX0_nameOf_61 (by decide) ?_
      exact Jo_iret rfl dX0_nameOf_65
    · refine Jo_iconst (v := (-1 : Int32)) dX0_nameOf_64 (by decide) ?_
      exact Jo_iret rfl dX0_nameOf_65
  refine Jo_look (off := 123) 124 dX0_nameOf_1 (by decide) (by have qg1 := i32ne 104 (by decide) g1; have qg3 := i32ne 107 (by decide) g3; have qg5 := i32ne 110 (by decide) g5; have qg7 := i32ne 115 (by decide) g7; have qg9 := i32ne 119 (by decide) g9; simp [Op.lookupswitch.offset_cons, Op.lookupswitch.offset_nil, Ne.symm qg1, Ne.symm qg3, Ne.symm qg5, Ne.symm qg7, Ne.symm qg9]) (by decide) ?_
  refine Jo_iconst (v := (0 : Int32)) dX0_nameOf_124 (by decide) ?_
  exact Jo_iret rfl dX0_nameOf_125
theorem K_X0_nameOf (E : jE) (s : hS) (a0 : Nat) (i1 : Int32) : jK E yX0_nameOf M_X0_nameOf cvI [.ref a0, .int i1] s (f_X0_nameOf s a0 i1) := jK_of ⟨by decide, rfl, rfl⟩ (Nat.le_of_ble_eq_true rfl) (b_X0_nameOf_in E s a0 i1)
/-! HeronTalk$Reader.pileUp(I)V -/
abbrev M_X0_pileUp : jM := (RX0, cX0_pileUp, 2, (none : Option Jvm.ClassFile.FieldType), "pileUp", 0, 0)
theorem yF_X0_pileUp : yF yX0_pileUp M_X0_pileUp 1 := ⟨w_85, w_32, by decide +kernel⟩
theorem yV_X0_pileUp : Cond.instanceMethod yX0_pileUp ∈ tbG ∧ Cond.selects yX0_pileUp.cls yX0_pileUp yX0_pileUp ∈ tbG := ⟨w_86, w_87⟩
theorem dX0_pileUp_0 : dI cX0_pileUp 0 1 (.aload_n 0) 1 := ⟨by decide +kernel, rfl⟩
theorem dX0_pileUp_1 : dI cX0_pileUp 1 4 (.getfield 29) 3 := ⟨by decide +kernel, rfl⟩
theorem dX0_pileUp_4 : dI cX0_pileUp 4 5 (.aload_n 0) 1 := ⟨by decide +kernel, rfl⟩
theorem dX0_pileUp_5 : dI cX0_pileUp 5 8 (.getfield 22) 3 := ⟨by decide +kernel, rfl⟩
theorem dX0_pileUp_8 : dI cX0_pileUp 8 9 (.arraylength) 1 := ⟨by decide +kernel, rfl⟩
theorem dX0_pileUp_9 : decode cX0_pileUp 9 = .ok (.if_icmp .ge 23, 3) := by decide +kernel
theorem dX0_pileUp_12 : dI cX0_pileUp 12 13 (.aload_n 0) 1 := ⟨by decide +kernel, rfl⟩
theorem dX0_pileUp_13 : dI cX0_pileUp 13 16 (.getfield 22) 3 := ⟨by decide +kernel, rfl⟩
theorem dX0_pileUp_16 : dI cX0_pileUp 16 17 (.aload_n 0) 1 := ⟨by decide +kernel, rfl⟩
theorem dX0_pileUp_17 : dI cX0_pileUp 17 20 (.getfield 29) 3 := ⟨by decide +kernel, rfl⟩
theorem dX0_pileUp_20 : dI cX0_pileUp 20 21 (.iload_n 1) 1 := ⟨by decide +kernel, rfl⟩
theorem dX0_pileUp_21 : dI cX0_pileUp 21 22 (.iastore) 1 := ⟨by decide +kernel, rfl⟩
theorem dX0_pileUp_22 : dI cX0_pileUp 22 23 (.aload_n 0) 1 := ⟨by decide +kernel, rfl⟩
theorem dX0_pileUp_23 : dI cX0_pileUp 23 24 (.dup) 1 := ⟨by decide +kernel, rfl⟩
theorem dX0_pileUp_24 : dI cX0_pileUp 24 27 (.getfield 29) 3 := ⟨by decide +kernel, rfl⟩
theorem dX0_pileUp_27 : dI cX0_pileUp 27 28 (.iconst 1) 1 := ⟨by decide +kernel, rfl⟩
theorem dX0_pileUp_28 : dI cX0_pileUp 28 29 (.iadd) 1 := ⟨by decide +kernel, rfl⟩
theorem dX0_pileUp_29 : dI cX0_pileUp 29 32 (.putfield 29) 3 := ⟨by decide +kernel, rfl⟩
theorem dX0_pileUp_32 : dI cX0_pileUp 32 33 (.return_) 1 := ⟨by decide +kernel, rfl⟩
def f_X0_pileUp (s : hS) (a0 : Nat) (i1 : Int32) : Option (Unit × hS) :=
  (gI s a0 0 4).bind fun x1 =>
  (gR s a0 0 3).bind fun a2 =>
  (aL s a2 10).bind fun x3 =>
  if x3 ≤ x1 then
    some ((), s)
  else
    (gR s a0 0 3).bind fun a4 =>
    (gI s a0 0 4).bind fun x5 =>
    (sI s a4 10 x5 i1).bind fun s6 =>
    (gI s6 a0 0 4).bind fun x7 =>
    (pI s6 a0 0 4 (x7 + (1 : Int32))).bind fun s8 =>
    some ((), s8)
theorem b_X0_pileUp_in (E : jE)  (s : hS) (a0 : Nat) (i1 : Int32)  : Jo E M_X0_pileUp cvV 0 [(0, .ref a0), (1, .int i1)] [] s (f_X0_pileUp s a0 i1) := by
  unfold f_X0_pileUp
  refine Jo_aloadn 0 dX0_pileUp_0 rfl rfl ?_
  refine Jo_getI fF_0_4 fI_0_4 dX0_pileUp_1 w_71 (fun x1 => ?_)
  refine Jo_aloadn 0 dX0_pileUp_4 rfl rfl ?_
  refine Jo_getR fF_0_3 fR_0_3 dX0_pileUp_5 w_23 (fun a2 => ?_)
  refine Jo_alen hti_10 dX0_pileUp_8 (fun x3 => ?_)
  refine Jo_icmp_ge 32 dX0_pileUp_9 (by decide) rfl ?_ ?_
  · exact Jo_vret rfl dX0_pileUp_32
  · refine Jo_aloadn 0 dX0_pileUp_12 rfl rfl ?_
    refine Jo_getR fF_0_3 fR_0_3 dX0_pileUp_13 w_23 (fun a4 => ?_)
    refine Jo_aloadn 0 dX0_pileUp_16 rfl rfl ?_
    refine Jo_getI fF_0_4 fI_0_4 dX0_pileUp_17 w_71 (fun x5 => ?_)
    refine Jo_iloadn 1 dX0_pileUp_20 rfl rfl ?_
    refine Jo_iastore dX0_pileUp_21 (fun s6 => ?_)
    refine Jo_aloadn 0 dX0_pileUp_22 rfl rfl ?_
    refine Jo_dup dX0_pileUp_23 rfl ?_
    refine Jo_getI fF_0_4 fI_0_4 dX0_pileUp_24 w_71 (fun x7 => ?_)
    refine Jo_iconst (v := (1 : Int32)) dX0_pileUp_27 (by decide) ?_
    refine Jo_iadd dX0_pileUp_28 ?_
    refine Jo_putI fF_0_4 fI_0_4 (Or.inl rfl) rfl dX0_pileUp_29 w_71 (fun s8 => ?_)
    exact Jo_vret rfl dX0_pileUp_32
theorem K_X0_pileUp (E : jE) (s : hS) (a0 : Nat) (i1 : Int32) : jK E yX0_pileUp M_X0_pileUp cvV [.ref a0, .int i1] s (f_X0_pileUp s a0 i1) := jK_of ⟨by decide, rfl, rfl⟩ (Nat.le_of_ble_eq_true rfl) (b_X0_pileUp_in E s a0 i1)
/-! HeronTalk$Reader.takePiece(I)I -/
abbrev M_X0_takePiece : jM := (RX0, cX0_takePiece, 4, (some .int), "takePiece", 3, 64)
theorem yF_X0_takePiece : yF yX0_takePiece M_X0_takePiece 1 := ⟨w_97, w_32, by decide +kernel⟩
theorem yV_X0_takePiece : Cond.instanceMethod yX0_takePiece ∈ tbG ∧ Cond.selects yX0_takePiece.cls yX0_takePiece yX0_takePiece ∈ tbG := ⟨w_98, w_99⟩
theorem dX0_takePiece_0 : dI cX0_takePiece 0 1 (.aload_n 0) 1 := ⟨by decide +kernel, rfl⟩
theorem dX0_takePiece_1 : dI cX0_takePiece 1 4 (.getfield 12) 3 := ⟨by decide +kernel, rfl⟩
theorem dX0_takePiece_4 : dI cX0_takePiece 4 5 (.iload_n 1) 1 := ⟨by decide +kernel, rfl⟩
theorem dX0_takePiece_5 : decode cX0_takePiece 5 = .ok (.invokevirtual 49, 3) := by decide +kernel
theorem dX0_takePiece_8 : dI cX0_takePiece 8 9 (.istore_n 2) 1 := ⟨by decide +kernel, rfl⟩
theorem dX0_takePiece_9 : dI cX0_takePiece 9 10 (.aload_n 0) 1 := ⟨by decide +kernel, rfl⟩
theorem dX0_takePiece_10 : dI cX0_takePiece 10 13 (.getfield 12) 3 := ⟨by decide +kernel, rfl⟩
theorem dX0_takePiece_13 : dI cX0_takePiece 13 14 (.iload_n 1) 1 := ⟨by decide +kernel, rfl⟩
theorem dX0_takePiece_14 : decode cX0_takePiece 14 = .ok (.invokevirtual 91, 3) := by decide +kernel
theorem dX0_takePiece_17 : dI cX0_takePiece 17 18 (.istore_n 3) 1 := ⟨by decide +kernel, rfl⟩
theorem dX0_takePiece_18 : dI cX0_takePiece 18 19 (.aload_n 0) 1 := ⟨by decide +kernel, rfl⟩
theorem dX0_takePiece_19 : dI cX0_takePiece 19 22 (.getfield 12) 3 := ⟨by decide +kernel, rfl⟩
theorem dX0_takePiece_22 : dI cX0_takePiece 22 23 (.iload_n 1) 1 := ⟨by decide +kernel, rfl⟩
theorem dX0_takePiece_23 : decode cX0_takePiece 23 = .ok (.invokevirtual 59, 3) := by decide +kernel
theorem dX0_takePiece_26 : decode cX0_takePiece 26 = .ok (.ifCond .eq 28, 3) := by decide +kernel
theorem dX0_takePiece_29 : dI cX0_takePiece 29 30 (.iload_n 2) 1 := ⟨by decide +kernel, rfl⟩
theorem dX0_takePiece_30 : dI cX0_takePiece 30 31 (.iload_n 1) 1 := ⟨by decide +kernel, rfl⟩
theorem dX0_takePiece_31 : dI cX0_takePiece 31 32 (.isub) 1 := ⟨by decide +kernel, rfl⟩
theorem dX0_takePiece_32 : dI cX0_takePiece 32 33 (.iconst 4) 1 := ⟨by decide +kernel, rfl⟩
theorem dX0_takePiece_33 : decode cX0_takePiece 33 = .ok (.if_icmp .le 5, 3) := by decide +kernel
theorem dX0_takePiece_36 : dI cX0_takePiece 36 37 (.iconst (-1)) 1 := ⟨by decide +kernel, rfl⟩
theorem dX0_takePiece_37 : dI cX0_takePiece 37 38 (.ireturn) 1 := ⟨by decide +kernel, rfl⟩
theorem dX0_takePiece_38 : dI cX0_takePiece 38 39 (.aload_n 0) 1 := ⟨by decide +kernel, rfl⟩
theorem dX0_takePiece_39 : dI cX0_takePiece 39 40 (.aload_n 0) 1 := ⟨by decide +kernel, rfl⟩
theorem dX0_takePiece_40 : dI cX0_takePiece 40 43 (.getfield 12) 3 := ⟨by decide +kernel, rfl⟩
theorem dX0_takePiece_43 : dI cX0_takePiece 43 44 (.iload_n 1) 1 := ⟨by decide +kernel, rfl⟩
theorem dX0_takePiece_44 : dI cX0_takePiece 44 45 (.iload_n 2) 1 := ⟨by decide +kernel, rfl⟩
theorem dX0_takePiece_45 : decode cX0_takePiece 45 = .ok (.invokevirtual 94, 3) := by decide +kernel
theorem dX0_takePiece_48 : decode cX0_takePiece 48 = .ok (.invokevirtual 97, 3) := by decide +kernel
theorem dX0_takePiece_51 : decode cX0_takePiece 51 = .ok (.goto 111, 3) := by decide +kernel
theorem dX0_takePiece_54 : dI cX0_takePiece 54 55 (.aload_n 0) 1 := ⟨by decide +kernel, rfl⟩
theorem dX0_takePiece_55 : dI cX0_takePiece 55 58 (.getfield 12) 3 := ⟨by decide +kernel, rfl⟩
theorem dX0_takePiece_58 : dI cX0_takePiece 58 59 (.iload_n 1) 1 := ⟨by decide +kernel, rfl⟩
theorem dX0_takePiece_59 : decode cX0_takePiece 59 = .ok (.invokevirtual 100, 3) := by decide +kernel
theorem dX0_takePiece_62 : decode cX0_takePiece 62 = .ok (.ifCond .eq 32, 3) := by decide +kernel
theorem dX0_takePiece_65 : dI cX0_takePiece 65 66 (.iload_n 2) 1 := ⟨by decide +kernel, rfl⟩
theorem dX0_takePiece_66 : dI cX0_takePiece 66 67 (.iload_n 1) 1 := ⟨by decide +kernel, rfl⟩
theorem dX0_takePiece_67 : dI cX0_takePiece 67 68 (.isub) 1 := ⟨by decide +kernel, rfl⟩
theorem dX0_takePiece_68 : dI cX0_takePiece 68 69 (.iconst 1) 1 := ⟨by decide +kernel, rfl⟩
theorem dX0_takePiece_69 : decode cX0_takePiece 69 = .ok (.if_icmp .gt 11, 3) := by decide +kernel
theorem dX0_takePiece_72 : dI cX0_takePiece 72 73 (.aload_n 0) 1 := ⟨by decide +kernel, rfl⟩
theorem dX0_takePiece_73 : dI cX0_takePiece 73 74 (.iload_n 3) 1 := ⟨by decide +kernel, rfl⟩
theorem dX0_takePiece_74 : decode cX0_takePiece 74 = .ok (.invokevirtual 103, 3) := by decide +kernel
theorem dX0_takePiece_77 : decode cX0_takePiece 77 = .ok (.ifCond .ne 5, 3) := by decide +kernel
theorem dX0_takePiece_80 : dI cX0_takePiece 80 81 (.iconst (-1)) 1 := ⟨by decide +kernel, rfl⟩
theorem dX0_takePiece_81 : dI cX0_takePiece 81 82 (.ireturn) 1 := ⟨by decide +kernel, rfl⟩
theorem dX0_takePiece_82 : dI cX0_takePiece 82 83 (.aload_n 0) 1 := ⟨by decide +kernel, rfl⟩
theorem dX0_takePiece_83 : dI cX0_takePiece 83 84 (.aload_n 0) 1 := ⟨by decide +kernel, rfl⟩
theorem dX0_takePiece_84 : dI cX0_takePiece 84 85 (.iload_n 3) 1 := ⟨by decide +kernel, rfl⟩
theorem dX0_takePiece_85 : decode cX0_takePiece 85 = .ok (.invokevirtual 103, 3) := by decide +kernel
theorem dX0_takePiece_88 : decode cX0_takePiece 88 = .ok (.invokevirtual 97, 3) := by decide +kernel
theorem dX0_takePiece_91 : decode cX0_takePiece 91 = .ok (.goto 71, 3) := by decide +kernel
theorem dX0_takePiece_94 : dI cX0_takePiece 94 95 (.iload_n 3) 1 := ⟨by decide +kernel, rfl⟩
theorem dX0_takePiece_95 : dI cX0_takePiece 95 97 (.bipush 33) 2 := ⟨by decide +kernel, rfl⟩
theorem dX0_takePiece_97 : decode cX0_takePiece 97 = .ok (.if_icmp .ne 30, 3) := by decide +kernel
theorem dX0_takePiece_100 : dI cX0_takePiece 100 101 (.aload_n 0) 1 := ⟨by decide +kernel, rfl⟩
theorem dX0_takePiece_101 : dI cX0_takePiece 101 104 (.getfield 38) 3 := ⟨by decide +kernel, rfl⟩
theorem dX0_takePiece_104 : dI cX0_takePiece 104 106 (.bipush 8) 2 := ⟨by decide +kernel, rfl⟩
theorem dX0_takePiece_106 : decode cX0_takePiece 106 = .ok (.if_icmp .ge 21, 3) := by decide +kernel
theorem dX0_takePiece_109 : dI cX0_takePiece 109 110 (.aload_n 0) 1 := ⟨by decide +kernel, rfl⟩
theorem dX0_takePiece_110 : dI cX0_takePiece 110 111 (.dup) 1 := ⟨by decide +kernel, rfl⟩
theorem dX0_takePiece_111 : dI cX0_takePiece 111 114 (.getfield 38) 3 := ⟨by decide +kernel, rfl⟩
theorem dX0_takePiece_114 : dI cX0_takePiece 114 115 (.iconst 1) 1 := ⟨by decide +kernel, rfl⟩
theorem dX0_takePiece_115 : dI cX0_takePiece 115 116 (.iadd) 1 := ⟨by decide +kernel, rfl⟩
theorem dX0_takePiece_116 : dI cX0_takePiece 116 119 (.putfield 38) 3 := ⟨by decide +kernel, rfl⟩
theorem dX0_takePiece_119 : dI cX0_takePiece 119 120 (.aload_n 0) 1 := ⟨by decide +kernel, rfl⟩
theorem dX0_takePiece_120 : dI cX0_takePiece 120 121 (.iload_n 3) 1 := ⟨by decide +kernel, rfl⟩
theorem dX0_takePiece_121 : decode cX0_takePiece 121 = .ok (.invokevirtual 106, 3) := by decide +kernel
theorem dX0_takePiece_124 : decode cX0_takePiece 124 = .ok (.goto 38, 3) := by decide +kernel
theorem dX0_takePiece_127 : dI cX0_takePiece 127 128 (.iload_n 3) 1 := ⟨by decide +kernel, rfl⟩
theorem dX0_takePiece_128 : dI cX0_takePiece 128 130 (.bipush 40) 2 := ⟨by decide +kernel, rfl⟩
theorem dX0_takePiece_130 : decode cX0_takePiece 130 = .ok (.if_icmp .ne 30, 3) := by decide +kernel
theorem dX0_takePiece_133 : dI cX0_takePiece 133 134 (.aload_n 0) 1 := ⟨by decide +kernel, rfl⟩
theorem dX0_takePiece_134 : dI cX0_takePiece 134 137 (.getfield 35) 3 := ⟨by decide +kernel, rfl⟩
theorem dX0_takePiece_137 : dI cX0_takePiece 137 139 (.bipush 8) 2 := ⟨by decide +kernel, rfl⟩
theorem dX0_takePiece_139 : decode cX0_takePiece 139 = .ok (.if_icmp .ge 21, 3) := by decide +kernel
theorem dX0_takePiece_142 : dI cX0_takePiece 142 143 (.aload_n 0) 1 := ⟨by decide +kernel, rfl⟩
theorem dX0_takePiece_143 : dI cX0_takePiece 143 144 (.dup) 1 := ⟨by decide +kernel, rfl⟩
theorem dX0_takePiece_144 : dI cX0_takePiece 144 147 (.getfield 35) 3 := ⟨by decide +kernel, rfl⟩
theorem dX0_takePiece_147 : dI cX0_takePiece 147 148 (.iconst 1) 1 := ⟨by decide +kernel, rfl⟩
theorem dX0_takePiece_148 : dI cX0_takePiece 148 149 (.iadd) 1 := ⟨by decide +kernel, rfl⟩
theorem dX0_takePiece_149 : dI cX0_takePiece 149 152 (.putfield 35) 3 := ⟨by decide +kernel, rfl⟩
theorem dX0_takePiece_152 : dI cX0_takePiece 152 153 (.aload_n 0) 1 := ⟨by decide +kernel, rfl⟩
theorem dX0_takePiece_153 : dI cX0_takePiece 153 154 (.iload_n 3) 1 := ⟨by decide +kernel, rfl⟩
theorem dX0_takePiece_154 : decode cX0_takePiece 154 = .ok (.invokevirtual 106, 3) := by decide +kernel
theorem dX0_takePiece_157 : decode cX0_takePiece 157 = .ok (.goto 5, 3) := by decide +kernel
theorem dX0_takePiece_160 : dI cX0_takePiece 160 161 (.iconst (-1)) 1 := ⟨by decide +kernel, rfl⟩
theorem dX0_takePiece_161 : dI cX0_takePiece 161 162 (.ireturn) 1 := ⟨by decide +kernel, rfl⟩
theorem dX0_takePiece_162 : dI cX0_takePiece 162 163 (.iload_n 2) 1 := ⟨by decide +kernel, rfl⟩
theorem dX0_takePiece_163 : dI cX0_takePiece 163 164 (.ireturn) 1 := ⟨by decide +kernel, rfl⟩
def f_X0_takePiece_b127 (l0 : Nat) (l2 : Int32) (l3 : Int32) (s : hS) : Option (Int32 × hS) :=
  if l3 = (40 : Int32) then
    (gI s l0 0 7).bind fun x1 =>
    if (8 : Int32) ≤ x1 then
      some ((-1 : Int32), s)
    else
      (gI s l0 0 7).bind fun x2 =>
      (pI s l0 0 7 (x2 + (1 : Int32))).bind fun s3 =>
      (cV s3 l0 0 (f_X0_pileUp s3 l0 l3)).bind fun p4 =>
      some (l2, p4.2)
  else
    some ((-1 : Int32), s)
theorem b_X0_takePiece_127 (E : jE)  (s : hS) (l0 : Nat) (l2 : Int32) (l3 : Int32)  : Jo E M_X0_takePiece cvI 127 [(0, .ref l0), (2, .int l2), (3, .int l3)] [] s (f_X0_takePiece_b127  l0 l2 l3 s) := by
  unfold f_X0_takePiece_b127
  refine Jo_iloadn 2 dX0_takePiece_127 rfl rfl ?_
  refine Jo_bipush (v := (40 : Int32)) dX0_takePiece_128 (by decide) ?_
  refine Jo_icmp_ne 160 dX0_takePiece_130 (by decide) rfl ?_ ?_
  · refine Jo_aloadn 0 dX0_takePiece_133 rfl rfl ?_
    refine Jo_getI fF_0_7 fI_0_7 dX0_takePiece_134 w_89 (fun x1 => ?_)
    refine Jo_bipush (v := (8 : Int32)) dX0_takePiece_137 (by decide) ?_
    refine Jo_icmp_ge 160 dX0_takePiece_139 (by decide) rfl ?_ ?_
    · refine Jo_iconst (v := (-1 : Int32)) dX0_takePiece_160 (by decide) ?_
      exact Jo_iret rfl dX0_takePiece_161
    · refine Jo_aloadn 0 dX0_takePiece_142 rfl rfl ?_
      refine Jo_dup dX0_takePiece_143 rfl ?_
      refine Jo_getI fF_0_7 fI_0_7 dX0_takePiece_144 w_89 (fun x2 => ?_)
      refine Jo_iconst (v := (1 : Int32)) dX0_takePiece_147 (by decide) ?_
      refine Jo_iadd dX0_takePiece_148 ?_
      refine Jo_putI fF_0_7 fI_0_7 (Or.inl rfl) rfl dX0_takePiece_149 w_89 (fun s3 => ?_)
      refine Jo_aloadn 0 dX0_takePiece_152 rfl rfl ?_
      refine Jo_iloadn 2 dX0_takePiece_153 rfl rfl ?_
      refine Jo_callVv (a := l0) (rest := []) [.int l3] cc_0 yF_X0_pileUp yV_X0_pileUp w_88 rfl rfl ⟨Nat.le_of_ble_eq_true rfl, Nat.le_of_ble_eq_true rfl, Nat.le_of_ble_eq_true rfl⟩ dX0_takePiece_154 rfl (K_X0_pileUp E s3 l0 l3) (fun p4 => ?_)
      refine Jo_goto 162 dX0_takePiece_157 (by decide) ?_
      refine Jo_iloadn 1 dX0_takePiece_162 rfl rfl ?_
      exact Jo_iret rfl dX0_takePiece_163
  · refine Jo_iconst (v := (-1 : Int32)) dX0_takePiece_160 (by decide) ?_
    exact Jo_iret rfl dX0_takePiece_161
def f_X0_takePiece (s : hS) (a0 : Nat) (i1 : Int32) : Option (Int32 × hS) :=
  (gR s a0 0 0).bind fun a1 =>
  (cV s a1 3 (f_X3_behindWord s a1 i1)).bind fun p2 =>
  (gR p2.2 a0 0 0).bind fun a3 =>
  (cV p2.2 a3 3 (f_X3_at p2.2 a3 i1)).bind fun p4 =>
  (gR p4.2 a0 0 0).bind fun a5 =>
  (cV p4.2 a5 3 (f_X3_hasDigit p4.2 a5 i1)).bind fun p6 =>
  if p6.1 = 0 then
    (gR p6.2 a0 0 0).bind fun a7 =>
    (cV p6.2 a7 3 (f_X3_hasLetter p6.2 a7 i1)).bind fun p8 =>
    if p8.1 = 0 then
      if p4.1 = (33 : Int32) then
        (gI p8.2 a0 0 8).bind fun x9 =>
        if (8 : Int32) ≤ x9 then
          f_X0_takePiece_b127 a0 p2.1 p4.1 p8.2
        else
          (gI p8.2 a0 0 8).bind fun x10 =>
          (pI p8.2 a0 0 8 (x10 + (1 : Int32))).bind fun s11 =>
          (cV s11 a0 0 (f_X0_pileUp s11 a0 p4.1)).bind fun p12 =>
          some (p2.1, p12.2)
      else
        f_X0_takePiece_b127 a0 p2.1 p4.1 p8.2
    else
      if (1 : Int32) < (p2.1 - i1) then
        some ((-1 : Int32), p8.2)
      else
        (cV p8.2 a0 0 (f_X0_nameOf p8.2 a0 p4.1)).bind fun p13 =>
        if p13.1 = 0 then
          some ((-1 : Int32), p13.2)
        else
          (cV p13.2 a0 0 (f_X0_nameOf p13.2 a0 p4.1)).bind fun p14 =>
          (cV p14.2 a0 0 (f_X0_putLeaf p14.2 a0 p14.1)).bind fun p15 =>
          some (p2.1, p15.2)
  else
    if (p2.1 - i1) ≤ (4 : Int32) then
      (gR p6.2 a0 0 0).bind fun a16 =>
      (cV p6.2 a16 3 (f_X3_numberAt p6.2 a16 i1 p2.1)).bind fun p17 =>
      (cV p17.2 a0 0 (f_X0_putLeaf p17.2 a0 p17.1)).bind fun p18 =>
      some (p2.1, p18.2)
    else
      some ((-1 : Int32), p6.2)
theorem b_X0_takePiece_in (E : jE)  (s : hS) (a0 : Nat) (i1 : Int32)  : Jo E M_X0_takePiece cvI 0 [(0, .ref a0), (1, .int i1)] [] s (f_X0_takePiece s a0 i1) := by
  unfold f_X0_takePiece
  refine Jo_aloadn 0 dX0_takePiece_0 rfl rfl ?_
  refine Jo_getR fF_0_0 fR_0_0 dX0_takePiece_1 w_26 (fun a1 => ?_)
  refine Jo_iloadn 1 dX0_takePiece_4 rfl rfl ?_
  refine Jo_callVi (a := a1) (rest := []) [.int i1] cc_3 yF_X3_behindWord yV_X3_behindWord w_96 rfl rfl ⟨Nat.le_of_ble_eq_true rfl, Nat.le_of_ble_eq_true rfl, Nat.le_of_ble_eq_true rfl⟩ dX0_takePiece_5 rfl (K_X3_behindWord E s a1 i1) (fun p2 => ?_)
  refine Jo_istoren (ls' := [(2, .int p2.1), (0, .ref a0), (1, .int i1)]) dX0_takePiece_8 rfl (by decide) rfl ?_
  refine Jo_aloadn 1 dX0_takePiece_9 rfl rfl ?_
  refine Jo_getR fF_0_0 fR_0_0 dX0_takePiece_10 w_26 (fun a3 => ?_)
  refine Jo_iloadn 2 dX0_takePiece_13 rfl rfl ?_
  refine Jo_callVi (a := a3) (rest := []) [.int i1] cc_3 yF_X3_at yV_X3_at w_95 rfl rfl ⟨Nat.le_of_ble_eq_true rfl, Nat.le_of_ble_eq_true rfl, Nat.le_of_ble_eq_true rfl⟩ dX0_takePiece_14 rfl (K_X3_at E p2.2 a3 i1) (fun p4 => ?_)
  refine Jo_istoren (ls' := [(3, .int p4.1), (2, .int p2.1), (0, .ref a0), (1, .int i1)]) dX0_takePiece_17 rfl (by decide) rfl ?_
  refine Jo_aloadn 2 dX0_takePiece_18 rfl rfl ?_
  refine Jo_getR fF_0_0 fR_0_0 dX0_takePiece_19 w_26 (fun a5 => ?_)
  refine Jo_iloadn 3 dX0_takePiece_22 rfl rfl ?_
  refine Jo_callVi (a := a5) (rest := []) [.int i1] cc_3 yF_X3_hasDigit yV_X3_hasDigit w_94 rfl rfl ⟨Nat.le_of_ble_eq_true rfl, Nat.le_of_ble_eq_true rfl, Nat.le_of_ble_eq_true rfl⟩ dX0_takePiece_23 rfl (K_X3_hasDigit E p4.2 a5 i1) (fun p6 => ?_)
  refine Jo_if_eq 54 dX0_takePiece_26 (by decide) rfl ?_ ?_
  · refine Jo_aloadn 2 dX0_takePiece_54 rfl rfl ?_
    refine Jo_getR fF_0_0 fR_0_0 dX0_takePiece_55 w_26 (fun a7 => ?_)
    refine Jo_iloadn 3 dX0_takePiece_58 rfl rfl ?_
    refine Jo_callVi (a := a7) (rest := []) [.int i1] cc_3 yF_X3_hasLetter yV_X3_hasLetter w_92 rfl rfl ⟨Nat.le_of_ble_eq_true rfl, Nat.le_of_ble_eq_true rfl, Nat.le_of_ble_eq_true rfl⟩ dX0_takePiece_59 rfl (K_X3_hasLetter E p6.2 a7 i1) (fun p8 => ?_)
    refine Jo_if_eq 94 dX0_takePiece_62 (by decide) rfl ?_ ?_
    · refine Jo_iloadn 0 dX0_takePiece_94 rfl rfl ?_
      refine Jo_bipush (v := (33 : Int32)) dX0_takePiece_95 (by decide) ?_
      refine Jo_icmp_ne 127 dX0_takePiece_97 (by decide) rfl ?_ ?_
      · refine Jo_aloadn 2 dX0_takePiece_100 rfl rfl ?_
        refine Jo_getI fF_0_8 fI_0_8 dX0_takePiece_101 w_70 (fun x9 => ?_)
        refine Jo_bipush (v := (8 : Int32)) dX0_takePiece_104 (by decide) ?_
        refine Jo_icmp_ge 127 dX0_takePiece_106 (by decide) rfl ?_ ?_
        · refine Jo_sub [2, 1, 0] rfl ?_
          exact b_X0_takePiece_127 E p8.2 a0 p2.1 p4.1
        · refine Jo_aloadn 2 dX0_takePiece_109 rfl rfl ?_
          refine Jo_dup dX0_takePiece_110 rfl ?_
          refine Jo_getI fF_0_8 fI_0_8 dX0_takePiece_111 w_70 (fun x10 => ?_)
          refine Jo_iconst (v := (1 : Int32)) dX0_takePiece_114 (by decide) ?_
          refine Jo_iadd dX0_takePiece_115 ?_
          refine Jo_putI fF_0_8 fI_0_8 (Or.inl rfl) rfl dX0_takePiece_116 w_70 (fun s11 => ?_)
          refine Jo_aloadn 2 dX0_takePiece_119 rfl rfl ?_
          refine Jo_iloadn 0 dX0_takePiece_120 rfl rfl ?_
          refine Jo_callVv (a := a0) (rest := []) [.int p4.1] cc_0 yF_X0_pileUp yV_X0_pileUp w_88 rfl rfl ⟨Nat.le_of_ble_eq_true rfl, Nat.le_of_ble_eq_true rfl, Nat.le_of_ble_eq_true rfl⟩ dX0_takePiece_121 rfl (K_X0_pileUp E s11 a0 p4.1) (fun p12 => ?_)
          refine Jo_goto 162 dX0_takePiece_124 (by decide) ?_
          refine Jo_iloadn 1 dX0_takePiece_162 rfl rfl ?_
          exact Jo_iret rfl dX0_takePiece_163
      · refine Jo_sub [2, 1, 0] rfl ?_
        exact b_X0_takePiece_127 E p8.2 a0 p2.1 p4.1
    · refine Jo_iloadn 1 dX0_takePiece_65 rfl rfl ?_
      refine Jo_iloadn 3 dX0_takePiece_66 rfl rfl ?_
      refine Jo_isub dX0_takePiece_67 ?_
      refine Jo_iconst (v := (1 : Int32)) dX0_takePiece_68 (by decide) ?_
      refine Jo_icmp_gt 80 dX0_takePiece_69 (by decide) rfl ?_ ?_
      · refine Jo_iconst (v := (-1 : Int32)) dX0_takePiece_80 (by decide) ?_
        exact Jo_iret rfl dX0_takePiece_81
      · refine Jo_aloadn 2 dX0_takePiece_72 rfl rfl ?_
        refine Jo_iloadn 0 dX0_takePiece_73 rfl rfl ?_
        refine Jo_callVi (a := a0) (rest := []) [.int p4.1] cc_0 yF_X0_nameOf yV_X0_nameOf w_91 rfl rfl ⟨Nat.le_of_ble_eq_true rfl, Nat.le_of_ble_eq_true rfl, Nat.le_of_ble_eq_true rfl⟩ dX0_takePiece_74 rfl (K_X0_nameOf E p8.2 a0 p4.1) (fun p13 => ?_)
        refine Jo_if_ne 82 dX0_takePiece_77 (by decide) rfl ?_ ?_
        · refine Jo_iconst (v := (-1 : Int32)) dX0_takePiece_80 (by decide) ?_
          exact Jo_iret rfl dX0_takePiece_81
        · refine Jo_aloadn 2 dX0_takePiece_82 rfl rfl ?_
          refine Jo_aloadn 2 dX0_takePiece_83 rfl rfl ?_
          refine Jo_iloadn 0 dX0_takePiece_84 rfl rfl ?_
          refine Jo_callVi (a := a0) (rest := [.ref a0]) [.int p4.1] cc_0 yF_X0_nameOf yV_X0_nameOf w_91 rfl rfl ⟨Nat.le_of_ble_eq_true rfl, Nat.le_of_ble_eq_true rfl, Nat.le_of_ble_eq_true rfl⟩ dX0_takePiece_85 rfl (K_X0_nameOf E p13.2 a0 p4.1) (fun p14 => ?_)
          refine Jo_callVv (a := a0) (rest := []) [.int p14.1] cc_0 yF_X0_putLeaf yV_X0_putLeaf w_90 rfl rfl ⟨Nat.le_of_ble_eq_true rfl, Nat.le_of_ble_eq_true rfl, Nat.le_of_ble_eq_true rfl⟩ dX0_takePiece_88 rfl (K_X0_putLeaf E p14.2 a0 p14.1) (fun p15 => ?_)
          refine Jo_goto 162 dX0_takePiece_91 (by decide) ?_
          refine Jo_iloadn 1 dX0_takePiece_162 rfl rfl ?_
          exact Jo_iret rfl dX0_takePiece_163
  · refine Jo_iloadn 1 dX0_takePiece_29 rfl rfl ?_
    refine Jo_iloadn 3 dX0_takePiece_30 rfl rfl ?_
    refine Jo_isub dX0_takePiece_31 ?_
    refine Jo_iconst (v := (4 : Int32)) dX0_takePiece_32 (by decide) ?_
    refine Jo_icmp_le 38 dX0_takePiece_33 (by decide) rfl ?_ ?_
    · refine Jo_aloadn 2 dX0_takePiece_38 rfl rfl ?_
      refine Jo_aloadn 2 dX0_takePiece_39 rfl rfl ?_
      refine Jo_getR fF_0_0 fR_0_0 dX0_takePiece_40 w_26 (fun a16 => ?_)
      refine Jo_iloadn 3 dX0_takePiece_43 rfl rfl ?_
      refine Jo_iloadn 1 dX0_takePiece_44 rfl rfl ?_
      refine Jo_callVi (a := a16) (rest := [.ref a0]) [.int i1, .int p2.1] cc_3 yF_X3_numberAt yV_X3_numberAt w_93 rfl rfl ⟨Nat.le_of_ble_eq_true rfl, Nat.le_of_ble_eq_true rfl, Nat.le_of_ble_eq_true rfl⟩ dX0_takePiece_45 rfl (K_X3_numberAt E p6.2 a16 i1 p2.1) (fun p17 => ?_)
      refine Jo_callVv (a := a0) (rest := []) [.int p17.1] cc_0 yF_X0_putLeaf yV_X0_putLeaf w_90 rfl rfl ⟨Nat.le_of_ble_eq_true rfl, Nat.le_of_ble_eq_true rfl, Nat.le_of_ble_eq_true rfl⟩ dX0_takePiece_48 rfl (K_X0_putLeaf E p17.2 a0 p17.1) (fun p18 => ?_)
      refine Jo_goto 162 dX0_takePiece_51 (by decide) ?_
      refine Jo_iloadn 1 dX0_takePiece_162 rfl rfl ?_
      exact Jo_iret rfl dX0_takePiece_163
    · refine Jo_iconst (v := (-1 : Int32)) dX0_takePiece_36 (by decide) ?_
      exact Jo_iret rfl dX0_takePiece_37
theorem K_X0_takePiece (E : jE) (s : hS) (a0 : Nat) (i1 : Int32) : jK E yX0_takePiece M_X0_takePiece cvI [.ref a0, .int i1] s (f_X0_takePiece s a0 i1) := jK_of ⟨by decide, rfl, rfl⟩ (Nat.le_of_ble_eq_true rfl) (b_X0_takePiece_in E s a0 i1)
/-! HeronTalk$Reader.rankOf(I)I -/
abbrev M_X0_rankOf : jM := (RX0, cX0_rankOf, 2, (some .int), "rankOf", 0, 0)
theorem yF_X0_rankOf : yF yX0_rankOf M_X0_rankOf 1 := ⟨w_100, w_32, by decide +kernel⟩
theorem yV_X0_rankOf : Cond.instanceMethod yX0_rankOf ∈ tbG ∧ Cond.selects yX0_rankOf.cls yX0_rankOf yX0_rankOf ∈ tbG := ⟨w_101, w_102⟩
theorem dX0_rankOf_0 : dI cX0_rankOf 0 1 (.iload_n 1) 1 := ⟨by decide +kernel, rfl⟩
theorem dX0_rankOf_1 : decode cX0_rankOf 1 = .ok (.lookupswitch 93 #[(38, 85), (42, 91), (43, 89), (45, 89), (47, 91), (60, 87), (61, 87), (62, 87), (124, 83)], 83) := by decide +kernel
theorem dX0_rankOf_84 : dI cX0_rankOf 84 85 (.iconst 1) 1 := ⟨by decide +kernel, rfl⟩
theorem dX0_rankOf_85 : dI cX0_rankOf 85 86 (.ireturn) 1 := ⟨by decide +kernel, rfl⟩
theorem dX0_rankOf_86 : dI cX0_rankOf 86 87 (.iconst 2) 1 := ⟨by decide +kernel, rfl⟩
theorem dX0_rankOf_87 : dI cX0_rankOf 87 88 (.ireturn) 1 := ⟨by decide +kernel, rfl⟩
theorem dX0_rankOf_88 : dI cX0_rankOf 88 89 (.iconst 3) 1 := ⟨by decide +kernel, rfl⟩
theorem dX0_rankOf_89 : dI cX0_rankOf 89 90 (.ireturn) 1 := ⟨by decide +kernel, rfl⟩
theorem dX0_rankOf_90 : dI cX0_rankOf 90 91 (.iconst 4) 1 := ⟨by decide +kernel, rfl⟩
theorem dX0_rankOf_91 : dI cX0_rankOf 91 92 (.ireturn) 1 := ⟨by decide +kernel, rfl⟩
theorem dX0_rankOf_92 : dI cX0_rankOf 92 93 (.iconst 5) 1 := ⟨by decide +kernel, rfl⟩
theorem dX0_rankOf_93 : dI cX0_rankOf 93 94 (.ireturn) 1 := ⟨by decide +kernel, rfl⟩
theorem dX0_rankOf_94 : dI cX0_rankOf 94 95 (.iconst 0) 1 := ⟨by decide +kernel, rfl⟩
theorem dX0_rankOf_95 : dI cX0_rankOf 95 96 (.ireturn) 1 := ⟨by decide +kernel, rfl⟩
def f_X0_rankOf (s : hS) (a0 : Nat) (i1 : Int32) : Option (Int32 × hS) :=
  if i1 = (38 : Int32) then
    some ((2 : Int32), s)
  else
  if i1 = (42 : Int32) then
    some ((5 : Int32), s)
  else
  if i1 = (43 : Int32) then
    some ((4 : Int32), s)
  else
  if i1 = (45 : Int32) then
    some ((4 : Int32), s)
  else
  if i1 = (47 : Int32) then
    some ((5 : Int32), s)
  else
  if i1 = (60 : Int32) then
    some ((3 : Int32), s)
  else
  if i1 = (61 : Int32) then
    some ((3 : Int32), s)
  else
  if i1 = (62 : Int32) then
    some ((3 : Int32), s)
  else
  if i1 = (124 : Int32) then
    some ((1 : Int32), s)
  else
  some ((0 : Int32), s)
theorem b_X0_rankOf_in (E : jE)  (s : hS) (a0 : Nat) (i1 : Int32)  : Jo E M_X0_rankOf cvI 0 [(0, .ref a0), (1, .int i1)] [] s (f_X0_rankOf s a0 i1) := by
  unfold f_X0_rankOf
  refine Jo_iloadn 1 dX0_rankOf_0 rfl rfl ?_
  refine Jo_case ?_ (fun g1 => ?_)
  · refine Jo_look (off := 85) 86 dX0_rankOf_1 (by decide) (by decide) (by decide) ?_
    refine Jo_iconst (v := (2 : Int32)) dX0_rankOf_86 (by decide) ?_
    exact Jo_iret rfl dX0_rankOf_87
  refine Jo_case ?_ (fun g2 => ?_)
  · refine Jo_look (off := 91) 92 dX0_rankOf_1 (by decide) (by decide) (by decide) ?_
    refine Jo_iconst (v := (5 : Int32)) dX0_rankOf_92 (by decide) ?_
    exact Jo_iret rfl dX0_rankOf_93
  refine Jo_case ?_ (fun g3 => ?_)
  · refine Jo_look (off := 89) 90 dX0_rankOf_1 (by decide) (by decide) (by decide) ?_
    refine Jo_iconst (v := (4 : Int32)) dX0_rankOf_90 (by decide) ?_
    exact Jo_iret rfl dX0_rankOf_91
  refine Jo_case ?_ (fun g4 => ?_)
  · refine Jo_look (off := 89) 90 dX0_rankOf_1 (by decide) (by decide) (by decide) ?_
    refine Jo_iconst (v := (4 : Int32)) dX0_rankOf_90 (by decide) ?_
    exact Jo_iret rfl dX0_rankOf_91
  refine Jo_case ?_ (fun g5 => ?_)
  · refine Jo_look (off := 91) 92 dX0_rankOf_1 (by decide) (by decide) (by decide) ?_
    refine Jo_iconst (v := (5 : Int32)) dX0_rankOf_92 (by decide) ?_
    exact Jo_iret rfl dX0_rankOf_93
  refine Jo_case ?_ (fun g6 => ?_)
  · refine Jo_look (off := 87) 88 dX0_rankOf_1 (by decide) (by decide) (by decide) ?_
    refine Jo_iconst (v := (3 : Int32)) dX0_rankOf_88 (by decide) ?_
    exact Jo_iret rfl dX0_rankOf_89
  refine Jo_case ?_ (fun g7 => ?_)
  · refine Jo_look (off := 87) 88 dX0_rankOf_1 (by decide) (by decide) (by decide) ?_
    refine Jo_iconst (v := (3 : Int32)) dX0_rankOf_88 (by decide) ?_
    exact Jo_iret rfl dX0_rankOf_89
  refine Jo_case ?_ (fun g8 => ?_)
  · refine Jo_look (off := 87) 88 dX0_rankOf_1 (by decide) (by decide) (by decide) ?_
    refine Jo_iconst (v := (3 : Int32)) dX0_rankOf_88 (by decide) ?_
    exact Jo_iret rfl dX0_rankOf_89
  refine Jo_case ?_ (fun g9 => ?_)
  · refine Jo_look (off := 83) 84 dX0_rankOf_1 (by decide) (by decide) (by decide) ?_
    refine Jo_iconst (v := (1 : Int32)) dX0_rankOf_84 (by decide) ?_
    exact Jo_iret rfl dX0_rankOf_85
  refine Jo_look (off := 93) 94 dX0_rankOf_1 (by decide) (by have qg1 := i32ne 38 (by decide) g1; have qg2 := i32ne 42 (by decide) g2; have qg3 := i32ne 43 (by decide) g3; have qg4 := i32ne 45 (by decide) g4; have qg5 := i32ne 47 (by decide) g5; have qg6 := i32ne 60 (by decide) g6; have qg7 := i32ne 61 (by decide) g7; have qg8 := i32ne 62 (by decide) g8; have qg9 := i32ne 124 (by decide) g9; simp [Op.lookupswitch.offset_cons, Op.lookupswitch.offset_nil, Ne.symm qg1, Ne.symm qg2, Ne.symm qg3, Ne.symm qg4, Ne.symm qg5, Ne.symm qg6, Ne.symm qg7, Ne.symm qg8, Ne.symm qg9]) (by decide) ?_
  refine Jo_iconst (v := (0 : Int32)) dX0_rankOf_94 (by decide) ?_
  exact Jo_iret rfl dX0_rankOf_95
theorem K_X0_rankOf (E : jE) (s : hS) (a0 : Nat) (i1 : Int32) : jK E yX0_rankOf M_X0_rankOf cvI [.ref a0, .int i1] s (f_X0_rankOf s a0 i1) := jK_of ⟨by decide, rfl, rfl⟩ (Nat.le_of_ble_eq_true rfl) (b_X0_rankOf_in E s a0 i1)
/-! HeronTalk$Reader.topRank()I -/
abbrev M_X0_topRank : jM := (RX0, cX0_topRank, 1, (some .int), "topRank", 1, 21)
theorem yF_X0_topRank : yF yX0_topRank M_X0_topRank 0 := ⟨w_104, w_32, by decide +kernel⟩
theorem yV_X0_topRank : Cond.instanceMethod yX0_topRank ∈ tbG ∧ Cond.selects yX0_topRank.cls yX0_topRank yX0_topRank ∈ tbG := ⟨w_105, w_106⟩
theorem dX0_topRank_0 : dI cX0_topRank 0 1 (.aload_n 0) 1 := ⟨by decide +kernel, rfl⟩
theorem dX0_topRank_1 : dI cX0_topRank 1 4 (.getfield 29) 3 := ⟨by decide +kernel, rfl⟩
theorem dX0_topRank_4 : decode cX0_topRank 4 = .ok (.ifCond .le 21, 3) := by decide +kernel
theorem dX0_topRank_7 : dI cX0_topRank 7 8 (.aload_n 0) 1 := ⟨by decide +kernel, rfl⟩
theorem dX0_topRank_8 : dI cX0_topRank 8 9 (.aload_n 0) 1 := ⟨by decide +kernel, rfl⟩
theorem dX0_topRank_9 : dI cX0_topRank 9 12 (.getfield 22) 3 := ⟨by decide +kernel, rfl⟩
theorem dX0_topRank_12 : dI cX0_topRank 12 13 (.aload_n 0) 1 := ⟨by decide +kernel, rfl⟩
theorem dX0_topRank_13 : dI cX0_topRank 13 16 (.getfield 29) 3 := ⟨by decide +kernel, rfl⟩
theorem dX0_topRank_16 : dI cX0_topRank 16 17 (.iconst 1) 1 := ⟨by decide +kernel, rfl⟩
theorem dX0_topRank_17 : dI cX0_topRank 17 18 (.isub) 1 := ⟨by decide +kernel, rfl⟩
theorem dX0_topRank_18 : dI cX0_topRank 18 19 (.iaload) 1 := ⟨by decide +kernel, rfl⟩
theorem dX0_topRank_19 : decode cX0_topRank 19 = .ok (.invokevirtual 112, 3) := by decide +kernel
theorem dX0_topRank_22 : decode cX0_topRank 22 = .ok (.goto 4, 3) := by decide +kernel
theorem dX0_topRank_25 : dI cX0_topRank 25 26 (.iconst 0) 1 := ⟨by decide +kernel, rfl⟩
theorem dX0_topRank_26 : dI cX0_topRank 26 27 (.ireturn) 1 := ⟨by decide +kernel, rfl⟩
def f_X0_topRank (s : hS) (a0 : Nat) : Option (Int32 × hS) :=
  (gI s a0 0 4).bind fun x1 =>
  if x1 ≤ 0 then
    some ((0 : Int32), s)
  else
    (gR s a0 0 3).bind fun a2 =>
    (gI s a0 0 4).bind fun x3 =>
    (aI s a2 10 (x3 - (1 : Int32))).bind fun x4 =>
    (cV s a0 0 (f_X0_rankOf s a0 x4)).bind fun p5 =>
    some (p5.1, p5.2)
theorem b_X0_topRank_in (E : jE)  (s : hS) (a0 : Nat)  : Jo E M_X0_topRank cvI 0 [(0, .ref a0)] [] s (f_X0_topRank s a0) := by
  unfold f_X0_topRank
  refine Jo_aloadn 0 dX0_topRank_0 rfl rfl ?_
  refine Jo_getI fF_0_4 fI_0_4 dX0_topRank_1 w_71 (fun x1 => ?_)
  refine Jo_if_le 25 dX0_topRank_4 (by decide) rfl ?_ ?_
  · refine Jo_iconst (v := (0 : Int32)) dX0_topRank_25 (by decide) ?_
    exact Jo_iret rfl dX0_topRank_26
  · refine Jo_aloadn 0 dX0_topRank_7 rfl rfl ?_
    refine Jo_aloadn 0 dX0_topRank_8 rfl rfl ?_
    refine Jo_getR fF_0_3 fR_0_3 dX0_topRank_9 w_23 (fun a2 => ?_)
    refine Jo_aloadn 0 dX0_topRank_12 rfl rfl ?_
    refine Jo_getI fF_0_4 fI_0_4 dX0_topRank_13 w_71 (fun x3 => ?_)
    refine Jo_iconst (v := (1 : Int32)) dX0_topRank_16 (by decide) ?_
    refine Jo_isub dX0_topRank_17 ?_
    refine Jo_iaload dX0_topRank_18 (fun x4 => ?_)
    refine Jo_callVi (a := a0) (rest := []) [.int x4] cc_0 yF_X0_rankOf yV_X0_rankOf w_103 rfl rfl ⟨Nat.le_of_ble_eq_true rfl, Nat.le_of_ble_eq_true rfl, Nat.le_of_ble_eq_true rfl⟩ dX0_topRank_19 rfl (K_X0_rankOf E s a0 x4) (fun p5 => ?_)
    refine Jo_goto 26 dX0_topRank_22 (by decide) ?_
    exact Jo_iret rfl dX0_topRank_26
theorem K_X0_topRank (E : jE) (s : hS) (a0 : Nat) : jK E yX0_topRank M_X0_topRank cvI [.ref a0] s (f_X0_topRank s a0) := jK_of ⟨by decide, rfl, rfl⟩ (Nat.le_of_ble_eq_true rfl) (b_X0_topRank_in E s a0)
/-! HeronTalk$Reader.release(I)V -/
abbrev M_X0_release : jM := (RX0, cX0_release, 2, (none : Option Jvm.ClassFile.FieldType), "release", 2, 41)
theorem yF_X0_release : yF yX0_release M_X0_release 1 := ⟨w_108, w_32, by decide +kernel⟩
theorem yV_X0_release : Cond.instanceMethod yX0_release ∈ tbG ∧ Cond.selects yX0_release.cls yX0_release yX0_release ∈ tbG := ⟨w_109, w_110⟩
theorem dX0_release_0 : dI cX0_release 0 1 (.aload_n 0) 1 := ⟨by decide +kernel, rfl⟩
theorem dX0_release_1 : dI cX0_release 1 4 (.getfield 29) 3 := ⟨by decide +kernel, rfl⟩
theorem dX0_release_4 : decode cX0_release 4 = .ok (.ifCond .le 38, 3) := by decide +kernel
theorem dX0_release_7 : dI cX0_release 7 8 (.aload_n 0) 1 := ⟨by decide +kernel, rfl⟩
theorem dX0_release_8 : decode cX0_release 8 = .ok (.invokevirtual 115, 3) := by decide +kernel
theorem dX0_release_11 : dI cX0_release 11 12 (.iload_n 1) 1 := ⟨by decide +kernel, rfl⟩
theorem dX0_release_12 : decode cX0_release 12 = .ok (.if_icmp .lt 30, 3) := by decide +kernel
theorem dX0_release_15 : dI cX0_release 15 16 (.aload_n 0) 1 := ⟨by decide +kernel, rfl⟩
theorem dX0_release_16 : dI cX0_release 16 17 (.dup) 1 := ⟨by decide +kernel, rfl⟩
theorem dX0_release_17 : dI cX0_release 17 20 (.getfield 29) 3 := ⟨by decide +kernel, rfl⟩
theorem dX0_release_20 : dI cX0_release 20 21 (.iconst 1) 1 := ⟨by decide +kernel, rfl⟩
theorem dX0_release_21 : dI cX0_release 21 22 (.isub) 1 := ⟨by decide +kernel, rfl⟩
theorem dX0_release_22 : dI cX0_release 22 25 (.putfield 29) 3 := ⟨by decide +kernel, rfl⟩
theorem dX0_release_25 : dI cX0_release 25 26 (.aload_n 0) 1 := ⟨by decide +kernel, rfl⟩
theorem dX0_release_26 : dI cX0_release 26 27 (.aload_n 0) 1 := ⟨by decide +kernel, rfl⟩
theorem dX0_release_27 : dI cX0_release 27 30 (.getfield 22) 3 := ⟨by decide +kernel, rfl⟩
theorem dX0_release_30 : dI cX0_release 30 31 (.aload_n 0) 1 := ⟨by decide +kernel, rfl⟩
theorem dX0_release_31 : dI cX0_release 31 34 (.getfield 29) 3 := ⟨by decide +kernel, rfl⟩
theorem dX0_release_34 : dI cX0_release 34 35 (.iaload) 1 := ⟨by decide +kernel, rfl⟩
theorem dX0_release_35 : dI cX0_release 35 36 (.ineg) 1 := ⟨by decide +kernel, rfl⟩
theorem dX0_release_36 : decode cX0_release 36 = .ok (.invokevirtual 119, 3) := by decide +kernel
theorem dX0_release_39 : decode cX0_release 39 = .ok (.goto (-39), 3) := by decide +kernel
theorem dX0_release_42 : dI cX0_release 42 43 (.return_) 1 := ⟨by decide +kernel, rfl⟩
def f_X0_release_b0 (k0 : Nat → Int32 → hS → Option (Unit × hS)) (l0 : Nat) (l1 : Int32) (s : hS) : Option (Unit × hS) :=
  (gI s l0 0 4).bind fun x1 =>
  if x1 ≤ 0 then
    some ((), s)
  else
    (cV s l0 0 (f_X0_topRank s l0)).bind fun p2 =>
    if p2.1 < l1 then
      some ((), p2.2)
    else
      (gI p2.2 l0 0 4).bind fun x3 =>
      (pI p2.2 l0 0 4 (x3 - (1 : Int32))).bind fun s4 =>
      (gR s4 l0 0 3).bind fun a5 =>
      (gI s4 l0 0 4).bind fun x6 =>
      (aI s4 a5 10 x6).bind fun x7 =>
      (cV s4 l0 0 (f_X0_put s4 l0 (-x7))).bind fun p8 =>
      k0 l0 l1 p8.2
theorem b_X0_release_0 (E : jE) (k0 : Nat → Int32 → hS → Option (Unit × hS)) (h0 : ∀ (s : hS) (l0 : Nat) (l1 : Int32) , Jo E M_X0_release cvV 0 [(0, .ref l0), (1, .int l1)] [] s (k0 l0 l1 s)) (s : hS) (l0 : Nat) (l1 : Int32)  : Jo E M_X0_release cvV 0 [(0, .ref l0), (1, .int l1)] [] s (f_X0_release_b0 k0 l0 l1 s) := by
  unfold f_X0_release_b0
  refine Jo_aloadn 0 dX0_release_0 rfl rfl ?_
  refine Jo_getI fF_0_4 fI_0_4 dX0_release_1 w_71 (fun x1 => ?_)
  refine Jo_if_le 42 dX0_release_4 (by decide) rfl ?_ ?_
  · exact Jo_vret rfl dX0_release_42
  · refine Jo_aloadn 0 dX0_release_7 rfl rfl ?_
    refine Jo_callVi (a := l0) (rest := []) [] cc_0 yF_X0_topRank yV_X0_topRank w_107 rfl rfl ⟨Nat.le_of_ble_eq_true rfl, Nat.le_of_ble_eq_true rfl, Nat.le_of_ble_eq_true rfl⟩ dX0_release_8 rfl (K_X0_topRank E s l0) (fun p2 => ?_)
    refine Jo_iloadn 1 dX0_release_11 rfl rfl ?_
    refine Jo_icmp_lt 42 dX0_release_12 (by decide) rfl ?_ ?_
    · exact Jo_vret rfl dX0_release_42
    · refine Jo_aloadn 0 dX0_release_15 rfl rfl ?_
      refine Jo_dup dX0_release_16 rfl ?_
      refine Jo_getI fF_0_4 fI_0_4 dX0_release_17 w_71 (fun x3 => ?_)
      refine Jo_iconst (v := (1 : Int32)) dX0_release_20 (by decide) ?_
      refine Jo_isub dX0_release_21 ?_
      refine Jo_putI fF_0_4 fI_0_4 (Or.inl rfl) rfl dX0_release_22 w_71 (fun s4 => ?_)
      refine Jo_aloadn 0 dX0_release_25 rfl rfl ?_
      refine Jo_aloadn 0 dX0_release_26 rfl rfl ?_
      refine Jo_getR fF_0_3 fR_0_3 dX0_release_27 w_23 (fun a5 => ?_)
      refine Jo_aloadn 0 dX0_release_30 rfl rfl ?_
      refine Jo_getI fF_0_4 fI_0_4 dX0_release_31 w_71 (fun x6 => ?_)
      refine Jo_iaload dX0_release_34 (fun x7 => ?_)
      refine Jo_ineg dX0_release_35 ?_
      refine Jo_callVv (a := l0) (rest := []) [.int (-x7)] cc_0 yF_X0_put yV_X0_put w_69 rfl rfl ⟨Nat.le_of_ble_eq_true rfl, Nat.le_of_ble_eq_true rfl, Nat.le_of_ble_eq_true rfl⟩ dX0_release_36 rfl (K_X0_put E s4 l0 (-x7)) (fun p8 => ?_)
      refine Jo_goto 0 dX0_release_39 (by decide) ?_
      exact h0 p8.2 l0 l1
theorem e_X0_release_0 (E : jE)  (n : Nat) : ∀ (s : hS) (l0 : Nat) (l1 : Int32) , Jo E M_X0_release cvV 0 [(0, .ref l0), (1, .int l1)] [] s ((jL f_X0_release_b0 (fun _ _ _ => none) n) l0 l1 s) :=
  jL_ind (P := fun f => ∀ (s : hS) (l0 : Nat) (l1 : Int32) , Jo E M_X0_release cvV 0 [(0, .ref l0), (1, .int l1)] [] s (f l0 l1 s)) (fun _ _ _ => Jo_none) (fun b hb s l0 l1 => b_X0_release_0 E  b hb s l0 l1) n
def f_X0_release (s : hS) (a0 : Nat) (i1 : Int32) : Option (Unit × hS) :=
  jL f_X0_release_b0 (fun _ _ _ => none) jF a0 i1 s
theorem b_X0_release_in (E : jE)  (s : hS) (a0 : Nat) (i1 : Int32)  : Jo E M_X0_release cvV 0 [(0, .ref a0), (1, .int i1)] [] s (f_X0_release s a0 i1) := by
  unfold f_X0_release
  exact e_X0_release_0 E jF s a0 i1
theorem K_X0_release (E : jE) (s : hS) (a0 : Nat) (i1 : Int32) : jK E yX0_release M_X0_release cvV [.ref a0, .int i1] s (f_X0_release s a0 i1) := jK_of ⟨by decide, rfl, rfl⟩ (Nat.le_of_ble_eq_true rfl) (b_X0_release_in E s a0 i1)
