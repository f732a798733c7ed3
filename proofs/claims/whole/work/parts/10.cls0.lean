/-! java/lang/Integer.bitCount(I)I -/
abbrev M_J6_bitCount_0f7a4 : jM := (RJ6, cJ6_bitCount_0f7a4, 1, (some .int), "bitCount", 0, 0)
theorem yF_J6_bitCount_0f7a4 : yF yJ6_bitCount_0f7a4 M_J6_bitCount_0f7a4 1 := ⟨w_13, w_14, by decide +kernel⟩
theorem yS_J6_bitCount_0f7a4 : Cond.static yJ6_bitCount_0f7a4 ∈ tbG := w_15
theorem dJ6_bitCount_0f7a4_0 : dI cJ6_bitCount_0f7a4 0 1 (.iload_n 0) 1 := ⟨by decide +kernel, rfl⟩
theorem dJ6_bitCount_0f7a4_1 : dI cJ6_bitCount_0f7a4 1 2 (.iload_n 0) 1 := ⟨by decide +kernel, rfl⟩
theorem dJ6_bitCount_0f7a4_2 : dI cJ6_bitCount_0f7a4 2 3 (.iconst 1) 1 := ⟨by decide +kernel, rfl⟩
theorem dJ6_bitCount_0f7a4_3 : dI cJ6_bitCount_0f7a4 3 4 (.iushr) 1 := ⟨by decide +kernel, rfl⟩
theorem dJ6_bitCount_0f7a4_4 : dI cJ6_bitCount_0f7a4 4 7 (.ldc_w 265) 3 := ⟨by decide +kernel, rfl⟩
theorem dJ6_bitCount_0f7a4_7 : dI cJ6_bitCount_0f7a4 7 8 (.iand) 1 := ⟨by decide +kernel, rfl⟩
theorem dJ6_bitCount_0f7a4_8 : dI cJ6_bitCount_0f7a4 8 9 (.isub) 1 := ⟨by decide +kernel, rfl⟩
theorem dJ6_bitCount_0f7a4_9 : dI cJ6_bitCount_0f7a4 9 10 (.istore_n 0) 1 := ⟨by decide +kernel, rfl⟩
theorem dJ6_bitCount_0f7a4_10 : dI cJ6_bitCount_0f7a4 10 11 (.iload_n 0) 1 := ⟨by decide +kernel, rfl⟩
theorem dJ6_bitCount_0f7a4_11 : dI cJ6_bitCount_0f7a4 11 14 (.ldc_w 266) 3 := ⟨by decide +kernel, rfl⟩
theorem dJ6_bitCount_0f7a4_14 : dI cJ6_bitCount_0f7a4 14 15 (.iand) 1 := ⟨by decide +kernel, rfl⟩
theorem dJ6_bitCount_0f7a4_15 : dI cJ6_bitCount_0f7a4 15 16 (.iload_n 0) 1 := ⟨by decide +kernel, rfl⟩
theorem dJ6_bitCount_0f7a4_16 : dI cJ6_bitCount_0f7a4 16 17 (.iconst 2) 1 := ⟨by decide +kernel, rfl⟩
theorem dJ6_bitCount_0f7a4_17 : dI cJ6_bitCount_0f7a4 17 18 (.iushr) 1 := ⟨by decide +kernel, rfl⟩
theorem dJ6_bitCount_0f7a4_18 : dI cJ6_bitCount_0f7a4 18 21 (.ldc_w 266) 3 := ⟨by decide +kernel, rfl⟩
theorem dJ6_bitCount_0f7a4_21 : dI cJ6_bitCount_0f7a4 21 22 (.iand) 1 := ⟨by decide +kernel, rfl⟩
theorem dJ6_bitCount_0f7a4_22 : dI cJ6_bitCount_0f7a4 22 23 (.iadd) 1 := ⟨by decide +kernel, rfl⟩
theorem dJ6_bitCount_0f7a4_23 : dI cJ6_bitCount_0f7a4 23 24 (.istore_n 0) 1 := ⟨by decide +kernel, rfl⟩
theorem dJ6_bitCount_0f7a4_24 : dI cJ6_bitCount_0f7a4 24 25 (.iload_n 0) 1 := ⟨by decide +kernel, rfl⟩
theorem dJ6_bitCount_0f7a4_25 : dI cJ6_bitCount_0f7a4 25 26 (.iload_n 0) 1 := ⟨by decide +kernel, rfl⟩
theorem dJ6_bitCount_0f7a4_26 : dI cJ6_bitCount_0f7a4 26 27 (.iconst 4) 1 := ⟨by decide +kernel, rfl⟩
theorem dJ6_bitCount_0f7a4_27 : dI cJ6_bitCount_0f7a4 27 28 (.iushr) 1 := ⟨by decide +kernel, rfl⟩
theorem dJ6_bitCount_0f7a4_28 : dI cJ6_bitCount_0f7a4 28 29 (.iadd) 1 := ⟨by decide +kernel, rfl⟩
theorem dJ6_bitCount_0f7a4_29 : dI cJ6_bitCount_0f7a4 29 32 (.ldc_w 267) 3 := ⟨by decide +kernel, rfl⟩
theorem dJ6_bitCount_0f7a4_32 : dI cJ6_bitCount_0f7a4 32 33 (.iand) 1 := ⟨by decide +kernel, rfl⟩
theorem dJ6_bitCount_0f7a4_33 : dI cJ6_bitCount_0f7a4 33 34 (.istore_n 0) 1 := ⟨by decide +kernel, rfl⟩
theorem dJ6_bitCount_0f7a4_34 : dI cJ6_bitCount_0f7a4 34 35 (.iload_n 0) 1 := ⟨by decide +kernel, rfl⟩
theorem dJ6_bitCount_0f7a4_35 : dI cJ6_bitCount_0f7a4 35 36 (.iload_n 0) 1 := ⟨by decide +kernel, rfl⟩
theorem dJ6_bitCount_0f7a4_36 : dI cJ6_bitCount_0f7a4 36 38 (.bipush 8) 2 := ⟨by decide +kernel, rfl⟩
theorem dJ6_bitCount_0f7a4_38 : dI cJ6_bitCount_0f7a4 38 39 (.iushr) 1 := ⟨by decide +kernel, rfl⟩
theorem dJ6_bitCount_0f7a4_39 : dI cJ6_bitCount_0f7a4 39 40 (.iadd) 1 := ⟨by decide +kernel, rfl⟩
theorem dJ6_bitCount_0f7a4_40 : dI cJ6_bitCount_0f7a4 40 41 (.istore_n 0) 1 := ⟨by decide +kernel, rfl⟩
theorem dJ6_bitCount_0f7a4_41 : dI cJ6_bitCount_0f7a4 41 42 (.iload_n 0) 1 := ⟨by decide +kernel, rfl⟩
theorem dJ6_bitCount_0f7a4_42 : dI cJ6_bitCount_0f7a4 42 43 (.iload_n 0) 1 := ⟨by decide +kernel, rfl⟩
theorem dJ6_bitCount_0f7a4_43 : dI cJ6_bitCount_0f7a4 43 45 (.bipush 16) 2 := ⟨by decide +kernel, rfl⟩
theorem dJ6_bitCount_0f7a4_45 : dI cJ6_bitCount_0f7a4 45 46 (.iushr) 1 := ⟨by decide +kernel, rfl⟩
theorem dJ6_bitCount_0f7a4_46 : dI cJ6_bitCount_0f7a4 46 47 (.iadd) 1 := ⟨by decide +kernel, rfl⟩
theorem dJ6_bitCount_0f7a4_47 : dI cJ6_bitCount_0f7a4 47 48 (.istore_n 0) 1 := ⟨by decide +kernel, rfl⟩
theorem dJ6_bitCount_0f7a4_48 : dI cJ6_bitCount_0f7a4 48 49 (.iload_n 0) 1 := ⟨by decide +kernel, rfl⟩
theorem dJ6_bitCount_0f7a4_49 : dI cJ6_bitCount_0f7a4 49 51 (.bipush 63) 2 := ⟨by decide +kernel, rfl⟩
theorem dJ6_bitCount_0f7a4_51 : dI cJ6_bitCount_0f7a4 51 52 (.iand) 1 := ⟨by decide +kernel, rfl⟩
theorem dJ6_bitCount_0f7a4_52 : dI cJ6_bitCount_0f7a4 52 53 (.ireturn) 1 := ⟨by decide +kernel, rfl⟩
def f_J6_bitCount_0f7a4 (s : hS) (i0 : Int32) : Option (Int32 × hS) :=
  nmv ((i0 - (((i0).toUInt32 >>> (((1 : Int32)).toUInt32 &&& Int32.toUInt32 31)).toInt32 &&& (1431655765 : Int32)))) fun x1 =>
  nmv (((x1 &&& (858993459 : Int32)) + (((x1).toUInt32 >>> (((2 : Int32)).toUInt32 &&& Int32.toUInt32 31)).toInt32 &&& (858993459 : Int32)))) fun x2 =>
  nmv (((x2 + ((x2).toUInt32 >>> (((4 : Int32)).toUInt32 &&& Int32.toUInt32 31)).toInt32) &&& (252645135 : Int32))) fun x3 =>
  nmv ((x3 + ((x3).toUInt32 >>> (((8 : Int32)).toUInt32 &&& Int32.toUInt32 31)).toInt32)) fun x4 =>
  nmv ((x4 + ((x4).toUInt32 >>> (((16 : Int32)).toUInt32 &&& Int32.toUInt32 31)).toInt32)) fun x5 =>
  some ((x5 &&& (63 : Int32)), s)
theorem b_J6_bitCount_0f7a4_in (E : jE)  (s : hS) (i0 : Int32)  : Jo E M_J6_bitCount_0f7a4 cvI 0 [(0, .int i0)] [] s (f_J6_bitCount_0f7a4 s i0) := by
  unfold f_J6_bitCount_0f7a4
  refine Jo_iloadn 0 dJ6_bitCount_0f7a4_0 rfl rfl ?_
  refine Jo_iloadn 0 dJ6_bitCount_0f7a4_1 rfl rfl ?_
  refine Jo_iconst (v := (1 : Int32)) dJ6_bitCount_0f7a4_2 (by decide) ?_
  refine Jo_iushr dJ6_bitCount_0f7a4_3 ?_
  refine Jo_ldcw dJ6_bitCount_0f7a4_4 w_12 ?_
  refine Jo_iand dJ6_bitCount_0f7a4_7 ?_
  refine Jo_isub dJ6_bitCount_0f7a4_8 ?_
  refine Jo_nm (fun x1 => ?_)
  refine Jo_istoren (ls' := [(0, .int x1)]) dJ6_bitCount_0f7a4_9 rfl (by decide) rfl ?_
  refine Jo_iloadn 0 dJ6_bitCount_0f7a4_10 rfl rfl ?_
  refine Jo_ldcw dJ6_bitCount_0f7a4_11 w_11 ?_
  refine Jo_iand dJ6_bitCount_0f7a4_14 ?_
  refine Jo_iloadn 0 dJ6_bitCount_0f7a4_15 rfl rfl ?_
  refine Jo_iconst (v := (2 : Int32)) dJ6_bitCount_0f7a4_16 (by decide) ?_
  refine Jo_iushr dJ6_bitCount_0f7a4_17 ?_
  refine Jo_ldcw dJ6_bitCount_0f7a4_18 w_11 ?_
  refine Jo_iand dJ6_bitCount_0f7a4_21 ?_
  refine Jo_iadd dJ6_bitCount_0f7a4_22 ?_
  refine Jo_nm (fun x2 => ?_)
  refine Jo_istoren (ls' := [(0, .int x2)]) dJ6_bitCount_0f7a4_23 rfl (by decide) rfl ?_
  refine Jo_iloadn 0 dJ6_bitCount_0f7a4_24 rfl rfl ?_
  refine Jo_iloadn 0 dJ6_bitCount_0f7a4_25 rfl rfl ?_
  refine Jo_iconst (v := (4 : Int32)) dJ6_bitCount_0f7a4_26 (by decide) ?_
  refine Jo_iushr dJ6_bitCount_0f7a4_27 ?_
  refine Jo_iadd dJ6_bitCount_0f7a4_28 ?_
  refine Jo_ldcw dJ6_bitCount_0f7a4_29 w_10 ?_
  refine Jo_iand dJ6_bitCount_0f7a4_32 ?_
  refine Jo_nm (fun x3 => ?_)
  refine Jo_istoren (ls' := [(0, .int x3)]) dJ6_bitCount_0f7a4_33 rfl (by decide) rfl ?_
  refine Jo_iloadn 0 dJ6_bitCount_0f7a4_34 rfl rfl ?_
  refine Jo_iloadn 0 dJ6_bitCount_0f7a4_35 rfl rfl ?_
  refine Jo_bipush (v := (8 : Int32)) dJ6_bitCount_0f7a4_36 (by decide) ?_
  refine Jo_iushr dJ6_bitCount_0f7a4_38 ?_
  refine Jo_iadd dJ6_bitCount_0f7a4_39 ?_
  refine Jo_nm (fun x4 => ?_)
  refine Jo_istoren (ls' := [(0, .int x4)]) dJ6_bitCount_0f7a4_40 rfl (by decide) rfl ?_
  refine Jo_iloadn 0 dJ6_bitCount_0f7a4_41 rfl rfl ?_
  refine Jo_iloadn 0 dJ6_bitCount_0f7a4_42 rfl rfl ?_
  refine Jo_bipush (v := (16 : Int32)) dJ6_bitCount_0f7a4_43 (by decide) ?_
  refine Jo_iushr dJ6_bitCount_0f7a4_45 ?_
  refine Jo_iadd dJ6_bitCount_0f7a4_46 ?_
  refine Jo_nm (fun x5 => ?_)
  refine Jo_istoren (ls' := [(0, .int x5)]) dJ6_bitCount_0f7a4_47 rfl (by decide) rfl ?_
  refine Jo_iloadn 0 dJ6_bitCount_0f7a4_48 rfl rfl ?_
  refine Jo_bipush (v := (63 : Int32)) dJ6_bitCount_0f7a4_49 (by decide) ?_
  refine Jo_iand dJ6_bitCount_0f7a4_51 ?_
  exact Jo_iret rfl dJ6_bitCount_0f7a4_52
theorem K_J6_bitCount_0f7a4 (E : jE) (s : hS) (i0 : Int32) : jK E yJ6_bitCount_0f7a4 M_J6_bitCount_0f7a4 cvI [.int i0] s (f_J6_bitCount_0f7a4 s i0) := jK_of ⟨by decide, rfl, rfl⟩ (Nat.le_of_ble_eq_true rfl) (b_J6_bitCount_0f7a4_in E s i0)
/-! HeronTalk$Tape.<init>()V -/
abbrev M_X3_init : jM := (RX3, cX3_init, 1, (none : Option Jvm.ClassFile.FieldType), "<init>", 1, 20)
theorem yF_X3_init : yF yX3_init M_X3_init 0 := ⟨w_20, w_21, by decide +kernel⟩
theorem yV_X3_init : Cond.instanceMethod yX3_init ∈ tbG ∧ yX3_init.name = "<init>" := ⟨w_22, rfl⟩
theorem dX3_init_0 : dI cX3_init 0 1 (.aload_n 0) 1 := ⟨by decide +kernel, rfl⟩
theorem dX3_init_1 : dI cX3_init 1 4 (.invokespecial 3) 3 := ⟨by decide +kernel, rfl⟩
theorem dX3_init_4 : dI cX3_init 4 5 (.aload_n 0) 1 := ⟨by decide +kernel, rfl⟩
theorem dX3_init_5 : dI cX3_init 5 7 (.bipush 96) 2 := ⟨by decide +kernel, rfl⟩
theorem dX3_init_7 : dI cX3_init 7 9 (.newarray .byte) 2 := ⟨by decide +kernel, rfl⟩
theorem dX3_init_9 : dI cX3_init 9 12 (.putfield 9) 3 := ⟨by decide +kernel, rfl⟩
theorem dX3_init_12 : dI cX3_init 12 13 (.aload_n 0) 1 := ⟨by decide +kernel, rfl⟩
theorem dX3_init_13 : dI cX3_init 13 14 (.iconst 0) 1 := ⟨by decide +kernel, rfl⟩
theorem dX3_init_14 : dI cX3_init 14 17 (.putfield 15) 3 := ⟨by decide +kernel, rfl⟩
theorem dX3_init_17 : dI cX3_init 17 18 (.return_) 1 := ⟨by decide +kernel, rfl⟩
def f_X3_init (s : hS) (a0 : Nat) : Option (Unit × hS) :=
  (nA s 8 (96 : Int32)).bind fun s1 =>
  (pR s1 a0 3 0 s.1).bind fun s2 =>
  (pI s2 a0 3 1 (0 : Int32)).bind fun s3 =>
  some ((), s3)
theorem b_X3_init_in (E : jE)  (s : hS) (a0 : Nat)  : Jo E M_X3_init cvV 0 [(0, .ref a0)] [] s (f_X3_init s a0) := by
  unfold f_X3_init
  refine Jo_aloadn 0 dX3_init_0 rfl rfl ?_
  refine Jo_objInit dX3_init_1 ⟨w_19, w_oi1, w_oi2⟩ ⟨by decide, Nat.le_of_ble_eq_true rfl⟩ ?_
  refine Jo_aloadn 0 dX3_init_4 rfl rfl ?_
  refine Jo_bipush (v := (96 : Int32)) dX3_init_5 (by decide) ?_
  refine Jo_newarr htn_8 nty_8 w_18 dX3_init_7 (fun s1 => ?_)
  refine Jo_putR fF_3_0 fR_3_0 (Or.inr ⟨rfl, rfl, rfl⟩) ⟨rfl, rfl⟩ dX3_init_9 w_17 (fun s2 => ?_)
  refine Jo_aloadn 0 dX3_init_12 rfl rfl ?_
  refine Jo_iconst (v := (0 : Int32)) dX3_init_13 (by decide) ?_
  refine Jo_putI fF_3_1 fI_3_1 (Or.inl rfl) rfl dX3_init_14 w_16 (fun s3 => ?_)
  exact Jo_vret rfl dX3_init_17
theorem K_X3_init (E : jE) (s : hS) (a0 : Nat) : jK E yX3_init M_X3_init cvV [.ref a0] s (f_X3_init s a0) := jK_of ⟨by decide, rfl, rfl⟩ (Nat.le_of_ble_eq_true rfl) (b_X3_init_in E s a0)
/-! HeronTalk$Reader.<init>()V -/
abbrev M_X0_init : jM := (RX0, cX0_init, 1, (none : Option Jvm.ClassFile.FieldType), "<init>", 2, 40)
theorem yF_X0_init : yF yX0_init M_X0_init 0 := ⟨w_31, w_32, by decide +kernel⟩
theorem yV_X0_init : Cond.instanceMethod yX0_init ∈ tbG ∧ yX0_init.name = "<init>" := ⟨w_33, rfl⟩
theorem dX0_init_0 : dI cX0_init 0 1 (.aload_n 0) 1 := ⟨by decide +kernel, rfl⟩
theorem dX0_init_1 : dI cX0_init 1 4 (.invokespecial 3) 3 := ⟨by decide +kernel, rfl⟩
theorem dX0_init_4 : dI cX0_init 4 5 (.aload_n 0) 1 := ⟨by decide +kernel, rfl⟩
theorem dX0_init_5 : dI cX0_init 5 8 (.new 9) 3 := ⟨by decide +kernel, rfl⟩
theorem dX0_init_8 : dI cX0_init 8 9 (.dup) 1 := ⟨by decide +kernel, rfl⟩
theorem dX0_init_9 : decode cX0_init 9 = .ok (.invokespecial 11, 3) := by decide +kernel
theorem dX0_init_12 : dI cX0_init 12 15 (.putfield 12) 3 := ⟨by decide +kernel, rfl⟩
theorem dX0_init_15 : dI cX0_init 15 16 (.aload_n 0) 1 := ⟨by decide +kernel, rfl⟩
theorem dX0_init_16 : dI cX0_init 16 18 (.bipush 96) 2 := ⟨by decide +kernel, rfl⟩
theorem dX0_init_18 : dI cX0_init 18 20 (.newarray .int) 2 := ⟨by decide +kernel, rfl⟩
theorem dX0_init_20 : dI cX0_init 20 23 (.putfield 18) 3 := ⟨by decide +kernel, rfl⟩
theorem dX0_init_23 : dI cX0_init 23 24 (.aload_n 0) 1 := ⟨by decide +kernel, rfl⟩
theorem dX0_init_24 : dI cX0_init 24 26 (.bipush 96) 2 := ⟨by decide +kernel, rfl⟩
theorem dX0_init_26 : dI cX0_init 26 28 (.newarray .int) 2 := ⟨by decide +kernel, rfl⟩
theorem dX0_init_28 : dI cX0_init 28 31 (.putfield 22) 3 := ⟨by decide +kernel, rfl⟩
theorem dX0_init_31 : dI cX0_init 31 32 (.return_) 1 := ⟨by decide +kernel, rfl⟩
def f_X0_init (s : hS) (a0 : Nat) : Option (Unit × hS) :=
  (nB s 3 2).bind fun s1 =>
  (f_X3_init s1 s.1).bind fun p2 =>
  (pR p2.2 a0 0 0 s.1).bind fun s3 =>
  (nA s3 10 (96 : Int32)).bind fun s4 =>
  (pR s4 a0 0 1 s3.1).bind fun s5 =>
  (nA s5 10 (96 : Int32)).bind fun s6 =>
  (pR s6 a0 0 3 s5.1).bind fun s7 =>
  some ((), s7)
theorem b_X0_init_in (E : jE)  (s : hS) (a0 : Nat)  : Jo E M_X0_init cvV 0 [(0, .ref a0)] [] s (f_X0_init s a0) := by
  unfold f_X0_init
  refine Jo_aloadn 0 dX0_init_0 rfl rfl ?_
  refine Jo_objInit dX0_init_1 ⟨w_30, w_oi1, w_oi2⟩ ⟨by decide, Nat.le_of_ble_eq_true rfl⟩ ?_
  refine Jo_aloadn 0 dX0_init_4 rfl rfl ?_
  refine Jo_newB nf_3 ⟨w_28, w_29, w_21⟩ n0_3 dX0_init_5 (fun s1 => ?_)
  refine Jo_dup dX0_init_8 rfl ?_
  refine Jo_callCv (a := s.1) (rest := [.ref s.1, .ref a0]) [] rfl yF_X3_init yV_X3_init w_27 rfl rfl ⟨Nat.le_of_ble_eq_true rfl, Nat.le_of_ble_eq_true rfl, Nat.le_of_ble_eq_true rfl⟩ dX0_init_9 rfl (K_X3_init E s1 s.1) (fun p2 => ?_)
  refine Jo_putR fF_0_0 fR_0_0 (Or.inr ⟨rfl, rfl, rfl⟩) ⟨rfl, rfl⟩ dX0_init_12 w_26 (fun s3 => ?_)
  refine Jo_aloadn 0 dX0_init_15 rfl rfl ?_
  refine Jo_bipush (v := (96 : Int32)) dX0_init_16 (by decide) ?_
  refine Jo_newarr htn_10 nty_10 w_24 dX0_init_18 (fun s4 => ?_)
  refine Jo_putR fF_0_1 fR_0_1 (Or.inr ⟨rfl, rfl, rfl⟩) ⟨rfl, rfl⟩ dX0_init_20 w_25 (fun s5 => ?_)
  refine Jo_aloadn 0 dX0_init_23 rfl rfl ?_
  refine Jo_bipush (v := (96 : Int32)) dX0_init_24 (by decide) ?_
  refine Jo_newarr htn_10 nty_10 w_24 dX0_init_26 (fun s6 => ?_)
  refine Jo_putR fF_0_3 fR_0_3 (Or.inr ⟨rfl, rfl, rfl⟩) ⟨rfl, rfl⟩ dX0_init_28 w_23 (fun s7 => ?_)
  exact Jo_vret rfl dX0_init_31
theorem K_X0_init (E : jE) (s : hS) (a0 : Nat) : jK E yX0_init M_X0_init cvV [.ref a0] s (f_X0_init s a0) := jK_of ⟨by decide, rfl, rfl⟩ (Nat.le_of_ble_eq_true rfl) (b_X0_init_in E s a0)
/-! HeronTalk$Tape.at(I)I -/
abbrev M_X3_at : jM := (RX3, cX3_at, 2, (some .int), "at", 0, 0)
theorem yF_X3_at : yF yX3_at M_X3_at 1 := ⟨w_34, w_21, by decide +kernel⟩
theorem yV_X3_at : Cond.instanceMethod yX3_at ∈ tbG ∧ Cond.selects yX3_at.cls yX3_at yX3_at ∈ tbG := ⟨w_35, w_36⟩
theorem dX3_at_0 : dI cX3_at 0 1 (.iload_n 1) 1 := ⟨by decide +kernel, rfl⟩
theorem dX3_at_1 : decode cX3_at 1 = .ok (.ifCond .lt 24, 3) := by decide +kernel
theorem dX3_at_4 : dI cX3_at 4 5 (.iload_n 1) 1 := ⟨by decide +kernel, rfl⟩
theorem dX3_at_5 : dI cX3_at 5 6 (.aload_n 0) 1 := ⟨by decide +kernel, rfl⟩
theorem dX3_at_6 : dI cX3_at 6 9 (.getfield 15) 3 := ⟨by decide +kernel, rfl⟩
theorem dX3_at_9 : decode cX3_at 9 = .ok (.if_icmp .ge 16, 3) := by decide +kernel
theorem dX3_at_12 : dI cX3_at 12 13 (.aload_n 0) 1 := ⟨by decide +kernel, rfl⟩
theorem dX3_at_13 : dI cX3_at 13 16 (.getfield 9) 3 := ⟨by decide +kernel, rfl⟩
theorem dX3_at_16 : dI cX3_at 16 17 (.iload_n 1) 1 := ⟨by decide +kernel, rfl⟩
theorem dX3_at_17 : dI cX3_at 17 18 (.baload) 1 := ⟨by decide +kernel, rfl⟩
theorem dX3_at_18 : dI cX3_at 18 21 (.sipush 255) 3 := ⟨by decide +kernel, rfl⟩
theorem dX3_at_21 : dI cX3_at 21 22 (.iand) 1 := ⟨by decide +kernel, rfl⟩
theorem dX3_at_22 : decode cX3_at 22 = .ok (.goto 4, 3) := by decide +kernel
theorem dX3_at_25 : dI cX3_at 25 26 (.iconst (-1)) 1 := ⟨by decide +kernel, rfl⟩
theorem dX3_at_26 : dI cX3_at 26 27 (.ireturn) 1 := ⟨by decide +kernel, rfl⟩
def f_X3_at (s : hS) (a0 : Nat) (i1 : Int32) : Option (Int32 × hS) :=
  if i1 < 0 then
    some ((-1 : Int32), s)
  else
    (gI s a0 3 1).bind fun x1 =>
    if x1 ≤ i1 then
      some ((-1 : Int32), s)
    else
      (gR s a0 3 0).bind fun a2 =>
      (aI s a2 8 i1).bind fun x3 =>
      some ((x3 &&& (255 : Int32)), s)
theorem b_X3_at_in (E : jE)  (s : hS) (a0 : Nat) (i1 : Int32)  : Jo E M_X3_at cvI 0 [(0, .ref a0), (1, .int i1)] [] s (f_X3_at s a0 i1) := by
  unfold f_X3_at
  refine Jo_iloadn 1 dX3_at_0 rfl rfl ?_
  refine Jo_if_lt 25 dX3_at_1 (by decide) rfl ?_ ?_
  · refine Jo_iconst (v := (-1 : Int32)) dX3_at_25 (by decide) ?_
    exact Jo_iret rfl dX3_at_26
  · refine Jo_iloadn 1 dX3_at_4 rfl rfl ?_
    refine Jo_aloadn 0 dX3_at_5 rfl rfl ?_
    refine Jo_getI fF_3_1 fI_3_1 dX3_at_6 w_16 (fun x1 => ?_)
    refine Jo_icmp_ge 25 dX3_at_9 (by decide) rfl ?_ ?_
    · refine Jo_iconst (v := (-1 : Int32)) dX3_at_25 (by decide) ?_
      exact Jo_iret rfl dX3_at_26
    · refine Jo_aloadn 0 dX3_at_12 rfl rfl ?_
      refine Jo_getR fF_3_0 fR_3_0 dX3_at_13 w_17 (fun a2 => ?_)
      refine Jo_iloadn 1 dX3_at_16 rfl rfl ?_
      refine Jo_baload dX3_at_17 (fun x3 => ?_)
      refine Jo_sipush (v := (255 : Int32)) dX3_at_18 (by decide) ?_
      refine Jo_iand dX3_at_21 ?_
      refine Jo_goto 26 dX3_at_22 (by decide) ?_
      exact Jo_iret rfl dX3_at_26
theorem K_X3_at (E : jE) (s : hS) (a0 : Nat) (i1 : Int32) : jK E yX3_at M_X3_at cvI [.ref a0, .int i1] s (f_X3_at s a0 i1) := jK_of ⟨by decide, rfl, rfl⟩ (Nat.le_of_ble_eq_true rfl) (b_X3_at_in E s a0 i1)
/-! HeronTalk$Tape.behindBlanks(I)I -/
abbrev M_X3_behindBlanks : jM := (RX3, cX3_behindBlanks, 3, (some .int), "behindBlanks", 1, 21)
theorem yF_X3_behindBlanks : yF yX3_behindBlanks M_X3_behindBlanks 1 := ⟨w_38, w_21, by decide +kernel⟩
theorem yV_X3_behindBlanks : Cond.instanceMethod yX3_behindBlanks ∈ tbG ∧ Cond.selects yX3_behindBlanks.cls yX3_behindBlanks yX3_behindBlanks ∈ tbG := ⟨w_39, w_40⟩
theorem dX3_behindBlanks_0 : dI cX3_behindBlanks 0 1 (.iload_n 1) 1 := ⟨by decide +kernel, rfl⟩
theorem dX3_behindBlanks_1 : dI cX3_behindBlanks 1 2 (.istore_n 2) 1 := ⟨by decide +kernel, rfl⟩
theorem dX3_behindBlanks_2 : dI cX3_behindBlanks 2 3 (.iload_n 2) 1 := ⟨by decide +kernel, rfl⟩
theorem dX3_behindBlanks_3 : dI cX3_behindBlanks 3 4 (.aload_n 0) 1 := ⟨by decide +kernel, rfl⟩
theorem dX3_behindBlanks_4 : dI cX3_behindBlanks 4 7 (.getfield 15) 3 := ⟨by decide +kernel, rfl⟩
theorem dX3_behindBlanks_7 : decode cX3_behindBlanks 7 = .ok (.if_icmp .ge 19, 3) := by decide +kernel
theorem dX3_behindBlanks_10 : dI cX3_behindBlanks 10 11 (.aload_n 0) 1 := ⟨by decide +kernel, rfl⟩
theorem dX3_behindBlanks_11 : dI cX3_behindBlanks 11 12 (.iload_n 2) 1 := ⟨by decide +kernel, rfl⟩
theorem dX3_behindBlanks_12 : decode cX3_behindBlanks 12 = .ok (.invokevirtual 19, 3) := by decide +kernel
theorem dX3_behindBlanks_15 : dI cX3_behindBlanks 15 17 (.bipush 32) 2 := ⟨by decide +kernel, rfl⟩
theorem dX3_behindBlanks_17 : decode cX3_behindBlanks 17 = .ok (.if_icmp .ne 9, 3) := by decide +kernel
theorem dX3_behindBlanks_20 : dI cX3_behindBlanks 20 23 (.iinc 2 1) 3 := ⟨by decide +kernel, rfl⟩
theorem dX3_behindBlanks_23 : decode cX3_behindBlanks 23 = .ok (.goto (-21), 3) := by decide +kernel
theorem dX3_behindBlanks_26 : dI cX3_behindBlanks 26 27 (.iload_n 2) 1 := ⟨by decide +kernel, rfl⟩
theorem dX3_behindBlanks_27 : dI cX3_behindBlanks 27 28 (.ireturn) 1 := ⟨by decide +kernel, rfl⟩
def f_X3_behindBlanks_b2 (k2 : Nat → Int32 → hS → Option (Int32 × hS)) (l0 : Nat) (l2 : Int32) (s : hS) : Option (Int32 × hS) :=
  (gI s l0 3 1).bind fun x1 =>
  if x1 ≤ l2 then
    some (l2, s)
  else
    (cV s l0 3 (f_X3_at s l0 l2)).bind fun p2 =>
    if p2.1 = (32 : Int32) then
      k2 l0 (l2 + (1 : Int32)) p2.2
    else
      some (l2, p2.2)
theorem b_X3_behindBlanks_2 (E : jE) (k2 : Nat → Int32 → hS → Option (Int32 × hS)) (h2 : ∀ (s : hS) (l0 : Nat) (l2 : Int32) , Jo E M_X3_behindBlanks cvI 2 [(0, .ref l0), (2, .int l2)] [] s (k2 l0 l2 s)) (s : hS) (l0 : Nat) (l2 : Int32)  : Jo E M_X3_behindBlanks cvI 2 [(0, .ref l0), (2, .int l2)] [] s (f_X3_behindBlanks_b2 k2 l0 l2 s) := by
  unfold f_X3_behindBlanks_b2
  refine Jo_iloadn 1 dX3_behindBlanks_2 rfl rfl ?_
  refine Jo_aloadn 0 dX3_behindBlanks_3 rfl rfl ?_
  refine Jo_getI fF_3_1 fI_3_1 dX3_behindBlanks_4 w_16 (fun x1 => ?_)
  refine Jo_icmp_ge 26 dX3_behindBlanks_7 (by decide) rfl ?_ ?_
  · refine Jo_iloadn 1 dX3_behindBlanks_26 rfl rfl ?_
    exact Jo_iret rfl dX3_behindBlanks_27
  · refine Jo_aloadn 0 dX3_behindBlanks_10 rfl rfl ?_
    refine Jo_iloadn 1 dX3_behindBlanks_11 rfl rfl ?_
    refine Jo_callVi (a := l0) (rest := []) [.int l2] cc_3 yF_X3_at yV_X3_at w_37 rfl rfl ⟨Nat.le_of_ble_eq_true rfl, Nat.le_of_ble_eq_true rfl, Nat.le_of_ble_eq_true rfl⟩ dX3_behindBlanks_12 rfl (K_X3_at E s l0 l2) (fun p2 => ?_)
    refine Jo_bipush (v := (32 : Int32)) dX3_behindBlanks_15 (by decide) ?_
    refine Jo_icmp_ne 26 dX3_behindBlanks_17 (by decide) rfl ?_ ?_
    · refine Jo_iinc (v := (l2 + (1 : Int32))) (ls' := [(2, .int (l2 + (1 : Int32))), (0, .ref l0)]) 1 dX3_behindBlanks_20 rfl rfl (by decide) rfl ?_
      refine Jo_goto 2 dX3_behindBlanks_23 (by decide) ?_
      refine Jo_sub [1, 0] rfl ?_
      exact h2 p2.2 l0 (l2 + (1 : Int32))
    · refine Jo_iloadn 1 dX3_behindBlanks_26 rfl rfl ?_
      exact Jo_iret rfl dX3_behindBlanks_27
theorem e_X3_behindBlanks_2 (E : jE)  (n : Nat) : ∀ (s : hS) (l0 : Nat) (l2 : Int32) , Jo E M_X3_behindBlanks cvI 2 [(0, .ref l0), (2, .int l2)] [] s ((jL f_X3_behindBlanks_b2 (fun _ _ _ => none) n) l0 l2 s) :=
  jL_ind (P := fun f => ∀ (s : hS) (l0 : Nat) (l2 : Int32) , Jo E M_X3_behindBlanks cvI 2 [(0, .ref l0), (2, .int l2)] [] s (f l0 l2 s)) (fun _ _ _ => Jo_none) (fun b hb s l0 l2 => b_X3_behindBlanks_2 E  b hb s l0 l2) n
def f_X3_behindBlanks (s : hS) (a0 : Nat) (i1 : Int32) : Option (Int32 × hS) :=
  jL f_X3_behindBlanks_b2 (fun _ _ _ => none) jF a0 i1 s
theorem b_X3_behindBlanks_in (E : jE)  (s : hS) (a0 : Nat) (i1 : Int32)  : Jo E M_X3_behindBlanks cvI 0 [(0, .ref a0), (1, .int i1)] [] s (f_X3_behindBlanks s a0 i1) := by
  unfold f_X3_behindBlanks
  refine Jo_iloadn 1 dX3_behindBlanks_0 rfl rfl ?_
  refine Jo_istoren (ls' := [(2, .int i1), (0, .ref a0), (1, .int i1)]) dX3_behindBlanks_1 rfl (by decide) rfl ?_
  refine Jo_sub [1, 0] rfl ?_
  exact e_X3_behindBlanks_2 E jF s a0 i1
theorem K_X3_behindBlanks (E : jE) (s : hS) (a0 : Nat) (i1 : Int32) : jK E yX3_behindBlanks M_X3_behindBlanks cvI [.ref a0, .int i1] s (f_X3_behindBlanks s a0 i1) := jK_of ⟨by decide, rfl, rfl⟩ (Nat.le_of_ble_eq_true rfl) (b_X3_behindBlanks_in E s a0 i1)
/-! HeronTalk$Tape.hasLetter(I)Z -/
abbrev M_X3_hasLetter : jM := (RX3, cX3_hasLetter, 2, (some .boolean), "hasLetter", 1, 21)
theorem yF_X3_hasLetter : yF yX3_hasLetter M_X3_hasLetter 1 := ⟨w_41, w_21, by decide +kernel⟩
theorem yV_X3_hasLetter : Cond.instanceMethod yX3_hasLetter ∈ tbG ∧ Cond.selects yX3_hasLetter.cls yX3_hasLetter yX3_hasLetter ∈ tbG := ⟨w_42, w_43⟩
theorem dX3_hasLetter_0 : dI cX3_hasLetter 0 1 (.aload_n 0) 1 := ⟨by decide +kernel, rfl⟩
theorem dX3_hasLetter_1 : dI cX3_hasLetter 1 2 (.iload_n 1) 1 := ⟨by decide +kernel, rfl⟩
theorem dX3_hasLetter_2 : decode cX3_hasLetter 2 = .ok (.invokevirtual 19, 3) := by decide +kernel
theorem dX3_hasLetter_5 : dI cX3_hasLetter 5 7 (.bipush 97) 2 := ⟨by decide +kernel, rfl⟩
theorem dX3_hasLetter_7 : decode cX3_hasLetter 7 = .ok (.if_icmp .lt 17, 3) := by decide +kernel
theorem dX3_hasLetter_10 : dI cX3_hasLetter 10 11 (.aload_n 0) 1 := ⟨by decide +kernel, rfl⟩
theorem dX3_hasLetter_11 : dI cX3_hasLetter 11 12 (.iload_n 1) 1 := ⟨by decide +kernel, rfl⟩
theorem dX3_hasLetter_12 : decode cX3_hasLetter 12 = .ok (.invokevirtual 19, 3) := by decide +kernel
theorem dX3_hasLetter_15 : dI cX3_hasLetter 15 17 (.bipush 122) 2 := ⟨by decide +kernel, rfl⟩
theorem dX3_hasLetter_17 : decode cX3_hasLetter 17 = .ok (.if_icmp .gt 7, 3) := by decide +kernel
theorem dX3_hasLetter_20 : dI cX3_hasLetter 20 21 (.iconst 1) 1 := ⟨by decide +kernel, rfl⟩
theorem dX3_hasLetter_21 : decode cX3_hasLetter 21 = .ok (.goto 4, 3) := by decide +kernel
theorem dX3_hasLetter_24 : dI cX3_hasLetter 24 25 (.iconst 0) 1 := ⟨by decide +kernel, rfl⟩
theorem dX3_hasLetter_25 : dI cX3_hasLetter 25 26 (.ireturn) 1 := ⟨by decide +kernel, rfl⟩
def f_X3_hasLetter (s : hS) (a0 : Nat) (i1 : Int32) : Option (Int32 × hS) :=
  (cV s a0 3 (f_X3_at s a0 i1)).bind fun p1 =>
  if p1.1 < (97 : Int32) then
    some ((0 : Int32), p1.2)
  else
    (cV p1.2 a0 3 (f_X3_at p1.2 a0 i1)).bind fun p2 =>
    if (122 : Int32) < p2.1 then
      some ((0 : Int32), p2.2)
    else
      some ((1 : Int32), p2.2)
theorem b_X3_hasLetter_in (E : jE)  (s : hS) (a0 : Nat) (i1 : Int32)  : Jo E M_X3_hasLetter cvI 0 [(0, .ref a0), (1, .int i1)] [] s (f_X3_hasLetter s a0 i1) := by
  unfold f_X3_hasLetter
  refine Jo_aloadn 0 dX3_hasLetter_0 rfl rfl ?_
  refine Jo_iloadn 1 dX3_hasLetter_1 rfl rfl ?_
  refine Jo_callVi (a := a0) (rest := []) [.int i1] cc_3 yF_X3_at yV_X3_at w_37 rfl rfl ⟨Nat.le_of_ble_eq_true rfl, Nat.le_of_ble_eq_true rfl, Nat.le_of_ble_eq_true rfl⟩ dX3_hasLetter_2 rfl (K_X3_at E s a0 i1) (fun p1 => ?_)
  refine Jo_bipush (v := (97 : Int32)) dX3_hasLetter_5 (by decide) ?_
  refine Jo_icmp_lt 24 dX3_hasLetter_7 (by decide) rfl ?_ ?_
  · refine Jo_iconst (v := (0 : Int32)) dX3_hasLetter_24 (by decide) ?_
    exact Jo_zret0 rfl dX3_hasLetter_25
  · refine Jo_aloadn 0 dX3_hasLetter_10 rfl rfl ?_
    refine Jo_iloadn 1 dX3_hasLetter_11 rfl rfl ?_
    refine Jo_callVi (a := a0) (rest := []) [.int i1] cc_3 yF_X3_at yV_X3_at w_37 rfl rfl ⟨Nat.le_of_ble_eq_true rfl, Nat.le_of_ble_eq_true rfl, Nat.le_of_ble_eq_true rfl⟩ dX3_hasLetter_12 rfl (K_X3_at E p1.2 a0 i1) (fun p2 => ?_)
    refine Jo_bipush (v := (122 : Int32)) dX3_hasLetter_15 (by decide) ?_
    refine Jo_icmp_gt 24 dX3_hasLetter_17 (by decide) rfl ?_ ?_
    · refine Jo_iconst (v := (0 : Int32)) dX3_hasLetter_24 (by decide) ?_
      exact Jo_zret0 rfl dX3_hasLetter_25
    · refine Jo_iconst (v := (1 : Int32)) dX3_hasLetter_20 (by decide) ?_
      refine Jo_goto 25 dX3_hasLetter_21 (by decide) ?_
      exact Jo_zret1 rfl dX3_hasLetter_25
theorem K_X3_hasLetter (E : jE) (s : hS) (a0 : Nat) (i1 : Int32) : jK E yX3_hasLetter M_X3_hasLetter cvI [.ref a0, .int i1] s (f_X3_hasLetter s a0 i1) := jK_of ⟨by decide, rfl, rfl⟩ (Nat.le_of_ble_eq_true rfl) (b_X3_hasLetter_in E s a0 i1)
/-! HeronTalk$Tape.hasDigit(I)Z -/
abbrev M_X3_hasDigit : jM := (RX3, cX3_hasDigit, 2, (some .boolean), "hasDigit", 1, 21)
theorem yF_X3_hasDigit : yF yX3_hasDigit M_X3_hasDigit 1 := ⟨w_44, w_21, by decide +kernel⟩
theorem yV_X3_hasDigit : Cond.instanceMethod yX3_hasDigit ∈ tbG ∧ Cond.selects yX3_hasDigit.cls yX3_hasDigit yX3_hasDigit ∈ tbG := ⟨w_45, w_46⟩
theorem dX3_hasDigit_0 : dI cX3_hasDigit 0 1 (.aload_n 0) 1 := ⟨by decide +kernel, rfl⟩
theorem dX3_hasDigit_1 : dI cX3_hasDigit 1 2 (.iload_n 1) 1 := ⟨by decide +kernel, rfl⟩
theorem dX3_hasDigit_2 : decode cX3_hasDigit 2 = .ok (.invokevirtual 19, 3) := by decide +kernel
theorem dX3_hasDigit_5 : dI cX3_hasDigit 5 7 (.bipush 48) 2 := ⟨by decide +kernel, rfl⟩
theorem dX3_hasDigit_7 : decode cX3_hasDigit 7 = .ok (.if_icmp .lt 17, 3) := by decide +kernel
theorem dX3_hasDigit_10 : dI cX3_hasDigit 10 11 (.aload_n 0) 1 := ⟨by decide +kernel, rfl⟩
theorem dX3_hasDigit_11 : dI cX3_hasDigit 11 12 (.iload_n 1) 1 := ⟨by decide +kernel, rfl⟩
theorem dX3_hasDigit_12 : decode cX3_hasDigit 12 = .ok (.invokevirtual 19, 3) := by decide +kernel
theorem dX3_hasDigit_15 : dI cX3_hasDigit 15 17 (.bipush 57) 2 := ⟨by decide +kernel, rfl⟩
theorem dX3_hasDigit_17 : decode cX3_hasDigit 17 = .ok (.if_icmp .gt 7, 3) := by decide +kernel
theorem dX3_hasDigit_20 : dI cX3_hasDigit 20 21 (.iconst 1) 1 := ⟨by decide +kernel, rfl⟩
theorem dX3_hasDigit_21 : decode cX3_hasDigit 21 = .ok (.goto 4, 3) := by decide +kernel
theorem dX3_hasDigit_24 : dI cX3_hasDigit 24 25 (.iconst 0) 1 := ⟨by decide +kernel, rfl⟩
theorem dX3_hasDigit_25 : dI cX3_hasDigit 25 26 (.ireturn) 1 := ⟨by decide +kernel, rfl⟩
def f_X3_hasDigit (s : hS) (a0 : Nat) (i1 : Int32) : Option (Int32 × hS) :=
  (cV s a0 3 (f_X3_at s a0 i1)).bind fun p1 =>
  if p1.1 < (48 : Int32) then
    some ((0 : Int32), p1.2)
  else
    (cV p1.2 a0 3 (f_X3_at p1.2 a0 i1)).bind fun p2 =>
    if (57 : Int32) < p2.1 then
      some ((0 : Int32), p2.2)
    else
      some ((1 : Int32), p2.2)
theorem b_X3_hasDigit_in (E : jE)  (s : hS) (a0 : Nat) (i1 : Int32)  : Jo E M_X3_hasDigit cvI 0 [(0, .ref a0), (1, .int i1)] [] s (f_X3_hasDigit s a0 i1) := by
  unfold f_X3_hasDigit
  refine Jo_aloadn 0 dX3_hasDigit_0 rfl rfl ?_
  refine Jo_iloadn 1 dX3_hasDigit_1 rfl rfl ?_
  refine Jo_callVi (a := a0) (rest := []) [.int i1] cc_3 yF_X3_at yV_X3_at w_37 rfl rfl ⟨Nat.le_of_ble_eq_true rfl, Nat.le_of_ble_eq_true rfl, Nat.le_of_ble_eq_true rfl⟩ dX3_hasDigit_2 rfl (K_X3_at E s a0 i1) (fun p1 => ?_)
  refine Jo_bipush (v := (48 : Int32)) dX3_hasDigit_5 (by decide) ?_
  refine Jo_icmp_lt 24 dX3_hasDigit_7 (by decide) rfl ?_ ?_
  · refine Jo_iconst (v := (0 : Int32)) dX3_hasDigit_24 (by decide) ?_
    exact Jo_zret0 rfl dX3_hasDigit_25
  · refine Jo_aloadn 0 dX3_hasDigit_10 rfl rfl ?_
    refine Jo_iloadn 1 dX3_hasDigit_11 rfl rfl ?_
    refine Jo_callVi (a := a0) (rest := []) [.int i1] cc_3 yF_X3_at yV_X3_at w_37 rfl rfl ⟨Nat.le_of_ble_eq_true rfl, Nat.le_of_ble_eq_true rfl, Nat.le_of_ble_eq_true rfl⟩ dX3_hasDigit_12 rfl (K_X3_at E p1.2 a0 i1) (fun p2 => ?_)
    refine Jo_bipush (v := (57 : Int32)) dX3_hasDigit_15 (by decide) ?_
    refine Jo_icmp_gt 24 dX3_hasDigit_17 (by decide) rfl ?_ ?_
    · refine Jo_iconst (v := (0 : Int32)) dX3_hasDigit_24 (by decide) ?_
      exact Jo_zret0 rfl dX3_hasDigit_25
    · refine Jo_iconst (v := (1 : Int32)) dX3_hasDigit_20 (by decide) ?_
      refine Jo_goto 25 dX3_hasDigit_21 (by decide) ?_
      exact Jo_zret1 rfl dX3_hasDigit_25
theorem K_X3_hasDigit (E : jE) (s : hS) (a0 : Nat) (i1 : Int32) : jK E yX3_hasDigit M_X3_hasDigit cvI [.ref a0, .int i1] s (f_X3_hasDigit s a0 i1) := jK_of ⟨by decide, rfl, rfl⟩ (Nat.le_of_ble_eq_true rfl) (b_X3_hasDigit_in E s a0 i1)
/-! HeronTalk$Tape.behindWord(I)I -/
abbrev M_X3_behindWord : jM := (RX3, cX3_behindWord, 3, (some .int), "behindWord", 2, 42)
theorem yF_X3_behindWord : yF yX3_behindWord M_X3_behindWord 1 := ⟨w_50, w_21, by decide +kernel⟩
theorem yV_X3_behindWord : Cond.instanceMethod yX3_behindWord ∈ tbG ∧ Cond.selects yX3_behindWord.cls yX3_behindWord yX3_behindWord ∈ tbG := ⟨w_51, w_52⟩
theorem dX3_behindWord_0 : dI cX3_behindWord 0 1 (.iload_n 1) 1 := ⟨by decide +kernel, rfl⟩
theorem dX3_behindWord_1 : dI cX3_behindWord 1 2 (.istore_n 2) 1 := ⟨by decide +kernel, rfl⟩
theorem dX3_behindWord_2 : dI cX3_behindWord 2 3 (.aload_n 0) 1 := ⟨by decide +kernel, rfl⟩
theorem dX3_behindWord_3 : dI cX3_behindWord 3 4 (.iload_n 1) 1 := ⟨by decide +kernel, rfl⟩
theorem dX3_behindWord_4 : decode cX3_behindWord 4 = .ok (.invokevirtual 23, 3) := by decide +kernel
theorem dX3_behindWord_7 : decode cX3_behindWord 7 = .ok (.ifCond .eq 27, 3) := by decide +kernel
theorem dX3_behindWord_10 : dI cX3_behindWord 10 11 (.iload_n 2) 1 := ⟨by decide +kernel, rfl⟩
theorem dX3_behindWord_11 : dI cX3_behindWord 11 12 (.aload_n 0) 1 := ⟨by decide +kernel, rfl⟩
theorem dX3_behindWord_12 : dI cX3_behindWord 12 15 (.getfield 15) 3 := ⟨by decide +kernel, rfl⟩
theorem dX3_behindWord_15 : decode cX3_behindWord 15 = .ok (.if_icmp .ge 17, 3) := by decide +kernel
theorem dX3_behindWord_18 : dI cX3_behindWord 18 19 (.aload_n 0) 1 := ⟨by decide +kernel, rfl⟩
theorem dX3_behindWord_19 : dI cX3_behindWord 19 20 (.iload_n 2) 1 := ⟨by decide +kernel, rfl⟩
theorem dX3_behindWord_20 : decode cX3_behindWord 20 = .ok (.invokevirtual 23, 3) := by decide +kernel
theorem dX3_behindWord_23 : decode cX3_behindWord 23 = .ok (.ifCond .eq 9, 3) := by decide +kernel
theorem dX3_behindWord_26 : dI cX3_behindWord 26 29 (.iinc 2 1) 3 := ⟨by decide +kernel, rfl⟩
theorem dX3_behindWord_29 : decode cX3_behindWord 29 = .ok (.goto (-19), 3) := by decide +kernel
theorem dX3_behindWord_32 : dI cX3_behindWord 32 33 (.iload_n 2) 1 := ⟨by decide +kernel, rfl⟩
theorem dX3_behindWord_33 : dI cX3_behindWord 33 34 (.ireturn) 1 := ⟨by decide +kernel, rfl⟩
theorem dX3_behindWord_34 : dI cX3_behindWord 34 35 (.aload_n 0) 1 := ⟨by decide +kernel, rfl⟩
theorem dX3_behindWord_35 : dI cX3_behindWord 35 36 (.iload_n 1) 1 := ⟨by decide +kernel, rfl⟩
theorem dX3_behindWord_36 : decode cX3_behindWord 36 = .ok (.invokevirtual 27, 3) := by decide +kernel
theorem dX3_behindWord_39 : decode cX3_behindWord 39 = .ok (.ifCond .eq 27, 3) := by decide +kernel
theorem dX3_behindWord_42 : dI cX3_behindWord 42 43 (.iload_n 2) 1 := ⟨by decide +kernel, rfl⟩
theorem dX3_behindWord_43 : dI cX3_behindWord 43 44 (.aload_n 0) 1 := ⟨by decide +kernel, rfl⟩
theorem dX3_behindWord_44 : dI cX3_behindWord 44 47 (.getfield 15) 3 := ⟨by decide +kernel, rfl⟩
theorem dX3_behindWord_47 : decode cX3_behindWord 47 = .ok (.if_icmp .ge 17, 3) := by decide +kernel
theorem dX3_behindWord_50 : dI cX3_behindWord 50 51 (.aload_n 0) 1 := ⟨by decide +kernel, rfl⟩
theorem dX3_behindWord_51 : dI cX3_behindWord 51 52 (.iload_n 2) 1 := ⟨by decide +kernel, rfl⟩
theorem dX3_behindWord_52 : decode cX3_behindWord 52 = .ok (.invokevirtual 27, 3) := by decide +kernel
theorem dX3_behindWord_55 : decode cX3_behindWord 55 = .ok (.ifCond .eq 9, 3) := by decide +kernel
theorem dX3_behindWord_58 : dI cX3_behindWord 58 61 (.iinc 2 1) 3 := ⟨by decide +kernel, rfl⟩
theorem dX3_behindWord_61 : decode cX3_behindWord 61 = .ok (.goto (-19), 3) := by decide +kernel
theorem dX3_behindWord_64 : dI cX3_behindWord 64 65 (.iload_n 2) 1 := ⟨by decide +kernel, rfl⟩
theorem dX3_behindWord_65 : dI cX3_behindWord 65 66 (.ireturn) 1 := ⟨by decide +kernel, rfl⟩
theorem dX3_behindWord_66 : dI cX3_behindWord 66 67 (.iload_n 1) 1 := ⟨by decide +kernel, rfl⟩
theorem dX3_behindWord_67 : dI cX3_behindWord 67 68 (.iconst 1) 1 := ⟨by decide +kernel, rfl⟩
theorem dX3_behindWord_68 : dI cX3_behindWord 68 69 (.iadd) 1 := ⟨by decide +kernel, rfl⟩
theorem dX3_behindWord_69 : dI cX3_behindWord 69 70 (.aload_n 0) 1 := ⟨by decide +kernel, rfl⟩
theorem dX3_behindWord_70 : dI cX3_behindWord 70 73 (.getfield 15) 3 := ⟨by decide +kernel, rfl⟩
theorem dX3_behindWord_73 : dI cX3_behindWord 73 76 (.invokestatic 30) 3 := ⟨by decide +kernel, rfl⟩
theorem dX3_behindWord_76 : dI cX3_behindWord 76 77 (.ireturn) 1 := ⟨by decide +kernel, rfl⟩
def f_X3_behindWord_b42 (k42 : Nat → Int32 → hS → Option (Int32 × hS)) (l0 : Nat) (l2 : Int32) (s : hS) : Option (Int32 × hS) :=
  (gI s l0 3 1).bind fun x1 =>
  if x1 ≤ l2 then
    some (l2, s)
  else
    (cV s l0 3 (f_X3_hasDigit s l0 l2)).bind fun p2 =>
    if p2.1 = 0 then
      some (l2, p2.2)
    else
      k42 l0 (l2 + (1 : Int32)) p2.2
theorem b_X3_behindWord_42 (E : jE) (k42 : Nat → Int32 → hS → Option (Int32 × hS)) (h42 : ∀ (s : hS) (l0 : Nat) (l2 : Int32) , Jo E M_X3_behindWord cvI 42 [(0, .ref l0), (2, .int l2)] [] s (k42 l0 l2 s)) (s : hS) (l0 : Nat) (l2 : Int32)  : Jo E M_X3_behindWord cvI 42 [(0, .ref l0), (2, .int l2)] [] s (f_X3_behindWord_b42 k42 l0 l2 s) := by
  unfold f_X3_behindWord_b42
  refine Jo_iloadn 1 dX3_behindWord_42 rfl rfl ?_
  refine Jo_aloadn 0 dX3_behindWord_43 rfl rfl ?_
  refine Jo_getI fF_3_1 fI_3_1 dX3_behindWord_44 w_16 (fun x1 => ?_)
  refine Jo_icmp_ge 64 dX3_behindWord_47 (by decide) rfl ?_ ?_
  · refine Jo_iloadn 1 dX3_behindWord_64 rfl rfl ?_
    exact Jo_iret rfl dX3_behindWord_65
  · refine Jo_aloadn 0 dX3_behindWord_50 rfl rfl ?_
    refine Jo_iloadn 1 dX3_behindWord_51 rfl rfl ?_
    refine Jo_callVi (a := l0) (rest := []) [.int l2] cc_3 yF_X3_hasDigit yV_X3_hasDigit w_47 rfl rfl ⟨Nat.le_of_ble_eq_true rfl, Nat.le_of_ble_eq_true rfl, Nat.le_of_ble_eq_true rfl⟩ dX3_behindWord_52 rfl (K_X3_hasDigit E s l0 l2) (fun p2 => ?_)
    refine Jo_if_eq 64 dX3_behindWord_55 (by decide) rfl ?_ ?_
    · refine Jo_iloadn 1 dX3_behindWord_64 rfl rfl ?_
      exact Jo_iret rfl dX3_behindWord_65
    · refine Jo_iinc (v := (l2 + (1 : Int32))) (ls' := [(2, .int (l2 + (1 : Int32))), (0, .ref l0)]) 1 dX3_behindWord_58 rfl rfl (by decide) rfl ?_
      refine Jo_goto 42 dX3_behindWord_61 (by decide) ?_
      refine Jo_sub [1, 0] rfl ?_
      exact h42 p2.2 l0 (l2 + (1 : Int32))
theorem e_X3_behindWord_42 (E : jE)  (n : Nat) : ∀ (s : hS) (l0 : Nat) (l2 : Int32) , Jo E M_X3_behindWord cvI 42 [(0, .ref l0), (2, .int l2)] [] s ((jL f_X3_behindWord_b42 (fun _ _ _ => none) n) l0 l2 s) :=
  jL_ind (P := fun f => ∀ (s : hS) (l0 : Nat) (l2 : Int32) , Jo E M_X3_behindWord cvI 42 [(0, .ref l0), (2, .int l2)] [] s (f l0 l2 s)) (fun _ _ _ => Jo_none) (fun b hb s l0 l2 => b_X3_behindWord_42 E  b hb s l0 l2) n
def f_X3_behindWord_b10 (k10 : Nat → Int32 → hS → Option (Int32 × hS)) (l0 : Nat) (l2 : Int32) (s : hS) : Option (Int32 × hS) :=
  (gI s l0 3 1).bind fun x1 =>
  if x1 ≤ l2 then
    some (l2, s)
  else
    (cV s l0 3 (f_X3_hasLetter s l0 l2)).bind fun p2 =>
    if p2.1 = 0 then
      some (l2, p2.2)
    else
      k10 l0 (l2 + (1 : Int32)) p2.2
theorem b_X3_behindWord_10 (E : jE) (k10 : Nat → Int32 → hS → Option (Int32 × hS)) (h10 : ∀ (s : hS) (l0 : Nat) (l2 : Int32) , Jo E M_X3_behindWord cvI 10 [(0, .ref l0), (2, .int l2)] [] s (k10 l0 l2 s)) (s : hS) (l0 : Nat) (l2 : Int32)  : Jo E M_X3_behindWord cvI 10 [(0, .ref l0), (2, .int l2)] [] s (f_X3_behindWord_b10 k10 l0 l2 s) := by
  unfold f_X3_behindWord_b10
  refine Jo_iloadn 1 dX3_behindWord_10 rfl rfl ?_
  refine Jo_aloadn 0 dX3_behindWord_11 rfl rfl ?_
  refine Jo_getI fF_3_1 fI_3_1 dX3_behindWord_12 w_16 (fun x1 => ?_)
  refine Jo_icmp_ge 32 dX3_behindWord_15 (by decide) rfl ?_ ?_
  · refine Jo_iloadn 1 dX3_behindWord_32 rfl rfl ?_
    exact Jo_iret rfl dX3_behindWord_33
  · refine Jo_aloadn 0 dX3_behindWord_18 rfl rfl ?_
    refine Jo_iloadn 1 dX3_behindWord_19 rfl rfl ?_
    refine Jo_callVi (a := l0) (rest := []) [.int l2] cc_3 yF_X3_hasLetter yV_X3_hasLetter w_48 rfl rfl ⟨Nat.le_of_ble_eq_true rfl, Nat.le_of_ble_eq_true rfl, Nat.le_of_ble_eq_true rfl⟩ dX3_behindWord_20 rfl (K_X3_hasLetter E s l0 l2) (fun p2 => ?_)
    refine Jo_if_eq 32 dX3_behindWord_23 (by decide) rfl ?_ ?_
    · refine Jo_iloadn 1 dX3_behindWord_32 rfl rfl ?_
      exact Jo_iret rfl dX3_behindWord_33
    · refine Jo_iinc (v := (l2 + (1 : Int32))) (ls' := [(2, .int (l2 + (1 : Int32))), (0, .ref l0)]) 1 dX3_behindWord_26 rfl rfl (by decide) rfl ?_
      refine Jo_goto 10 dX3_behindWord_29 (by decide) ?_
      refine Jo_sub [1, 0] rfl ?_
      exact h10 p2.2 l0 (l2 + (1 : Int32))
theorem e_X3_behindWord_10 (E : jE)  (n : Nat) : ∀ (s : hS) (l0 : Nat) (l2 : Int32) , Jo E M_X3_behindWord cvI 10 [(0, .ref l0), (2, .int l2)] [] s ((jL f_X3_behindWord_b10 (fun _ _ _ => none) n) l0 l2 s) :=
  jL_ind (P := fun f => ∀ (s : hS) (l0 : Nat) (l2 : Int32) , Jo E M_X3_behindWord cvI 10 [(0, .ref l0), (2, .int l2)] [] s (f l0 l2 s)) (fun _ _ _ => Jo_none) (fun b hb s l0 l2 => b_X3_behindWord_10 E  b hb s l0 l2) n
def f_X3_behindWord (s : hS) (a0 : Nat) (i1 : Int32) : Option (Int32 × hS) :=
  (cV s a0 3 (f_X3_hasLetter s a0 i1)).bind fun p1 =>
  if p1.1 = 0 then
    (cV p1.2 a0 3 (f_X3_hasDigit p1.2 a0 i1)).bind fun p2 =>
    if p2.1 = 0 then
      (gI p2.2 a0 3 1).bind fun x3 =>
      some ((if x3 < (i1 + (1 : Int32)) then x3 else (i1 + (1 : Int32))), p2.2)
    else
      jL f_X3_behindWord_b42 (fun _ _ _ => none) jF a0 i1 p2.2
  else
    jL f_X3_behindWord_b10 (fun _ _ _ => none) jF a0 i1 p1.2
theorem b_X3_behindWord_in (E : jE)  (s : hS) (a0 : Nat) (i1 : Int32)  : Jo E M_X3_behindWord cvI 0 [(0, .ref a0), (1, .int i1)] [] s (f_X3_behindWord s a0 i1) := by
  unfold f_X3_behindWord
  refine Jo_iloadn 1 dX3_behindWord_0 rfl rfl ?_
  refine Jo_istoren (ls' := [(2, .int i1), (0, .ref a0), (1, .int i1)]) dX3_behindWord_1 rfl (by decide) rfl ?_
  refine Jo_aloadn 1 dX3_behindWord_2 rfl rfl ?_
  refine Jo_iloadn 2 dX3_behindWord_3 rfl rfl ?_
  refine Jo_callVi (a := a0) (rest := []) [.int i1] cc_3 yF_X3_hasLetter yV_X3_hasLetter w_48 rfl rfl ⟨Nat.le_of_ble_eq_true rfl, Nat.le_of_ble_eq_true rfl, Nat.le_of_ble_eq_true rfl⟩ dX3_behindWord_4 rfl (K_X3_hasLetter E s a0 i1) (fun p1 => ?_)
  refine Jo_if_eq 34 dX3_behindWord_7 (by decide) rfl ?_ ?_
  · refine Jo_aloadn 1 dX3_behindWord_34 rfl rfl ?_
    refine Jo_iloadn 2 dX3_behindWord_35 rfl rfl ?_
    refine Jo_callVi (a := a0) (rest := []) [.int i1] cc_3 yF_X3_hasDigit yV_X3_hasDigit w_47 rfl rfl ⟨Nat.le_of_ble_eq_true rfl, Nat.le_of_ble_eq_true rfl, Nat.le_of_ble_eq_true rfl⟩ dX3_behindWord_36 rfl (K_X3_hasDigit E p1.2 a0 i1) (fun p2 => ?_)
    refine Jo_if_eq 66 dX3_behindWord_39 (by decide) rfl ?_ ?_
    · refine Jo_iloadn 2 dX3_behindWord_66 rfl rfl ?_
      refine Jo_iconst (v := (1 : Int32)) dX3_behindWord_67 (by decide) ?_
      refine Jo_iadd dX3_behindWord_68 ?_
      refine Jo_aloadn 1 dX3_behindWord_69 rfl rfl ?_
      refine Jo_getI fF_3_1 fI_3_1 dX3_behindWord_70 w_16 (fun x3 => ?_)
      refine Jo_min dX3_behindWord_73 ⟨w_49, w_min1, w_math, w_min2⟩ ⟨by decide, Nat.le_of_ble_eq_true rfl⟩ ?_
      exact Jo_iret rfl dX3_behindWord_76
    · refine Jo_sub [1, 0] rfl ?_
      exact e_X3_behindWord_42 E jF p2.2 a0 i1
  · refine Jo_sub [1, 0] rfl ?_
    exact e_X3_behindWord_10 E jF p1.2 a0 i1
theorem K_X3_behindWord (E : jE) (s : hS) (a0 : Nat) (i1 : Int32) : jK E yX3_behindWord M_X3_behindWord cvI [.ref a0, .int i1] s (f_X3_behindWord s a0 i1) := jK_of ⟨by decide, rfl, rfl⟩ (Nat.le_of_ble_eq_true rfl) (b_X3_behindWord_in E s a0 i1)
/-! HeronTalk$Tape.hasWord(Ljava/lang/String;II)Z -/
abbrev M_X3_hasWord : jM := (RX3, cX3_hasWord, 5, (some .boolean), "hasWord", 5, 150)
theorem yF_X3_hasWord : yF yX3_hasWord M_X3_hasWord 3 := ⟨w_55, w_21, by decide +kernel⟩
theorem yV_X3_hasWord : Cond.instanceMethod yX3_hasWord ∈ tbG ∧ Cond.selects yX3_hasWord.cls yX3_hasWord yX3_hasWord ∈ tbG := ⟨w_56, w_57⟩
theorem dX3_hasWord_0 : dI cX3_hasWord 0 1 (.iload_n 3) 1 := ⟨by decide +kernel, rfl⟩
theorem dX3_hasWord_1 : dI cX3_hasWord 1 2 (.iload_n 2) 1 := ⟨by decide +kernel, rfl⟩
theorem dX3_hasWord_2 : dI cX3_hasWord 2 3 (.isub) 1 := ⟨by decide +kernel, rfl⟩
theorem dX3_hasWord_3 : dI cX3_hasWord 3 4 (.aload_n 1) 1 := ⟨by decide +kernel, rfl⟩
theorem dX3_hasWord_4 : dI cX3_hasWord 4 7 (.invokevirtual 36) 3 := ⟨by decide +kernel, rfl⟩
theorem dX3_hasWord_7 : decode cX3_hasWord 7 = .ok (.if_icmp .eq 5, 3) := by decide +kernel
theorem dX3_hasWord_10 : dI cX3_hasWord 10 11 (.iconst 0) 1 := ⟨by decide +kernel, rfl⟩
theorem dX3_hasWord_11 : dI cX3_hasWord 11 12 (.ireturn) 1 := ⟨by decide +kernel, rfl⟩
theorem dX3_hasWord_12 : dI cX3_hasWord 12 13 (.iconst 0) 1 := ⟨by decide +kernel, rfl⟩
theorem dX3_hasWord_13 : dI cX3_hasWord 13 15 (.istore 4) 2 := ⟨by decide +kernel, rfl⟩
theorem dX3_hasWord_15 : dI cX3_hasWord 15 17 (.iload 4) 2 := ⟨by decide +kernel, rfl⟩
theorem dX3_hasWord_17 : dI cX3_hasWord 17 18 (.aload_n 1) 1 := ⟨by decide +kernel, rfl⟩
theorem dX3_hasWord_18 : dI cX3_hasWord 18 21 (.invokevirtual 36) 3 := ⟨by decide +kernel, rfl⟩
theorem dX3_hasWord_21 : decode cX3_hasWord 21 = .ok (.if_icmp .ge 28, 3) := by decide +kernel
theorem dX3_hasWord_24 : dI cX3_hasWord 24 25 (.aload_n 0) 1 := ⟨by decide +kernel, rfl⟩
theorem dX3_hasWord_25 : dI cX3_hasWord 25 26 (.iload_n 2) 1 := ⟨by decide +kernel, rfl⟩
theorem dX3_hasWord_26 : dI cX3_hasWord 26 28 (.iload 4) 2 := ⟨by decide +kernel, rfl⟩
theorem dX3_hasWord_28 : dI cX3_hasWord 28 29 (.iadd) 1 := ⟨by decide +kernel, rfl⟩
theorem dX3_hasWord_29 : decode cX3_hasWord 29 = .ok (.invokevirtual 19, 3) := by decide +kernel
theorem dX3_hasWord_32 : dI cX3_hasWord 32 33 (.aload_n 1) 1 := ⟨by decide +kernel, rfl⟩
theorem dX3_hasWord_33 : dI cX3_hasWord 33 35 (.iload 4) 2 := ⟨by decide +kernel, rfl⟩
theorem dX3_hasWord_35 : dI cX3_hasWord 35 38 (.invokevirtual 41) 3 := ⟨by decide +kernel, rfl⟩
theorem dX3_hasWord_38 : decode cX3_hasWord 38 = .ok (.if_icmp .eq 5, 3) := by decide +kernel
theorem dX3_hasWord_41 : dI cX3_hasWord 41 42 (.iconst 0) 1 := ⟨by decide +kernel, rfl⟩
theorem dX3_hasWord_42 : dI cX3_hasWord 42 43 (.ireturn) 1 := ⟨by decide +kernel, rfl⟩
theorem dX3_hasWord_43 : dI cX3_hasWord 43 46 (.iinc 4 1) 3 := ⟨by decide +kernel, rfl⟩
theorem dX3_hasWord_46 : decode cX3_hasWord 46 = .ok (.goto (-31), 3) := by decide +kernel
theorem dX3_hasWord_49 : dI cX3_hasWord 49 50 (.iconst 1) 1 := ⟨by decide +kernel, rfl⟩
theorem dX3_hasWord_50 : dI cX3_hasWord 50 51 (.ireturn) 1 := ⟨by decide +kernel, rfl⟩
def f_X3_hasWord_b15 (k15 : Nat → Nat → Int32 → Int32 → hS → Option (Int32 × hS)) (l0 : Nat) (l1 : Nat) (l2 : Int32) (l4 : Int32) (s : hS) : Option (Int32 × hS) :=
  (if l1 < 3 then some (slen l1) else none).bind fun x1 =>
  if x1 ≤ l4 then
    some ((1 : Int32), s)
  else
    (cV s l0 3 (f_X3_at s l0 (l2 + l4))).bind fun p2 =>
    (sat l1 l4).bind fun x3 =>
    if p2.1 = x3 then
      k15 l0 l1 l2 (l4 + (1 : Int32)) p2.2
    else
      some ((0 : Int32), p2.2)
theorem b_X3_hasWord_15 (E : jE) (k15 : Nat → Nat → Int32 → Int32 → hS → Option (Int32 × hS)) (h15 : ∀ (s : hS) (l0 : Nat) (l1 : Nat) (l2 : Int32) (l4 : Int32) , Jo E M_X3_hasWord cvI 15 [(0, .ref l0), (1, .ref (E.2.2.2.2.2.1 l1)), (2, .int l2), (4, .int l4)] [] s (k15 l0 l1 l2 l4 s)) (s : hS) (l0 : Nat) (l1 : Nat) (l2 : Int32) (l4 : Int32)  : Jo E M_X3_hasWord cvI 15 [(0, .ref l0), (1, .ref (E.2.2.2.2.2.1 l1)), (2, .int l2), (4, .int l4)] [] s (f_X3_hasWord_b15 k15 l0 l1 l2 l4 s) := by
  unfold f_X3_hasWord_b15
  refine Jo_iload 3 dX3_hasWord_15 rfl ?_
  refine Jo_aloadn 1 dX3_hasWord_17 rfl rfl ?_
  refine Jo_slen (k := l1) dX3_hasWord_18 w_54 ⟨by decide, by decide, Nat.le_of_ble_eq_true rfl⟩ (fun x1 => ?_)
  refine Jo_icmp_ge 49 dX3_hasWord_21 (by decide) rfl ?_ ?_
  · refine Jo_iconst (v := (1 : Int32)) dX3_hasWord_49 (by decide) ?_
    exact Jo_zret1 rfl dX3_hasWord_50
  · refine Jo_aloadn 0 dX3_hasWord_24 rfl rfl ?_
    refine Jo_iloadn 2 dX3_hasWord_25 rfl rfl ?_
    refine Jo_iload 3 dX3_hasWord_26 rfl ?_
    refine Jo_iadd dX3_hasWord_28 ?_
    refine Jo_callVi (a := l0) (rest := []) [.int (l2 + l4)] cc_3 yF_X3_at yV_X3_at w_37 rfl rfl ⟨Nat.le_of_ble_eq_true rfl, Nat.le_of_ble_eq_true rfl, Nat.le_of_ble_eq_true rfl⟩ dX3_hasWord_29 rfl (K_X3_at E s l0 (l2 + l4)) (fun p2 => ?_)
    refine Jo_aloadn 1 dX3_hasWord_32 rfl rfl ?_
    refine Jo_iload 3 dX3_hasWord_33 rfl ?_
    refine Jo_sat (k := l1) dX3_hasWord_35 w_53 ⟨by decide, by decide, Nat.le_of_ble_eq_true rfl⟩ (fun x3 => ?_)
    refine Jo_icmp_eq 43 dX3_hasWord_38 (by decide) rfl ?_ ?_
    · refine Jo_iinc (v := (l4 + (1 : Int32))) (ls' := [(4, .int (l4 + (1 : Int32))), (0, .ref l0), (1, .ref (E.2.2.2.2.2.1 l1)), (2, .int l2)]) 3 dX3_hasWord_43 rfl rfl (by decide) rfl ?_
      refine Jo_goto 15 dX3_hasWord_46 (by decide) ?_
      refine Jo_sub [1, 2, 3, 0] rfl ?_
      exact h15 p2.2 l0 l1 l2 (l4 + (1 : Int32))
    · refine Jo_iconst (v := (0 : Int32)) dX3_hasWord_41 (by decide) ?_
      exact Jo_zret0 rfl dX3_hasWord_42
theorem e_X3_hasWord_15 (E : jE)  (n : Nat) : ∀ (s : hS) (l0 : Nat) (l1 : Nat) (l2 : Int32) (l4 : Int32) , Jo E M_X3_hasWord cvI 15 [(0, .ref l0), (1, .ref (E.2.2.2.2.2.1 l1)), (2, .int l2), (4, .int l4)] [] s ((jL f_X3_hasWord_b15 (fun _ _ _ _ _ => none) n) l0 l1 l2 l4 s) :=
  jL_ind (P := fun f => ∀ (s : hS) (l0 : Nat) (l1 : Nat) (l2 : Int32) (l4 : Int32) , Jo E M_X3_hasWord cvI 15 [(0, .ref l0), (1, .ref (E.2.2.2.2.2.1 l1)), (2, .int l2), (4, .int l4)] [] s (f l0 l1 l2 l4 s)) (fun _ _ _ _ _ => Jo_none) (fun b hb s l0 l1 l2 l4 => b_X3_hasWord_15 E  b hb s l0 l1 l2 l4) n
def f_X3_hasWord (s : hS) (a0 : Nat) (a1 : Nat) (i2 : Int32) (i3 : Int32) : Option (Int32 × hS) :=
  (if a1 < 3 then some (slen a1) else none).bind fun x1 =>
  if (i3 - i2) = x1 then
    jL f_X3_hasWord_b15 (fun _ _ _ _ _ => none) jF a0 a1 i2 (0 : Int32) s
  else
    some ((0 : Int32), s)
theorem b_X3_hasWord_in (E : jE)  (s : hS) (a0 : Nat) (a1 : Nat) (i2 : Int32) (i3 : Int32)  : Jo E M_X3_hasWord cvI 0 [(0, .ref a0), (1, .ref (E.2.2.2.2.2.1 a1)), (2, .int i2), (3, .int i3)] [] s (f_X3_hasWord s a0 a1 i2 i3) := by
  unfold f_X3_hasWord
  refine Jo_iloadn 3 dX3_hasWord_0 rfl rfl ?_
  refine Jo_iloadn 2 dX3_hasWord_1 rfl rfl ?_
  refine Jo_isub dX3_hasWord_2 ?_
  refine Jo_aloadn 1 dX3_hasWord_3 rfl rfl ?_
  refine Jo_slen (k := a1) dX3_hasWord_4 w_54 ⟨by decide, by decide, Nat.le_of_ble_eq_true rfl⟩ (fun x1 => ?_)
  refine Jo_icmp_eq 12 dX3_hasWord_7 (by decide) rfl ?_ ?_
  · refine Jo_iconst (v := (0 : Int32)) dX3_hasWord_12 (by decide) ?_
    refine Jo_istore (ls' := [(4, .int (0 : Int32)), (0, .ref a0), (1, .ref (E.2.2.2.2.2.1 a1)), (2, .int i2), (3, .int i3)]) dX3_hasWord_13 (by decide) rfl ?_
    refine Jo_sub [1, 2, 3, 0] rfl ?_
    exact e_X3_hasWord_15 E jF s a0 a1 i2 (0 : Int32)
  · refine Jo_iconst (v := (0 : Int32)) dX3_hasWord_10 (by decide) ?_
    exact Jo_zret0 rfl dX3_hasWord_11
theorem K_X3_hasWord (E : jE) (s : hS) (a0 : Nat) (a1 : Nat) (i2 : Int32) (i3 : Int32) : jK E yX3_hasWord M_X3_hasWord cvI [.ref a0, .ref (E.2.2.2.2.2.1 a1), .int i2, .int i3] s (f_X3_hasWord s a0 a1 i2 i3) := jK_of ⟨by decide, rfl, rfl⟩ (Nat.le_of_ble_eq_true rfl) (b_X3_hasWord_in E s a0 a1 i2 i3)
/-! HeronTalk$Reader.keyAt(II)I -/
abbrev M_X0_keyAt : jM := (RX0, cX0_keyAt, 3, (some .int), "keyAt", 6, 174)
theorem yF_X0_keyAt : yF yX0_keyAt M_X0_keyAt 2 := ⟨w_59, w_32, by decide +kernel⟩
theorem yV_X0_keyAt : Cond.instanceMethod yX0_keyAt ∈ tbG ∧ Cond.selects yX0_keyAt.cls yX0_keyAt yX0_keyAt ∈ tbG := ⟨w_60, w_61⟩
theorem dX0_keyAt_0 : dI cX0_keyAt 0 1 (.aload_n 0) 1 := ⟨by decide +kernel, rfl⟩
theorem dX0_keyAt_1 : dI cX0_keyAt 1 4 (.getfield 12) 3 := ⟨by decide +kernel, rfl⟩
theorem dX0_keyAt_4 : dI cX0_keyAt 4 6 (.ldc 81) 2 := ⟨by decide +kernel, rfl⟩
theorem dX0_keyAt_6 : dI cX0_keyAt 6 7 (.iload_n 1) 1 := ⟨by decide +kernel, rfl⟩
theorem dX0_keyAt_7 : dI cX0_keyAt 7 8 (.iload_n 2) 1 := ⟨by decide +kernel, rfl⟩
theorem dX0_keyAt_8 : decode cX0_keyAt 8 = .ok (.invokevirtual 83, 3) := by decide +kernel
theorem dX0_keyAt_11 : decode cX0_keyAt 11 = .ok (.ifCond .eq 5, 3) := by decide +kernel
theorem dX0_keyAt_14 : dI cX0_keyAt 14 15 (.iconst 0) 1 := ⟨by decide +kernel, rfl⟩
theorem dX0_keyAt_15 : dI cX0_keyAt 15 16 (.ireturn) 1 := ⟨by decide +kernel, rfl⟩
theorem dX0_keyAt_16 : dI cX0_keyAt 16 17 (.aload_n 0) 1 := ⟨by decide +kernel, rfl⟩
theorem dX0_keyAt_17 : dI cX0_keyAt 17 20 (.getfield 12) 3 := ⟨by decide +kernel, rfl⟩
theorem dX0_keyAt_20 : dI cX0_keyAt 20 22 (.ldc 87) 2 := ⟨by decide +kernel, rfl⟩
theorem dX0_keyAt_22 : dI cX0_keyAt 22 23 (.iload_n 1) 1 := ⟨by decide +kernel, rfl⟩
theorem dX0_keyAt_23 : dI cX0_keyAt 23 24 (.iload_n 2) 1 := ⟨by decide +kernel, rfl⟩
theorem dX0_keyAt_24 : decode cX0_keyAt 24 = .ok (.invokevirtual 83, 3) := by decide +kernel
theorem dX0_keyAt_27 : decode cX0_keyAt 27 = .ok (.ifCond .eq 5, 3) := by decide +kernel
theorem dX0_keyAt_30 : dI cX0_keyAt 30 31 (.iconst 1) 1 := ⟨by decide +kernel, rfl⟩
theorem dX0_keyAt_31 : dI cX0_keyAt 31 32 (.ireturn) 1 := ⟨by decide +kernel, rfl⟩
theorem dX0_keyAt_32 : dI cX0_keyAt 32 33 (.aload_n 0) 1 := ⟨by decide +kernel, rfl⟩
theorem dX0_keyAt_33 : dI cX0_keyAt 33 36 (.getfield 12) 3 := ⟨by decide +kernel, rfl⟩
theorem dX0_keyAt_36 : dI cX0_keyAt 36 38 (.ldc 89) 2 := ⟨by decide +kernel, rfl⟩
theorem dX0_keyAt_38 : dI cX0_keyAt 38 39 (.iload_n 1) 1 := ⟨by decide +kernel, rfl⟩
theorem dX0_keyAt_39 : dI cX0_keyAt 39 40 (.iload_n 2) 1 := ⟨by decide +kernel, rfl⟩
theorem dX0_keyAt_40 : decode cX0_keyAt 40 = .ok (.invokevirtual 83, 3) := by decide +kernel
theorem dX0_keyAt_43 : decode cX0_keyAt 43 = .ok (.ifCond .eq 7, 3) := by decide +kernel
theorem dX0_keyAt_46 : dI cX0_keyAt 46 47 (.iconst 2) 1 := ⟨by decide +kernel, rfl⟩
theorem dX0_keyAt_47 : decode cX0_keyAt 47 = .ok (.goto 4, 3) := by decide +kernel
theorem dX0_keyAt_50 : dI cX0_keyAt 50 51 (.iconst (-1)) 1 := ⟨by decide +kernel, rfl⟩
theorem dX0_keyAt_51 : dI cX0_keyAt 51 52 (.ireturn) 1 := ⟨by decide +kernel, rfl⟩
def f_X0_keyAt (s : hS) (a0 : Nat) (i1 : Int32) (i2 : Int32) : Option (Int32 × hS) :=
  (gR s a0 0 0).bind fun a1 =>
  (cV s a1 3 (f_X3_hasWord s a1 0 i1 i2)).bind fun p2 =>
  if p2.1 = 0 then
    (gR p2.2 a0 0 0).bind fun a3 =>
    (cV p2.2 a3 3 (f_X3_hasWord p2.2 a3 1 i1 i2)).bind fun p4 =>
    if p4.1 = 0 then
      (gR p4.2 a0 0 0).bind fun a5 =>
      (cV p4.2 a5 3 (f_X3_hasWord p4.2 a5 2 i1 i2)).bind fun p6 =>
      if p6.1 = 0 then
        some ((-1 : Int32), p6.2)
      else
        some ((2 : Int32), p6.2)
    else
      some ((1 : Int32), p4.2)
  else
    some ((0 : Int32), p2.2)
theorem b_X0_keyAt_in (E : jE)  (s : hS) (a0 : Nat) (i1 : Int32) (i2 : Int32)  : Jo E M_X0_keyAt cvI 0 [(0, .ref a0), (1, .int i1), (2, .int i2)] [] s (f_X0_keyAt s a0 i1 i2) := by
  unfold f_X0_keyAt
  refine Jo_aloadn 0 dX0_keyAt_0 rfl rfl ?_
  refine Jo_getR fF_0_0 fR_0_0 dX0_keyAt_1 w_26 (fun a1 => ?_)
  refine Jo_ldcS0 dX0_keyAt_4 rfl ?_
  refine Jo_iloadn 1 dX0_keyAt_6 rfl rfl ?_
  refine Jo_iloadn 2 dX0_keyAt_7 rfl rfl ?_
  refine Jo_callVi (a := a1) (rest := []) [.ref (E.2.2.2.2.2.1 0), .int i1, .int i2] cc_3 yF_X3_hasWord yV_X3_hasWord w_58 rfl rfl ⟨Nat.le_of_ble_eq_true rfl, Nat.le_of_ble_eq_true rfl, Nat.le_of_ble_eq_true rfl⟩ dX0_keyAt_8 rfl (K_X3_hasWord E s a1 0 i1 i2) (fun p2 => ?_)
  refine Jo_if_eq 16 dX0_keyAt_11 (by decide) rfl ?_ ?_
  · refine Jo_aloadn 0 dX0_keyAt_16 rfl rfl ?_
    refine Jo_getR fF_0_0 fR_0_0 dX0_keyAt_17 w_26 (fun a3 => ?_)
    refine Jo_ldcS1 dX0_keyAt_20 rfl ?_
    refine Jo_iloadn 1 dX0_keyAt_22 rfl rfl ?_
    refine Jo_iloadn 2 dX0_keyAt_23 rfl rfl ?_
    refine Jo_callVi (a := a3) (rest := []) [.ref (E.2.2.2.2.2.1 1), .int i1, .int i2] cc_3 yF_X3_hasWord yV_X3_hasWord w_58 rfl rfl ⟨Nat.le_of_ble_eq_true rfl, Nat.le_of_ble_eq_true rfl, Nat.le_of_ble_eq_true rfl⟩ dX0_keyAt_24 rfl (K_X3_hasWord E p2.2 a3 1 i1 i2) (fun p4 => ?_)
    refine Jo_if_eq 32 dX0_keyAt_27 (by decide) rfl ?_ ?_
    · refine Jo_aloadn 0 dX0_keyAt_32 rfl rfl ?_
      refine Jo_getR fF_0_0 fR_0_0 dX0_keyAt_33 w_26 (fun a5 => ?_)
      refine Jo_ldcS2 dX0_keyAt_36 rfl ?_
      refine Jo_iloadn 1 dX0_keyAt_38 rfl rfl ?_
      refine Jo_iloadn 2 dX0_keyAt_39 rfl rfl ?_
      refine Jo_callVi (a := a5) (rest := []) [.ref (E.2.2.2.2.2.1 2), .int i1, .int i2] cc_3 yF_X3_hasWord yV_X3_hasWord w_58 rfl rfl ⟨Nat.le_of_ble_eq_true rfl, Nat.le_of_ble_eq_true rfl, Nat.le_of_ble_eq_true rfl⟩ dX0_keyAt_40 rfl (K_X3_hasWord E p4.2 a5 2 i1 i2) (fun p6 => ?_)
      refine Jo_if_eq 50 dX0_keyAt_43 (by decide) rfl ?_ ?_
      · refine Jo_iconst (v := (-1 : Int32)) dX0_keyAt_50 (by decide) ?_
        exact Jo_iret rfl dX0_keyAt_51
      · refine Jo_iconst (v := (2 : Int32)) dX0_keyAt_46 (by decide) ?_
        refine Jo_goto 51 dX0_keyAt_47 (by decide) ?_
        exact Jo_iret rfl dX0_keyAt_51
    · refine Jo_iconst (v := (1 : Int32)) dX0_keyAt_30 (by decide) ?_
      exact Jo_iret rfl dX0_keyAt_31
  · refine Jo_iconst (v := (0 : Int32)) dX0_keyAt_14 (by decide) ?_
    exact Jo_iret rfl dX0_keyAt_15
theorem K_X0_keyAt (E : jE) (s : hS) (a0 : Nat) (i1 : Int32) (i2 : Int32) : jK E yX0_keyAt M_X0_keyAt cvI [.ref a0, .int i1, .int i2] s (f_X0_keyAt s a0 i1 i2) := jK_of ⟨by decide, rfl, rfl⟩ (Nat.le_of_ble_eq_true rfl) (b_X0_keyAt_in E s a0 i1 i2)
/-! HeronTalk$Tape.numberAt(II)I -/
abbrev M_X3_numberAt : jM := (RX3, cX3_numberAt, 5, (some .int), "numberAt", 1, 21)
theorem yF_X3_numberAt : yF yX3_numberAt M_X3_numberAt 2 := ⟨w_62, w_21, by decide +kernel⟩
theorem yV_X3_numberAt : Cond.instanceMethod yX3_numberAt ∈ tbG ∧ Cond.selects yX3_numberAt.cls yX3_numberAt yX3_numberAt ∈ tbG := ⟨w_63, w_64⟩
theorem dX3_numberAt_0 : dI cX3_numberAt 0 1 (.iconst 0) 1 := ⟨by decide +kernel, rfl⟩
theorem dX3_numberAt_1 : dI cX3_numberAt 1 2 (.istore_n 3) 1 := ⟨by decide +kernel, rfl⟩
theorem dX3_numberAt_2 : dI cX3_numberAt 2 3 (.iload_n 1) 1 := ⟨by decide +kernel, rfl⟩
theorem dX3_numberAt_3 : dI cX3_numberAt 3 5 (.istore 4) 2 := ⟨by decide +kernel, rfl⟩
theorem dX3_numberAt_5 : dI cX3_numberAt 5 7 (.iload 4) 2 := ⟨by decide +kernel, rfl⟩
theorem dX3_numberAt_7 : dI cX3_numberAt 7 8 (.iload_n 2) 1 := ⟨by decide +kernel, rfl⟩
theorem dX3_numberAt_8 : decode cX3_numberAt 8 = .ok (.if_icmp .ge 24, 3) := by decide +kernel
theorem dX3_numberAt_11 : dI cX3_numberAt 11 12 (.iload_n 3) 1 := ⟨by decide +kernel, rfl⟩
theorem dX3_numberAt_12 : dI cX3_numberAt 12 14 (.bipush 10) 2 := ⟨by decide +kernel, rfl⟩
theorem dX3_numberAt_14 : dI cX3_numberAt 14 15 (.imul) 1 := ⟨by decide +kernel, rfl⟩
theorem dX3_numberAt_15 : dI cX3_numberAt 15 16 (.aload_n 0) 1 := ⟨by decide +kernel, rfl⟩
theorem dX3_numberAt_16 : dI cX3_numberAt 16 18 (.iload 4) 2 := ⟨by decide +kernel, rfl⟩
theorem dX3_numberAt_18 : decode cX3_numberAt 18 = .ok (.invokevirtual 19, 3) := by decide +kernel
theorem dX3_numberAt_21 : dI cX3_numberAt 21 22 (.iadd) 1 := ⟨by decide +kernel, rfl⟩
theorem dX3_numberAt_22 : dI cX3_numberAt 22 24 (.bipush 48) 2 := ⟨by decide +kernel, rfl⟩
theorem dX3_numberAt_24 : dI cX3_numberAt 24 25 (.isub) 1 := ⟨by decide +kernel, rfl⟩
theorem dX3_numberAt_25 : dI cX3_numberAt 25 26 (.istore_n 3) 1 := ⟨by decide +kernel, rfl⟩
theorem dX3_numberAt_26 : dI cX3_numberAt 26 29 (.iinc 4 1) 3 := ⟨by decide +kernel, rfl⟩
theorem dX3_numberAt_29 : decode cX3_numberAt 29 = .ok (.goto (-24), 3) := by decide +kernel
theorem dX3_numberAt_32 : dI cX3_numberAt 32 33 (.iload_n 3) 1 := ⟨by decide +kernel, rfl⟩
theorem dX3_numberAt_33 : dI cX3_numberAt 33 34 (.ireturn) 1 := ⟨by decide +kernel, rfl⟩
def f_X3_numberAt_b5 (k5 : Nat → Int32 → Int32 → Int32 → hS → Option (Int32 × hS)) (l0 : Nat) (l2 : Int32) (l3 : Int32) (l4 : Int32) (s : hS) : Option (Int32 × hS) :=
  if l2 ≤ l4 then
    some (l3, s)
  else
    (cV s l0 3 (f_X3_at s l0 l4)).bind fun p1 =>
    nmv ((((l3 * (10 : Int32)) + p1.1) - (48 : Int32))) fun x2 =>
    k5 l0 l2 x2 (l4 + (1 : Int32)) p1.2
theorem b_X3_numberAt_5 (E : jE) (k5 : Nat → Int32 → Int32 → Int32 → hS → Option (Int32 × hS)) (h5 : ∀ (s : hS) (l0 : Nat) (l2 : Int32) (l3 : Int32) (l4 : Int32) , Jo E M_X3_numberAt cvI 5 [(0, .ref l0), (2, .int l2), (3, .int l3), (4, .int l4)] [] s (k5 l0 l2 l3 l4 s)) (s : hS) (l0 : Nat) (l2 : Int32) (l3 : Int32) (l4 : Int32)  : Jo E M_X3_numberAt cvI 5 [(0, .ref l0), (2, .int l2), (3, .int l3), (4, .int l4)] [] s (f_X3_numberAt_b5 k5 l0 l2 l3 l4 s) := by
  unfold f_X3_numberAt_b5
  refine Jo_iload 3 dX3_numberAt_5 rfl ?_
  refine Jo_iloadn 1 dX3_numberAt_7 rfl rfl ?_
  refine Jo_icmp_ge 32 dX3_numberAt_8 (by decide) rfl ?_ ?_
  · refine Jo_iloadn 2 dX3_numberAt_32 rfl rfl ?_
    exact Jo_iret rfl dX3_numberAt_33
  · refine Jo_iloadn 2 dX3_numberAt_11 rfl rfl ?_
    refine Jo_bipush (v := (10 : Int32)) dX3_numberAt_12 (by decide) ?_
    refine Jo_imul dX3_numberAt_14 ?_
    refine Jo_aloadn 0 dX3_numberAt_15 rfl rfl ?_
    refine Jo_iload 3 dX3_numberAt_16 rfl ?_
    refine Jo_callVi (a := l0) (rest := [.int (l3 * (10 : Int32))]) [.int l4] cc_3 yF_X3_at yV_X3_at w_37 rfl rfl ⟨Nat.le_of_ble_eq_true rfl, Nat.le_of_ble_eq_true rfl, Nat.le_of_ble_eq_true rfl⟩ dX3_numberAt_18 rfl (K_X3_at E s l0 l4) (fun p1 => ?_)
    refine Jo_iadd dX3_numberAt_21 ?_
    refine Jo_bipush (v := (48 : Int32)) dX3_numberAt_22 (by decide) ?_
    refine Jo_isub dX3_numberAt_24 ?_
    refine Jo_nm (fun x2 => ?_)
    refine Jo_istoren (ls' := [(3, .int x2), (0, .ref l0), (2, .int l2), (4, .int l4)]) dX3_numberAt_25 rfl (by decide) rfl ?_
    refine Jo_iinc (v := (l4 + (1 : Int32))) (ls' := [(4, .int (l4 + (1 : Int32))), (3, .int x2), (0, .ref l0), (2, .int l2)]) 3 dX3_numberAt_26 rfl rfl (by decide) rfl ?_
    refine Jo_goto 5 dX3_numberAt_29 (by decide) ?_
    refine Jo_sub [2, 3, 1, 0] rfl ?_
    exact h5 p1.2 l0 l2 x2 (l4 + (1 : Int32))
theorem e_X3_numberAt_5 (E : jE)  (n : Nat) : ∀ (s : hS) (l0 : Nat) (l2 : Int32) (l3 : Int32) (l4 : Int32) , Jo E M_X3_numberAt cvI 5 [(0, .ref l0), (2, .int l2), (3, .int l3), (4, .int l4)] [] s ((jL f_X3_numberAt_b5 (fun _ _ _ _ _ => none) n) l0 l2 l3 l4 s) :=
  jL_ind (P := fun f => ∀ (s : hS) (l0 : Nat) (l2 : Int32) (l3 : Int32) (l4 : Int32) , Jo E M_X3_numberAt cvI 5 [(0, .ref l0), (2, .int l2), (3, .int l3), (4, .int l4)] [] s (f l0 l2 l3 l4 s)) (fun _ _ _ _ _ => Jo_none) (fun b hb s l0 l2 l3 l4 => b_X3_numberAt_5 E  b hb s l0 l2 l3 l4) n
def f_X3_numberAt (s : hS) (a0 : Nat) (i1 : Int32) (i2 : Int32) : Option (Int32 × hS) :=
  jL f_X3_numberAt_b5 (fun _ _ _ _ _ => none) jF a0 i2 (0 : Int32) i1 s
theorem b_X3_numberAt_in (E : jE)  (s : hS) (a0 : Nat) (i1 : Int32) (i2 : Int32)  : Jo E M_X3_numberAt cvI 0 [(0, .ref a0), (1, .int i1), (2, .int i2)] [] s (f_X3_numberAt s a0 i1 i2) := by
  unfold f_X3_numberAt
  refine Jo_iconst (v := (0 : Int32)) dX3_numberAt_0 (by decide) ?_
  refine Jo_istoren (ls' := [(3, .int (0 : Int32)), (0, .ref a0), (1, .int i1), (2, .int i2)]) dX3_numberAt_1 rfl (by decide) rfl ?_
  refine Jo_iloadn 2 dX3_numberAt_2 rfl rfl ?_
  refine Jo_istore (ls' := [(4, .int i1), (3, .int (0 : Int32)), (0, .ref a0), (1, .int i1), (2, .int i2)]) dX3_numberAt_3 (by decide) rfl ?_
  refine Jo_sub [2, 4, 1, 0] rfl ?_
  exact e_X3_numberAt_5 E jF s a0 i2 (0 : Int32) i1
theorem K_X3_numberAt (E : jE) (s : hS) (a0 : Nat) (i1 : Int32) (i2 : Int32) : jK E yX3_numberAt M_X3_numberAt cvI [.ref a0, .int i1, .int i2] s (f_X3_numberAt s a0 i1 i2) := jK_of ⟨by decide, rfl, rfl⟩ (Nat.le_of_ble_eq_true rfl) (b_X3_numberAt_in E s a0 i1 i2)
/-! HeronTalk$Reader.put(I)V -/
abbrev M_X0_put : jM := (RX0, cX0_put, 2, (none : Option Jvm.ClassFile.FieldType), "put", 0, 0)
theorem yF_X0_put : yF yX0_put M_X0_put 1 := ⟨w_66, w_32, by decide +kernel⟩
theorem yV_X0_put : Cond.instanceMethod yX0_put ∈ tbG ∧ Cond.selects yX0_put.cls yX0_put yX0_put ∈ tbG := ⟨w_67, w_68⟩
theorem dX0_put_0 : dI cX0_put 0 1 (.aload_n 0) 1 := ⟨by decide +kernel, rfl⟩
theorem dX0_put_1 : dI cX0_put 1 4 (.getfield 25) 3 := ⟨by decide +kernel, rfl⟩
theorem dX0_put_4 : dI cX0_put 4 5 (.aload_n 0) 1 := ⟨by decide +kernel, rfl⟩
theorem dX0_put_5 : dI cX0_put 5 8 (.getfield 18) 3 := ⟨by decide +kernel, rfl⟩
theorem dX0_put_8 : dI cX0_put 8 9 (.arraylength) 1 := ⟨by decide +kernel, rfl⟩
theorem dX0_put_9 : decode cX0_put 9 = .ok (.if_icmp .ge 23, 3) := by decide +kernel
theorem dX0_put_12 : dI cX0_put 12 13 (.aload_n 0) 1 := ⟨by decide +kernel, rfl⟩
theorem dX0_put_13 : dI cX0_put 13 16 (.getfield 18) 3 := ⟨by decide +kernel, rfl⟩
theorem dX0_put_16 : dI cX0_put 16 17 (.aload_n 0) 1 := ⟨by decide +kernel, rfl⟩
theorem dX0_put_17 : dI cX0_put 17 20 (.getfield 25) 3 := ⟨by decide +kernel, rfl⟩
theorem dX0_put_20 : dI cX0_put 20 21 (.iload_n 1) 1 := ⟨by decide +kernel, rfl⟩
theorem dX0_put_21 : dI cX0_put 21 22 (.iastore) 1 := ⟨by decide +kernel, rfl⟩
theorem dX0_put_22 : dI cX0_put 22 23 (.aload_n 0) 1 := ⟨by decide +kernel, rfl⟩
theorem dX0_put_23 : dI cX0_put 23 24 (.dup) 1 := ⟨by decide +kernel, rfl⟩
theorem dX0_put_24 : dI cX0_put 24 27 (.getfield 25) 3 := ⟨by decide +kernel, rfl⟩
theorem dX0_put_27 : dI cX0_put 27 28 (.iconst 1) 1 := ⟨by decide +kernel, rfl⟩
theorem dX0_put_28 : dI cX0_put 28 29 (.iadd) 1 := ⟨by decide +kernel, rfl⟩
theorem dX0_put_29 : dI cX0_put 29 32 (.putfield 25) 3 := ⟨by decide +kernel, rfl⟩
theorem dX0_put_32 : dI cX0_put 32 33 (.return_) 1 := ⟨by decide +kernel, rfl⟩
def f_X0_put (s : hS) (a0 : Nat) (i1 : Int32) : Option (Unit × hS) :=
  (gI s a0 0 2).bind fun x1 =>
  (gR s a0 0 1).bind fun a2 =>
  (aL s a2 10).bind fun x3 =>
  if x3 ≤ x1 then
    some ((), s)
  else
    (gR s a0 0 1).bind fun a4 =>
    (gI s a0 0 2).bind fun x5 =>
    (sI s a4 10 x5 i1).bind fun s6 =>
    (gI s6 a0 0 2).bind fun x7 =>
    (pI s6 a0 0 2 (x7 + (1 : Int32))).bind fun s8 =>
    some ((), s8)
theorem b_X0_put_in (E : jE)  (s : hS) (a0 : Nat) (i1 : Int32)  : Jo E M_X0_put cvV 0 [(0, .ref a0), (1, .int i1)] [] s (f_X0_put s a0 i1) := by
  unfold f_X0_put
  refine Jo_aloadn 0 dX0_put_0 rfl rfl ?_
  refine Jo_getI fF_0_2 fI_0_2 dX0_put_1 w_65 (fun x1 => ?_)
  refine Jo_aloadn 0 dX0_put_4 rfl rfl ?_
  refine Jo_getR fF_0_1 fR_0_1 dX0_put_5 w_25 (fun a2 => ?_)
  refine Jo_alen hti_10 dX0_put_8 (fun x3 => ?_)
  refine Jo_icmp_ge 32 dX0_put_9 (by decide) rfl ?_ ?_
  · exact Jo_vret rfl dX0_put_32
  · refine Jo_aloadn 0 dX0_put_12 rfl rfl ?_
    refine Jo_getR fF_0_1 fR_0_1 dX0_put_13 w_25 (fun a4 => ?_)
    refine Jo_aloadn 0 dX0_put_16 rfl rfl ?_
    refine Jo_getI fF_0_2 fI_0_2 dX0_put_17 w_65 (fun x5 => ?_)
    refine Jo_iloadn 1 dX0_put_20 rfl rfl ?_
    refine Jo_iastore dX0_put_21 (fun s6 => ?_)
    refine Jo_aloadn 0 dX0_put_22 rfl rfl ?_
    refine Jo_dup dX0_put_23 rfl ?_
    refine Jo_getI fF_0_2 fI_0_2 dX0_put_24 w_65 (fun x7 => ?_)
    refine Jo_iconst (v := (1 : Int32)) dX0_put_27 (by decide) ?_
    refine Jo_iadd dX0_put_28 ?_
    refine Jo_putI fF_0_2 fI_0_2 (Or.inl rfl) rfl dX0_put_29 w_65 (fun s8 => ?_)
    exact Jo_vret rfl dX0_put_32
theorem K_X0_put (E : jE) (s : hS) (a0 : Nat) (i1 : Int32) : jK E yX0_put M_X0_put cvV [.ref a0, .int i1] s (f_X0_put s a0 i1) := jK_of ⟨by decide, rfl, rfl⟩ (Nat.le_of_ble_eq_true rfl) (b_X0_put_in E s a0 i1)
