/-! HeronTalkModel.textTold(II)I -/
abbrev M_X7_textTold : jM := (RX7, cX7_textTold, 3, (some .int), "textTold", 1, 22)
theorem yF_X7_textTold : yF yX7_textTold M_X7_textTold 2 := ⟨w_918, w_624, by decide +kernel⟩
theorem yV_X7_textTold : Cond.instanceMethod yX7_textTold ∈ tbG ∧ Cond.selects yX7_textTold.cls yX7_textTold yX7_textTold ∈ tbG := ⟨w_919, w_920⟩
theorem dX7_textTold_0 : dI cX7_textTold 0 1 (.iload_n 1) 1 := ⟨by decide +kernel, rfl⟩
theorem dX7_textTold_1 : dI cX7_textTold 1 2 (.iconst 0) 1 := ⟨by decide +kernel, rfl⟩
theorem dX7_textTold_2 : dI cX7_textTold 2 3 (.aload_n 0) 1 := ⟨by decide +kernel, rfl⟩
theorem dX7_textTold_3 : dI cX7_textTold 3 6 (.getfield 9) 3 := ⟨by decide +kernel, rfl⟩
theorem dX7_textTold_6 : dI cX7_textTold 6 8 (.bipush 7) 2 := ⟨by decide +kernel, rfl⟩
theorem dX7_textTold_8 : dI cX7_textTold 8 9 (.iaload) 1 := ⟨by decide +kernel, rfl⟩
theorem dX7_textTold_9 : dI cX7_textTold 9 10 (.iconst 1) 1 := ⟨by decide +kernel, rfl⟩
theorem dX7_textTold_10 : dI cX7_textTold 10 11 (.isub) 1 := ⟨by decide +kernel, rfl⟩
theorem dX7_textTold_11 : decode cX7_textTold 11 = .ok (.invokestatic 79, 3) := by decide +kernel
theorem dX7_textTold_14 : decode cX7_textTold 14 = .ok (.ifCond .eq 12, 3) := by decide +kernel
theorem dX7_textTold_17 : dI cX7_textTold 17 18 (.iload_n 2) 1 := ⟨by decide +kernel, rfl⟩
theorem dX7_textTold_18 : dI cX7_textTold 18 19 (.iconst 0) 1 := ⟨by decide +kernel, rfl⟩
theorem dX7_textTold_19 : dI cX7_textTold 19 20 (.iconst 1) 1 := ⟨by decide +kernel, rfl⟩
theorem dX7_textTold_20 : decode cX7_textTold 20 = .ok (.invokestatic 79, 3) := by decide +kernel
theorem dX7_textTold_23 : decode cX7_textTold 23 = .ok (.ifCond .ne 6, 3) := by decide +kernel
theorem dX7_textTold_26 : dI cX7_textTold 26 28 (.ldc 87) 2 := ⟨by decide +kernel, rfl⟩
theorem dX7_textTold_28 : dI cX7_textTold 28 29 (.ireturn) 1 := ⟨by decide +kernel, rfl⟩
theorem dX7_textTold_29 : dI cX7_textTold 29 30 (.iload_n 2) 1 := ⟨by decide +kernel, rfl⟩
theorem dX7_textTold_30 : decode cX7_textTold 30 = .ok (.ifCond .ne 21, 3) := by decide +kernel
theorem dX7_textTold_33 : dI cX7_textTold 33 34 (.aload_n 0) 1 := ⟨by decide +kernel, rfl⟩
theorem dX7_textTold_34 : dI cX7_textTold 34 37 (.getfield 9) 3 := ⟨by decide +kernel, rfl⟩
theorem dX7_textTold_37 : dI cX7_textTold 37 39 (.bipush 104) 2 := ⟨by decide +kernel, rfl⟩
theorem dX7_textTold_39 : dI cX7_textTold 39 40 (.iconst 2) 1 := ⟨by decide +kernel, rfl⟩
theorem dX7_textTold_40 : dI cX7_textTold 40 41 (.iload_n 1) 1 := ⟨by decide +kernel, rfl⟩
theorem dX7_textTold_41 : dI cX7_textTold 41 42 (.imul) 1 := ⟨by decide +kernel, rfl⟩
theorem dX7_textTold_42 : dI cX7_textTold 42 43 (.iadd) 1 := ⟨by decide +kernel, rfl⟩
theorem dX7_textTold_43 : dI cX7_textTold 43 44 (.iaload) 1 := ⟨by decide +kernel, rfl⟩
theorem dX7_textTold_44 : dI cX7_textTold 44 47 (.sipush 1000) 3 := ⟨by decide +kernel, rfl⟩
theorem dX7_textTold_47 : dI cX7_textTold 47 48 (.idiv) 1 := ⟨by decide +kernel, rfl⟩
theorem dX7_textTold_48 : decode cX7_textTold 48 = .ok (.goto 16, 3) := by decide +kernel
theorem dX7_textTold_51 : dI cX7_textTold 51 52 (.aload_n 0) 1 := ⟨by decide +kernel, rfl⟩
theorem dX7_textTold_52 : dI cX7_textTold 52 55 (.getfield 9) 3 := ⟨by decide +kernel, rfl⟩
theorem dX7_textTold_55 : dI cX7_textTold 55 57 (.bipush 104) 2 := ⟨by decide +kernel, rfl⟩
theorem dX7_textTold_57 : dI cX7_textTold 57 58 (.iconst 2) 1 := ⟨by decide +kernel, rfl⟩
theorem dX7_textTold_58 : dI cX7_textTold 58 59 (.iload_n 1) 1 := ⟨by decide +kernel, rfl⟩
theorem dX7_textTold_59 : dI cX7_textTold 59 60 (.imul) 1 := ⟨by decide +kernel, rfl⟩
theorem dX7_textTold_60 : dI cX7_textTold 60 61 (.iadd) 1 := ⟨by decide +kernel, rfl⟩
theorem dX7_textTold_61 : dI cX7_textTold 61 62 (.iconst 1) 1 := ⟨by decide +kernel, rfl⟩
theorem dX7_textTold_62 : dI cX7_textTold 62 63 (.iadd) 1 := ⟨by decide +kernel, rfl⟩
theorem dX7_textTold_63 : dI cX7_textTold 63 64 (.iaload) 1 := ⟨by decide +kernel, rfl⟩
theorem dX7_textTold_64 : dI cX7_textTold 64 65 (.ireturn) 1 := ⟨by decide +kernel, rfl⟩
def f_X7_textTold (s : hS) (a0 : Nat) (i1 : Int32) (i2 : Int32) : Option (Int32 × hS) :=
  (gR s a0 7 0).bind fun a1 =>
  (aI s a1 10 (7 : Int32)).bind fun x2 =>
  (f_X7_in s i1 (0 : Int32) (x2 - (1 : Int32))).bind fun p3 =>
  if p3.1 = 0 then
    some ((-1000000001 : Int32), p3.2)
  else
    (f_X7_in p3.2 i2 (0 : Int32) (1 : Int32)).bind fun p4 =>
    if p4.1 = 0 then
      some ((-1000000001 : Int32), p4.2)
    else
      if i2 = 0 then
        (gR p4.2 a0 7 0).bind fun a7 =>
        (aI p4.2 a7 10 ((104 : Int32) + ((2 : Int32) * i1))).bind fun x8 =>
        if (1000 : Int32) = 0 then none else
        some ((x8 / (1000 : Int32)), p4.2)
      else
        (gR p4.2 a0 7 0).bind fun a5 =>
        (aI p4.2 a5 10 (((104 : Int32) + ((2 : Int32) * i1)) + (1 : Int32))).bind fun x6 =>
        some (x6, p4.2)
theorem b_X7_textTold_in (E : jE)  (s : hS) (a0 : Nat) (i1 : Int32) (i2 : Int32)  : Jo E M_X7_textTold cvI 0 [(0, .ref a0), (1, .int i1), (2, .int i2)] [] s (f_X7_textTold s a0 i1 i2) := by
  unfold f_X7_textTold
  refine Jo_iloadn 1 dX7_textTold_0 rfl rfl ?_
  refine Jo_iconst (v := (0 : Int32)) dX7_textTold_1 (by decide) ?_
  refine Jo_aloadn 0 dX7_textTold_2 rfl rfl ?_
  refine Jo_getR fF_7_0 fR_7_0 dX7_textTold_3 w_598 (fun a1 => ?_)
  refine Jo_bipush (v := (7 : Int32)) dX7_textTold_6 (by decide) ?_
  refine Jo_iaload dX7_textTold_8 (fun x2 => ?_)
  refine Jo_iconst (v := (1 : Int32)) dX7_textTold_9 (by decide) ?_
  refine Jo_isub dX7_textTold_10 ?_
  refine Jo_callSi (rest := []) [.int i1, .int (0 : Int32), .int (x2 - (1 : Int32))] yF_X7_in yS_X7_in w_635 rfl rfl ⟨Nat.le_of_ble_eq_true rfl, Nat.le_of_ble_eq_true rfl, Nat.le_of_ble_eq_true rfl⟩ dX7_textTold_11 rfl (K_X7_in E s i1 (0 : Int32) (x2 - (1 : Int32))) (fun p3 => ?_)
  refine Jo_if_eq 26 dX7_textTold_14 (by decide) rfl ?_ ?_
  · refine Jo_ldc dX7_textTold_26 w_673 ?_
    exact Jo_iret rfl dX7_textTold_28
  · refine Jo_iloadn 2 dX7_textTold_17 rfl rfl ?_
    refine Jo_iconst (v := (0 : Int32)) dX7_textTold_18 (by decide) ?_
    refine Jo_iconst (v := (1 : Int32)) dX7_textTold_19 (by decide) ?_
    refine Jo_callSi (rest := []) [.int i2, .int (0 : Int32), .int (1 : Int32)] yF_X7_in yS_X7_in w_635 rfl rfl ⟨Nat.le_of_ble_eq_true rfl, Nat.le_of_ble_eq_true rfl, Nat.le_of_ble_eq_true rfl⟩ dX7_textTold_20 rfl (K_X7_in E p3.2 i2 (0 : Int32) (1 : Int32)) (fun p4 => ?_)
    refine Jo_if_ne 29 dX7_textTold_23 (by decide) rfl ?_ ?_
    · refine Jo_ldc dX7_textTold_26 w_673 ?_
      exact Jo_iret rfl dX7_textTold_28
    · refine Jo_iloadn 2 dX7_textTold_29 rfl rfl ?_
      refine Jo_if_ne 51 dX7_textTold_30 (by decide) rfl ?_ ?_
      · refine Jo_aloadn 0 dX7_textTold_33 rfl rfl ?_
        refine Jo_getR fF_7_0 fR_7_0 dX7_textTold_34 w_598 (fun a7 => ?_)
        refine Jo_bipush (v := (104 : Int32)) dX7_textTold_37 (by decide) ?_
        refine Jo_iconst (v := (2 : Int32)) dX7_textTold_39 (by decide) ?_
        refine Jo_iloadn 1 dX7_textTold_40 rfl rfl ?_
        refine Jo_imul dX7_textTold_41 ?_
        refine Jo_iadd dX7_textTold_42 ?_
        refine Jo_iaload dX7_textTold_43 (fun x8 => ?_)
        refine Jo_sipush (v := (1000 : Int32)) dX7_textTold_44 (by decide) ?_
        refine Jo_idiv dX7_textTold_47 ?_
        refine Jo_goto 64 dX7_textTold_48 (by decide) ?_
        exact Jo_iret rfl dX7_textTold_64
      · refine Jo_aloadn 0 dX7_textTold_51 rfl rfl ?_
        refine Jo_getR fF_7_0 fR_7_0 dX7_textTold_52 w_598 (fun a5 => ?_)
        refine Jo_bipush (v := (104 : Int32)) dX7_textTold_55 (by decide) ?_
        refine Jo_iconst (v := (2 : Int32)) dX7_textTold_57 (by decide) ?_
        refine Jo_iloadn 1 dX7_textTold_58 rfl rfl ?_
        refine Jo_imul dX7_textTold_59 ?_
        refine Jo_iadd dX7_textTold_60 ?_
        refine Jo_iconst (v := (1 : Int32)) dX7_textTold_61 (by decide) ?_
        refine Jo_iadd dX7_textTold_62 ?_
        refine Jo_iaload dX7_textTold_63 (fun x6 => ?_)
        exact Jo_iret rfl dX7_textTold_64
theorem K_X7_textTold (E : jE) (s : hS) (a0 : Nat) (i1 : Int32) (i2 : Int32) : jK E yX7_textTold M_X7_textTold cvI [.ref a0, .int i1, .int i2] s (f_X7_textTold s a0 i1 i2) := jK_of ⟨by decide, rfl, rfl⟩ (Nat.le_of_ble_eq_true rfl) (b_X7_textTold_in E s a0 i1 i2)
/-! HeronTalkModel.why(I)I -/
abbrev M_X7_why : jM := (RX7, cX7_why, 3, (some .int), "why", 1, 22)
theorem yF_X7_why : yF yX7_why M_X7_why 1 := ⟨w_921, w_624, by decide +kernel⟩
theorem yV_X7_why : Cond.instanceMethod yX7_why ∈ tbG ∧ Cond.selects yX7_why.cls yX7_why yX7_why ∈ tbG := ⟨w_922, w_923⟩
theorem dX7_why_0 : dI cX7_why 0 1 (.iload_n 1) 1 := ⟨by decide +kernel, rfl⟩
theorem dX7_why_1 : dI cX7_why 1 2 (.iconst 0) 1 := ⟨by decide +kernel, rfl⟩
theorem dX7_why_2 : dI cX7_why 2 3 (.iconst 2) 1 := ⟨by decide +kernel, rfl⟩
theorem dX7_why_3 : decode cX7_why 3 = .ok (.invokestatic 79, 3) := by decide +kernel
theorem dX7_why_6 : decode cX7_why 6 = .ok (.ifCond .ne 6, 3) := by decide +kernel
theorem dX7_why_9 : dI cX7_why 9 11 (.ldc 87) 2 := ⟨by decide +kernel, rfl⟩
theorem dX7_why_11 : dI cX7_why 11 12 (.ireturn) 1 := ⟨by decide +kernel, rfl⟩
theorem dX7_why_12 : dI cX7_why 12 13 (.aload_n 0) 1 := ⟨by decide +kernel, rfl⟩
theorem dX7_why_13 : dI cX7_why 13 14 (.iload_n 1) 1 := ⟨by decide +kernel, rfl⟩
theorem dX7_why_14 : decode cX7_why 14 = .ok (.invokevirtual 129, 3) := by decide +kernel
theorem dX7_why_17 : dI cX7_why 17 18 (.istore_n 2) 1 := ⟨by decide +kernel, rfl⟩
theorem dX7_why_18 : dI cX7_why 18 19 (.iload_n 2) 1 := ⟨by decide +kernel, rfl⟩
theorem dX7_why_19 : decode cX7_why 19 = .ok (.ifCond .ge 8, 3) := by decide +kernel
theorem dX7_why_22 : dI cX7_why 22 24 (.ldc 78) 2 := ⟨by decide +kernel, rfl⟩
theorem dX7_why_24 : decode cX7_why 24 = .ok (.goto 4, 3) := by decide +kernel
theorem dX7_why_27 : dI cX7_why 27 28 (.iload_n 2) 1 := ⟨by decide +kernel, rfl⟩
theorem dX7_why_28 : dI cX7_why 28 29 (.ireturn) 1 := ⟨by decide +kernel, rfl⟩
def f_X7_why (s : hS) (a0 : Nat) (i1 : Int32) : Option (Int32 × hS) :=
  (f_X7_in s i1 (0 : Int32) (2 : Int32)).bind fun p1 =>
  if p1.1 = 0 then
    some ((-1000000001 : Int32), p1.2)
  else
    (cV p1.2 a0 7 (f_X7_counts p1.2 a0 i1)).bind fun p2 =>
    if 0 ≤ p2.1 then
      some (p2.1, p2.2)
    else
      some ((-1000000005 : Int32), p2.2)
theorem b_X7_why_in (E : jE)  (s : hS) (a0 : Nat) (i1 : Int32)  : Jo E M_X7_why cvI 0 [(0, .ref a0), (1, .int i1)] [] s (f_X7_why s a0 i1) := by
  unfold f_X7_why
  refine Jo_iloadn 1 dX7_why_0 rfl rfl ?_
  refine Jo_iconst (v := (0 : Int32)) dX7_why_1 (by decide) ?_
  refine Jo_iconst (v := (2 : Int32)) dX7_why_2 (by decide) ?_
  refine Jo_callSi (rest := []) [.int i1, .int (0 : Int32), .int (2 : Int32)] yF_X7_in yS_X7_in w_635 rfl rfl ⟨Nat.le_of_ble_eq_true rfl, Nat.le_of_ble_eq_true rfl, Nat.le_of_ble_eq_true rfl⟩ dX7_why_3 rfl (K_X7_in E s i1 (0 : Int32) (2 : Int32)) (fun p1 => ?_)
  refine Jo_if_ne 12 dX7_why_6 (by decide) rfl ?_ ?_
  · refine Jo_ldc dX7_why_9 w_673 ?_
    exact Jo_iret rfl dX7_why_11
  · refine Jo_aloadn 0 dX7_why_12 rfl rfl ?_
    refine Jo_iloadn 1 dX7_why_13 rfl rfl ?_
    refine Jo_callVi (a := a0) (rest := []) [.int i1] cc_7 yF_X7_counts yV_X7_counts w_728 rfl rfl ⟨Nat.le_of_ble_eq_true rfl, Nat.le_of_ble_eq_true rfl, Nat.le_of_ble_eq_true rfl⟩ dX7_why_14 rfl (K_X7_counts E p1.2 a0 i1) (fun p2 => ?_)
    refine Jo_istoren (ls' := [(2, .int p2.1), (0, .ref a0), (1, .int i1)]) dX7_why_17 rfl (by decide) rfl ?_
    refine Jo_iloadn 0 dX7_why_18 rfl rfl ?_
    refine Jo_if_ge 27 dX7_why_19 (by decide) rfl ?_ ?_
    · refine Jo_iloadn 0 dX7_why_27 rfl rfl ?_
      exact Jo_iret rfl dX7_why_28
    · refine Jo_ldc dX7_why_22 w_632 ?_
      refine Jo_goto 28 dX7_why_24 (by decide) ?_
      exact Jo_iret rfl dX7_why_28
theorem K_X7_why (E : jE) (s : hS) (a0 : Nat) (i1 : Int32) : jK E yX7_why M_X7_why cvI [.ref a0, .int i1] s (f_X7_why s a0 i1) := jK_of ⟨by decide, rfl, rfl⟩ (Nat.le_of_ble_eq_true rfl) (b_X7_why_in E s a0 i1)
/-! HeronTalkModel.isSheet(I)Z -/
abbrev M_X7_isSheet : jM := (RX7, cX7_isSheet, 1, (some .boolean), "isSheet", 1, 22)
theorem yF_X7_isSheet : yF yX7_isSheet M_X7_isSheet 1 := ⟨w_924, w_624, by decide +kernel⟩
theorem yS_X7_isSheet : Cond.static yX7_isSheet ∈ tbG := w_925
theorem dX7_isSheet_0 : dI cX7_isSheet 0 1 (.iload_n 0) 1 := ⟨by decide +kernel, rfl⟩
theorem dX7_isSheet_1 : dI cX7_isSheet 1 2 (.iconst 0) 1 := ⟨by decide +kernel, rfl⟩
theorem dX7_isSheet_2 : dI cX7_isSheet 2 3 (.iconst 3) 1 := ⟨by decide +kernel, rfl⟩
theorem dX7_isSheet_3 : decode cX7_isSheet 3 = .ok (.invokestatic 79, 3) := by decide +kernel
theorem dX7_isSheet_6 : dI cX7_isSheet 6 7 (.ireturn) 1 := ⟨by decide +kernel, rfl⟩
def f_X7_isSheet (s : hS) (i0 : Int32) : Option (Int32 × hS) :=
  (f_X7_in s i0 (0 : Int32) (3 : Int32)).bind fun p1 =>
  if p1.1 = 0 ∨ p1.1 = 1 then some (p1.1, p1.2) else none
theorem b_X7_isSheet_in (E : jE)  (s : hS) (i0 : Int32)  : Jo E M_X7_isSheet cvI 0 [(0, .int i0)] [] s (f_X7_isSheet s i0) := by
  unfold f_X7_isSheet
  refine Jo_iloadn 0 dX7_isSheet_0 rfl rfl ?_
  refine Jo_iconst (v := (0 : Int32)) dX7_isSheet_1 (by decide) ?_
  refine Jo_iconst (v := (3 : Int32)) dX7_isSheet_2 (by decide) ?_
  refine Jo_callSi (rest := []) [.int i0, .int (0 : Int32), .int (3 : Int32)] yF_X7_in yS_X7_in w_635 rfl rfl ⟨Nat.le_of_ble_eq_true rfl, Nat.le_of_ble_eq_true rfl, Nat.le_of_ble_eq_true rfl⟩ dX7_isSheet_3 rfl (K_X7_in E s i0 (0 : Int32) (3 : Int32)) (fun p1 => ?_)
  exact Jo_zret rfl dX7_isSheet_6
theorem K_X7_isSheet (E : jE) (s : hS) (i0 : Int32) : jK E yX7_isSheet M_X7_isSheet cvI [.int i0] s (f_X7_isSheet s i0) := jK_of ⟨by decide, rfl, rfl⟩ (Nat.le_of_ble_eq_true rfl) (b_X7_isSheet_in E s i0)
/-! HeronTalkModel.isSlot(I)Z -/
abbrev M_X7_isSlot : jM := (RX7, cX7_isSlot, 1, (some .boolean), "isSlot", 1, 22)
theorem yF_X7_isSlot : yF yX7_isSlot M_X7_isSlot 1 := ⟨w_926, w_624, by decide +kernel⟩
theorem yS_X7_isSlot : Cond.static yX7_isSlot ∈ tbG := w_927
theorem dX7_isSlot_0 : dI cX7_isSlot 0 1 (.iload_n 0) 1 := ⟨by decide +kernel, rfl⟩
theorem dX7_isSlot_1 : dI cX7_isSlot 1 2 (.iconst 0) 1 := ⟨by decide +kernel, rfl⟩
theorem dX7_isSlot_2 : dI cX7_isSlot 2 3 (.iconst 4) 1 := ⟨by decide +kernel, rfl⟩
theorem dX7_isSlot_3 : decode cX7_isSlot 3 = .ok (.invokestatic 79, 3) := by decide +kernel
theorem dX7_isSlot_6 : dI cX7_isSlot 6 7 (.ireturn) 1 := ⟨by decide +kernel, rfl⟩
def f_X7_isSlot (s : hS) (i0 : Int32) : Option (Int32 × hS) :=
  (f_X7_in s i0 (0 : Int32) (4 : Int32)).bind fun p1 =>
  if p1.1 = 0 ∨ p1.1 = 1 then some (p1.1, p1.2) else none
theorem b_X7_isSlot_in (E : jE)  (s : hS) (i0 : Int32)  : Jo E M_X7_isSlot cvI 0 [(0, .int i0)] [] s (f_X7_isSlot s i0) := by
  unfold f_X7_isSlot
  refine Jo_iloadn 0 dX7_isSlot_0 rfl rfl ?_
  refine Jo_iconst (v := (0 : Int32)) dX7_isSlot_1 (by decide) ?_
  refine Jo_iconst (v := (4 : Int32)) dX7_isSlot_2 (by decide) ?_
  refine Jo_callSi (rest := []) [.int i0, .int (0 : Int32), .int (4 : Int32)] yF_X7_in yS_X7_in w_635 rfl rfl ⟨Nat.le_of_ble_eq_true rfl, Nat.le_of_ble_eq_true rfl, Nat.le_of_ble_eq_true rfl⟩ dX7_isSlot_3 rfl (K_X7_in E s i0 (0 : Int32) (4 : Int32)) (fun p1 => ?_)
  exact Jo_zret rfl dX7_isSlot_6
theorem K_X7_isSlot (E : jE) (s : hS) (i0 : Int32) : jK E yX7_isSlot M_X7_isSlot cvI [.int i0] s (f_X7_isSlot s i0) := jK_of ⟨by decide, rfl, rfl⟩ (Nat.le_of_ble_eq_true rfl) (b_X7_isSlot_in E s i0)
/-! HeronTalkModel.sheet(III)I -/
abbrev M_X7_sheet : jM := (RX7, cX7_sheet, 5, (some .int), "sheet", 2, 42)
theorem yF_X7_sheet : yF yX7_sheet M_X7_sheet 3 := ⟨w_930, w_624, by decide +kernel⟩
theorem yV_X7_sheet : Cond.instanceMethod yX7_sheet ∈ tbG ∧ Cond.selects yX7_sheet.cls yX7_sheet yX7_sheet ∈ tbG := ⟨w_931, w_932⟩
theorem dX7_sheet_0 : dI cX7_sheet 0 1 (.iload_n 1) 1 := ⟨by decide +kernel, rfl⟩
theorem dX7_sheet_1 : decode cX7_sheet 1 = .ok (.invokestatic 278, 3) := by decide +kernel
theorem dX7_sheet_4 : decode cX7_sheet 4 = .ok (.ifCond .eq 22, 3) := by decide +kernel
theorem dX7_sheet_7 : dI cX7_sheet 7 8 (.iload_n 2) 1 := ⟨by decide +kernel, rfl⟩
theorem dX7_sheet_8 : dI cX7_sheet 8 9 (.iconst (-1)) 1 := ⟨by decide +kernel, rfl⟩
theorem dX7_sheet_9 : dI cX7_sheet 9 10 (.iconst 1) 1 := ⟨by decide +kernel, rfl⟩
theorem dX7_sheet_10 : decode cX7_sheet 10 = .ok (.invokestatic 79, 3) := by decide +kernel
theorem dX7_sheet_13 : decode cX7_sheet 13 = .ok (.ifCond .eq 13, 3) := by decide +kernel
theorem dX7_sheet_16 : dI cX7_sheet 16 17 (.iload_n 2) 1 := ⟨by decide +kernel, rfl⟩
theorem dX7_sheet_17 : decode cX7_sheet 17 = .ok (.ifCond .lt 12, 3) := by decide +kernel
theorem dX7_sheet_20 : dI cX7_sheet 20 21 (.iload_n 3) 1 := ⟨by decide +kernel, rfl⟩
theorem dX7_sheet_21 : dI cX7_sheet 21 23 (.bipush 24) 2 := ⟨by decide +kernel, rfl⟩
theorem dX7_sheet_23 : decode cX7_sheet 23 = .ok (.if_icmp .le 6, 3) := by decide +kernel
theorem dX7_sheet_26 : dI cX7_sheet 26 28 (.ldc 87) 2 := ⟨by decide +kernel, rfl⟩
theorem dX7_sheet_28 : dI cX7_sheet 28 29 (.ireturn) 1 := ⟨by decide +kernel, rfl⟩
theorem dX7_sheet_29 : dI cX7_sheet 29 30 (.iload_n 2) 1 := ⟨by decide +kernel, rfl⟩
theorem dX7_sheet_30 : decode cX7_sheet 30 = .ok (.ifCond .lt 11, 3) := by decide +kernel
theorem dX7_sheet_33 : dI cX7_sheet 33 34 (.iload_n 3) 1 := ⟨by decide +kernel, rfl⟩
theorem dX7_sheet_34 : decode cX7_sheet 34 = .ok (.ifCond .ge 7, 3) := by decide +kernel
theorem dX7_sheet_37 : dI cX7_sheet 37 40 (.ldc_w 281) 3 := ⟨by decide +kernel, rfl⟩
theorem dX7_sheet_40 : dI cX7_sheet 40 41 (.ireturn) 1 := ⟨by decide +kernel, rfl⟩
theorem dX7_sheet_41 : dI cX7_sheet 41 42 (.aload_n 0) 1 := ⟨by decide +kernel, rfl⟩
theorem dX7_sheet_42 : dI cX7_sheet 42 45 (.getfield 51) 3 := ⟨by decide +kernel, rfl⟩
theorem dX7_sheet_45 : dI cX7_sheet 45 46 (.iload_n 1) 1 := ⟨by decide +kernel, rfl⟩
theorem dX7_sheet_46 : dI cX7_sheet 46 47 (.iload_n 2) 1 := ⟨by decide +kernel, rfl⟩
theorem dX7_sheet_47 : dI cX7_sheet 47 48 (.iastore) 1 := ⟨by decide +kernel, rfl⟩
theorem dX7_sheet_48 : dI cX7_sheet 48 49 (.aload_n 0) 1 := ⟨by decide +kernel, rfl⟩
theorem dX7_sheet_49 : dI cX7_sheet 49 52 (.getfield 54) 3 := ⟨by decide +kernel, rfl⟩
theorem dX7_sheet_52 : dI cX7_sheet 52 53 (.iload_n 1) 1 := ⟨by decide +kernel, rfl⟩
theorem dX7_sheet_53 : dI cX7_sheet 53 54 (.iload_n 2) 1 := ⟨by decide +kernel, rfl⟩
theorem dX7_sheet_54 : decode cX7_sheet 54 = .ok (.ifCond .ge 7, 3) := by decide +kernel
theorem dX7_sheet_57 : dI cX7_sheet 57 58 (.iconst 0) 1 := ⟨by decide +kernel, rfl⟩
theorem dX7_sheet_58 : decode cX7_sheet 58 = .ok (.goto 4, 3) := by decide +kernel
theorem dX7_sheet_61 : dI cX7_sheet 61 62 (.iload_n 3) 1 := ⟨by decide +kernel, rfl⟩
theorem dX7_sheet_62 : dI cX7_sheet 62 63 (.iastore) 1 := ⟨by decide +kernel, rfl⟩
theorem dX7_sheet_63 : dI cX7_sheet 63 64 (.iconst 0) 1 := ⟨by decide +kernel, rfl⟩
theorem dX7_sheet_64 : dI cX7_sheet 64 66 (.istore 4) 2 := ⟨by decide +kernel, rfl⟩
theorem dX7_sheet_66 : dI cX7_sheet 66 68 (.iload 4) 2 := ⟨by decide +kernel, rfl⟩
theorem dX7_sheet_68 : dI cX7_sheet 68 70 (.bipush 24) 2 := ⟨by decide +kernel, rfl⟩
theorem dX7_sheet_70 : decode cX7_sheet 70 = .ok (.if_icmp .ge 22, 3) := by decide +kernel
theorem dX7_sheet_73 : dI cX7_sheet 73 74 (.aload_n 0) 1 := ⟨by decide +kernel, rfl⟩
theorem dX7_sheet_74 : dI cX7_sheet 74 77 (.getfield 57) 3 := ⟨by decide +kernel, rfl⟩
theorem dX7_sheet_77 : dI cX7_sheet 77 79 (.bipush 24) 2 := ⟨by decide +kernel, rfl⟩
theorem dX7_sheet_79 : dI cX7_sheet 79 80 (.iload_n 1) 1 := ⟨by decide +kernel, rfl⟩
theorem dX7_sheet_80 : dI cX7_sheet 80 81 (.imul) 1 := ⟨by decide +kernel, rfl⟩
theorem dX7_sheet_81 : dI cX7_sheet 81 83 (.iload 4) 2 := ⟨by decide +kernel, rfl⟩
theorem dX7_sheet_83 : dI cX7_sheet 83 84 (.iadd) 1 := ⟨by decide +kernel, rfl⟩
theorem dX7_sheet_84 : dI cX7_sheet 84 85 (.iconst 0) 1 := ⟨by decide +kernel, rfl⟩
theorem dX7_sheet_85 : dI cX7_sheet 85 86 (.iastore) 1 := ⟨by decide +kernel, rfl⟩
theorem dX7_sheet_86 : dI cX7_sheet 86 89 (.iinc 4 1) 3 := ⟨by decide +kernel, rfl⟩
theorem dX7_sheet_89 : decode cX7_sheet 89 = .ok (.goto (-23), 3) := by decide +kernel
theorem dX7_sheet_92 : dI cX7_sheet 92 93 (.aload_n 0) 1 := ⟨by decide +kernel, rfl⟩
theorem dX7_sheet_93 : dI cX7_sheet 93 96 (.getfield 54) 3 := ⟨by decide +kernel, rfl⟩
theorem dX7_sheet_96 : dI cX7_sheet 96 97 (.iload_n 1) 1 := ⟨by decide +kernel, rfl⟩
theorem dX7_sheet_97 : dI cX7_sheet 97 98 (.iaload) 1 := ⟨by decide +kernel, rfl⟩
theorem dX7_sheet_98 : dI cX7_sheet 98 99 (.ireturn) 1 := ⟨by decide +kernel, rfl⟩
def f_X7_sheet_b66 (k66 : Nat → Int32 → Int32 → hS → Option (Int32 × hS)) (l0 : Nat) (l1 : Int32) (l4 : Int32) (s : hS) : Option (Int32 × hS) :=
  if (24 : Int32) ≤ l4 then
    (gR s l0 7 25).bind fun a1 =>
    (aI s a1 10 l1).bind fun x2 =>
    some (x2, s)
  else
    (gR s l0 7 26).bind fun a3 =>
    (sI s a3 10 (((24 : Int32) * l1) + l4) (0 : Int32)).bind fun s4 =>
    k66 l0 l1 (l4 + (1 : Int32)) s4
theorem b_X7_sheet_66 (E : jE) (k66 : Nat → Int32 → Int32 → hS → Option (Int32 × hS)) (h66 : ∀ (s : hS) (l0 : Nat) (l1 : Int32) (l4 : Int32) , Jo E M_X7_sheet cvI 66 [(0, .ref l0), (1, .int l1), (4, .int l4)] [] s (k66 l0 l1 l4 s)) (s : hS) (l0 : Nat) (l1 : Int32) (l4 : Int32)  : Jo E M_X7_sheet cvI 66 [(0, .ref l0), (1, .int l1), (4, .int l4)] [] s (f_X7_sheet_b66 k66 l0 l1 l4 s) := by
  unfold f_X7_sheet_b66
  refine Jo_iload 2 dX7_sheet_66 rfl ?_
  refine Jo_bipush (v := (24 : Int32)) dX7_sheet_68 (by decide) ?_
  refine Jo_icmp_ge 92 dX7_sheet_70 (by decide) rfl ?_ ?_
  · refine Jo_aloadn 0 dX7_sheet_92 rfl rfl ?_
    refine Jo_getR fF_7_25 fR_7_25 dX7_sheet_93 w_606 (fun a1 => ?_)
    refine Jo_iloadn 1 dX7_sheet_96 rfl rfl ?_
    refine Jo_iaload dX7_sheet_97 (fun x2 => ?_)
    exact Jo_iret rfl dX7_sheet_98
  · refine Jo_aloadn 0 dX7_sheet_73 rfl rfl ?_
    refine Jo_getR fF_7_26 fR_7_26 dX7_sheet_74 w_605 (fun a3 => ?_)
    refine Jo_bipush (v := (24 : Int32)) dX7_sheet_77 (by decide) ?_
    refine Jo_iloadn 1 dX7_sheet_79 rfl rfl ?_
    refine Jo_imul dX7_sheet_80 ?_
    refine Jo_iload 2 dX7_sheet_81 rfl ?_
    refine Jo_iadd dX7_sheet_83 ?_
    refine Jo_iconst (v := (0 : Int32)) dX7_sheet_84 (by decide) ?_
    refine Jo_iastore dX7_sheet_85 (fun s4 => ?_)
    refine Jo_iinc (v := (l4 + (1 : Int32))) (ls' := [(4, .int (l4 + (1 : Int32))), (0, .ref l0), (1, .int l1)]) 2 dX7_sheet_86 rfl rfl (by decide) rfl ?_
    refine Jo_goto 66 dX7_sheet_89 (by decide) ?_
    refine Jo_sub [1, 2, 0] rfl ?_
    exact h66 s4 l0 l1 (l4 + (1 : Int32))
theorem e_X7_sheet_66 (E : jE)  (n : Nat) : ∀ (s : hS) (l0 : Nat) (l1 : Int32) (l4 : Int32) , Jo E M_X7_sheet cvI 66 [(0, .ref l0), (1, .int l1), (4, .int l4)] [] s ((jL f_X7_sheet_b66 (fun _ _ _ _ => none) n) l0 l1 l4 s) :=
  jL_ind (P := fun f => ∀ (s : hS) (l0 : Nat) (l1 : Int32) (l4 : Int32) , Jo E M_X7_sheet cvI 66 [(0, .ref l0), (1, .int l1), (4, .int l4)] [] s (f l0 l1 l4 s)) (fun _ _ _ _ => Jo_none) (fun b hb s l0 l1 l4 => b_X7_sheet_66 E  b hb s l0 l1 l4) n
def f_X7_sheet_b62 (l0 : Nat) (l1 : Int32) (t0 : Nat) (t1 : Int32) (t2 : Int32) (s : hS) : Option (Int32 × hS) :=
  (sI s t0 10 t1 t2).bind fun s1 =>
  jL f_X7_sheet_b66 (fun _ _ _ _ => none) jF l0 l1 (0 : Int32) s1
theorem b_X7_sheet_62 (E : jE)  (s : hS) (l0 : Nat) (l1 : Int32) (t0 : Nat) (t1 : Int32) (t2 : Int32) : Jo E M_X7_sheet cvI 62 [(0, .ref l0), (1, .int l1)] [.int t2, .int t1, .ref t0] s (f_X7_sheet_b62  l0 l1 t0 t1 t2 s) := by
  unfold f_X7_sheet_b62
  refine Jo_iastore dX7_sheet_62 (fun s1 => ?_)
  refine Jo_iconst (v := (0 : Int32)) dX7_sheet_63 (by decide) ?_
  refine Jo_istore (ls' := [(4, .int (0 : Int32)), (0, .ref l0), (1, .int l1)]) dX7_sheet_64 (by decide) rfl ?_
  refine Jo_sub [1, 2, 0] rfl ?_
  exact e_X7_sheet_66 E jF s1 l0 l1 (0 : Int32)
def f_X7_sheet_b41 (l0 : Nat) (l1 : Int32) (l2 : Int32) (l3 : Int32) (s : hS) : Option (Int32 × hS) :=
  (gR s l0 7 24).bind fun a1 =>
  (sI s a1 10 l1 l2).bind fun s2 =>
  (gR s2 l0 7 25).bind fun a3 =>
  if 0 ≤ l2 then
    f_X7_sheet_b62 l0 l1 a3 l1 l3 s2
  else
    f_X7_sheet_b62 l0 l1 a3 l1 (0 : Int32) s2
theorem b_X7_sheet_41 (E : jE)  (s : hS) (l0 : Nat) (l1 : Int32) (l2 : Int32) (l3 : Int32)  : Jo E M_X7_sheet cvI 41 [(0, .ref l0), (1, .int l1), (2, .int l2), (3, .int l3)] [] s (f_X7_sheet_b41  l0 l1 l2 l3 s) := by
  unfold f_X7_sheet_b41
  refine Jo_aloadn 0 dX7_sheet_41 rfl rfl ?_
  refine Jo_getR fF_7_24 fR_7_24 dX7_sheet_42 w_607 (fun a1 => ?_)
  refine Jo_iloadn 1 dX7_sheet_45 rfl rfl ?_
  refine Jo_iloadn 2 dX7_sheet_46 rfl rfl ?_
  refine Jo_iastore dX7_sheet_47 (fun s2 => ?_)
  refine Jo_aloadn 0 dX7_sheet_48 rfl rfl ?_
  refine Jo_getR fF_7_25 fR_7_25 dX7_sheet_49 w_606 (fun a3 => ?_)
  refine Jo_iloadn 1 dX7_sheet_52 rfl rfl ?_
  refine Jo_iloadn 2 dX7_sheet_53 rfl rfl ?_
  refine Jo_if_ge 61 dX7_sheet_54 (by decide) rfl ?_ ?_
  · refine Jo_iloadn 3 dX7_sheet_61 rfl rfl ?_
    refine Jo_sub [0, 1] rfl ?_
    exact b_X7_sheet_62 E s2 l0 l1 a3 l1 l3
  · refine Jo_iconst (v := (0 : Int32)) dX7_sheet_57 (by decide) ?_
    refine Jo_goto 62 dX7_sheet_58 (by decide) ?_
    refine Jo_sub [0, 1] rfl ?_
    exact b_X7_sheet_62 E s2 l0 l1 a3 l1 (0 : Int32)
def f_X7_sheet_b29 (l0 : Nat) (l1 : Int32) (l2 : Int32) (l3 : Int32) (s : hS) : Option (Int32 × hS) :=
  if l2 < 0 then
    f_X7_sheet_b41 l0 l1 l2 l3 s
  else
    if 0 ≤ l3 then
      f_X7_sheet_b41 l0 l1 l2 l3 s
    else
      some ((-1000000014 : Int32), s)
theorem b_X7_sheet_29 (E : jE)  (s : hS) (l0 : Nat) (l1 : Int32) (l2 : Int32) (l3 : Int32)  : Jo E M_X7_sheet cvI 29 [(0, .ref l0), (1, .int l1), (2, .int l2), (3, .int l3)] [] s (f_X7_sheet_b29  l0 l1 l2 l3 s) := by
  unfold f_X7_sheet_b29
  refine Jo_iloadn 2 dX7_sheet_29 rfl rfl ?_
  refine Jo_if_lt 41 dX7_sheet_30 (by decide) rfl ?_ ?_
  · exact b_X7_sheet_41 E s l0 l1 l2 l3
  · refine Jo_iloadn 3 dX7_sheet_33 rfl rfl ?_
    refine Jo_if_ge 41 dX7_sheet_34 (by decide) rfl ?_ ?_
    · exact b_X7_sheet_41 E s l0 l1 l2 l3
    · refine Jo_ldcw dX7_sheet_37 w_928 ?_
      exact Jo_iret rfl dX7_sheet_40
def f_X7_sheet (s : hS) (a0 : Nat) (i1 : Int32) (i2 : Int32) (i3 : Int32) : Option (Int32 × hS) :=
  (f_X7_isSheet s i1).bind fun p1 =>
  if p1.1 = 0 then
    some ((-1000000001 : Int32), p1.2)
  else
    (f_X7_in p1.2 i2 (-1 : Int32) (1 : Int32)).bind fun p2 =>
    if p2.1 = 0 then
      some ((-1000000001 : Int32), p2.2)
    else
      if i2 < 0 then
        f_X7_sheet_b29 a0 i1 i2 i3 p2.2
      else
        if i3 ≤ (24 : Int32) then
          f_X7_sheet_b29 a0 i1 i2 i3 p2.2
        else
          some ((-1000000001 : Int32), p2.2)
theorem b_X7_sheet_in (E : jE)  (s : hS) (a0 : Nat) (i1 : Int32) (i2 : Int32) (i3 : Int32)  : Jo E M_X7_sheet cvI 0 [(0, .ref a0), (1, .int i1), (2, .int i2), (3, .int i3)] [] s (f_X7_sheet s a0 i1 i2 i3) := by
  unfold f_X7_sheet
  refine Jo_iloadn 1 dX7_sheet_0 rfl rfl ?_
  refine Jo_callSi (rest := []) [.int i1] yF_X7_isSheet yS_X7_isSheet w_929 rfl rfl ⟨Nat.le_of_ble_eq_true rfl, Nat.le_of_ble_eq_true rfl, Nat.le_of_ble_eq_true rfl⟩ dX7_sheet_1 rfl (K_X7_isSheet E s i1) (fun p1 => ?_)
  refine Jo_if_eq 26 dX7_sheet_4 (by decide) rfl ?_ ?_
  · refine Jo_ldc dX7_sheet_26 w_673 ?_
    exact Jo_iret rfl dX7_sheet_28
  · refine Jo_iloadn 2 dX7_sheet_7 rfl rfl ?_
    refine Jo_iconst (v := (-1 : Int32)) dX7_sheet_8 (by decide) ?_
    refine Jo_iconst (v := (1 : Int32)) dX7_sheet_9 (by decide) ?_
    refine Jo_callSi (rest := []) [.int i2, .int (-1 : Int32), .int (1 : Int32)] yF_X7_in yS_X7_in w_635 rfl rfl ⟨Nat.le_of_ble_eq_true rfl, Nat.le_of_ble_eq_true rfl, Nat.le_of_ble_eq_true rfl⟩ dX7_sheet_10 rfl (K_X7_in E p1.2 i2 (-1 : Int32) (1 : Int32)) (fun p2 => ?_)
    refine Jo_if_eq 26 dX7_sheet_13 (by decide) rfl ?_ ?_
    · refine Jo_ldc dX7_sheet_26 w_673 ?_
      exact Jo_iret rfl dX7_sheet_28
    · refine Jo_iloadn 2 dX7_sheet_16 rfl rfl ?_
      refine Jo_if_lt 29 dX7_sheet_17 (by decide) rfl ?_ ?_
      · exact b_X7_sheet_29 E p2.2 a0 i1 i2 i3
      · refine Jo_iloadn 3 dX7_sheet_20 rfl rfl ?_
        refine Jo_bipush (v := (24 : Int32)) dX7_sheet_21 (by decide) ?_
        refine Jo_icmp_le 29 dX7_sheet_23 (by decide) rfl ?_ ?_
        · exact b_X7_sheet_29 E p2.2 a0 i1 i2 i3
        · refine Jo_ldc dX7_sheet_26 w_673 ?_
          exact Jo_iret rfl dX7_sheet_28
theorem K_X7_sheet (E : jE) (s : hS) (a0 : Nat) (i1 : Int32) (i2 : Int32) (i3 : Int32) : jK E yX7_sheet M_X7_sheet cvI [.ref a0, .int i1, .int i2, .int i3] s (f_X7_sheet s a0 i1 i2 i3) := jK_of ⟨by decide, rfl, rfl⟩ (Nat.le_of_ble_eq_true rfl) (b_X7_sheet_in E s a0 i1 i2 i3)
/-! HeronTalkModel.mark(III)I -/
abbrev M_X7_mark : jM := (RX7, cX7_mark, 4, (some .int), "mark", 2, 42)
theorem yF_X7_mark : yF yX7_mark M_X7_mark 3 := ⟨w_937, w_624, by decide +kernel⟩
theorem yV_X7_mark : Cond.instanceMethod yX7_mark ∈ tbG ∧ Cond.selects yX7_mark.cls yX7_mark yX7_mark ∈ tbG := ⟨w_938, w_939⟩
theorem dX7_mark_0 : dI cX7_mark 0 1 (.iload_n 1) 1 := ⟨by decide +kernel, rfl⟩
theorem dX7_mark_1 : decode cX7_mark 1 = .ok (.invokestatic 278, 3) := by decide +kernel
theorem dX7_mark_4 : decode cX7_mark 4 = .ok (.ifCond .ne 6, 3) := by decide +kernel
theorem dX7_mark_7 : dI cX7_mark 7 9 (.ldc 87) 2 := ⟨by decide +kernel, rfl⟩
theorem dX7_mark_9 : dI cX7_mark 9 10 (.ireturn) 1 := ⟨by decide +kernel, rfl⟩
theorem dX7_mark_10 : dI cX7_mark 10 11 (.aload_n 0) 1 := ⟨by decide +kernel, rfl⟩
theorem dX7_mark_11 : dI cX7_mark 11 14 (.getfield 51) 3 := ⟨by decide +kernel, rfl⟩
theorem dX7_mark_14 : dI cX7_mark 14 15 (.iload_n 1) 1 := ⟨by decide +kernel, rfl⟩
theorem dX7_mark_15 : dI cX7_mark 15 16 (.iaload) 1 := ⟨by decide +kernel, rfl⟩
theorem dX7_mark_16 : decode cX7_mark 16 = .ok (.ifCond .ge 7, 3) := by decide +kernel
theorem dX7_mark_19 : dI cX7_mark 19 22 (.ldc_w 282) 3 := ⟨by decide +kernel, rfl⟩
theorem dX7_mark_22 : dI cX7_mark 22 23 (.ireturn) 1 := ⟨by decide +kernel, rfl⟩
theorem dX7_mark_23 : dI cX7_mark 23 24 (.iload_n 2) 1 := ⟨by decide +kernel, rfl⟩
theorem dX7_mark_24 : dI cX7_mark 24 25 (.iconst 0) 1 := ⟨by decide +kernel, rfl⟩
theorem dX7_mark_25 : dI cX7_mark 25 26 (.aload_n 0) 1 := ⟨by decide +kernel, rfl⟩
theorem dX7_mark_26 : dI cX7_mark 26 29 (.getfield 54) 3 := ⟨by decide +kernel, rfl⟩
theorem dX7_mark_29 : dI cX7_mark 29 30 (.iload_n 1) 1 := ⟨by decide +kernel, rfl⟩
theorem dX7_mark_30 : dI cX7_mark 30 31 (.iaload) 1 := ⟨by decide +kernel, rfl⟩
theorem dX7_mark_31 : dI cX7_mark 31 32 (.iconst 1) 1 := ⟨by decide +kernel, rfl⟩
theorem dX7_mark_32 : dI cX7_mark 32 33 (.isub) 1 := ⟨by decide +kernel, rfl⟩
theorem dX7_mark_33 : decode cX7_mark 33 = .ok (.invokestatic 79, 3) := by decide +kernel
theorem dX7_mark_36 : decode cX7_mark 36 = .ok (.ifCond .ne 7, 3) := by decide +kernel
theorem dX7_mark_39 : dI cX7_mark 39 42 (.ldc_w 283) 3 := ⟨by decide +kernel, rfl⟩
theorem dX7_mark_42 : dI cX7_mark 42 43 (.ireturn) 1 := ⟨by decide +kernel, rfl⟩
theorem dX7_mark_43 : dI cX7_mark 43 44 (.aload_n 0) 1 := ⟨by decide +kernel, rfl⟩
theorem dX7_mark_44 : dI cX7_mark 44 47 (.getfield 51) 3 := ⟨by decide +kernel, rfl⟩
theorem dX7_mark_47 : dI cX7_mark 47 48 (.iload_n 1) 1 := ⟨by decide +kernel, rfl⟩
theorem dX7_mark_48 : dI cX7_mark 48 49 (.iaload) 1 := ⟨by decide +kernel, rfl⟩
theorem dX7_mark_49 : decode cX7_mark 49 = .ok (.ifCond .ne 12, 3) := by decide +kernel
theorem dX7_mark_52 : dI cX7_mark 52 53 (.iload_n 3) 1 := ⟨by decide +kernel, rfl⟩
theorem dX7_mark_53 : dI cX7_mark 53 55 (.ldc 78) 2 := ⟨by decide +kernel, rfl⟩
theorem dX7_mark_55 : decode cX7_mark 55 = .ok (.if_icmp .ne 6, 3) := by decide +kernel
theorem dX7_mark_58 : dI cX7_mark 58 60 (.ldc 179) 2 := ⟨by decide +kernel, rfl⟩
theorem dX7_mark_60 : dI cX7_mark 60 61 (.ireturn) 1 := ⟨by decide +kernel, rfl⟩
theorem dX7_mark_61 : dI cX7_mark 61 62 (.aload_n 0) 1 := ⟨by decide +kernel, rfl⟩
theorem dX7_mark_62 : dI cX7_mark 62 65 (.getfield 51) 3 := ⟨by decide +kernel, rfl⟩
theorem dX7_mark_65 : dI cX7_mark 65 66 (.iload_n 1) 1 := ⟨by decide +kernel, rfl⟩
theorem dX7_mark_66 : dI cX7_mark 66 67 (.iaload) 1 := ⟨by decide +kernel, rfl⟩
theorem dX7_mark_67 : dI cX7_mark 67 68 (.iconst 1) 1 := ⟨by decide +kernel, rfl⟩
theorem dX7_mark_68 : decode cX7_mark 68 = .ok (.if_icmp .ne 25, 3) := by decide +kernel
theorem dX7_mark_71 : dI cX7_mark 71 72 (.iload_n 3) 1 := ⟨by decide +kernel, rfl⟩
theorem dX7_mark_72 : dI cX7_mark 72 74 (.ldc 78) 2 := ⟨by decide +kernel, rfl⟩
theorem dX7_mark_74 : decode cX7_mark 74 = .ok (.if_icmp .eq 19, 3) := by decide +kernel
theorem dX7_mark_77 : dI cX7_mark 77 78 (.iload_n 3) 1 := ⟨by decide +kernel, rfl⟩
theorem dX7_mark_78 : dI cX7_mark 78 81 (.ldc_w 284) 3 := ⟨by decide +kernel, rfl⟩
theorem dX7_mark_81 : dI cX7_mark 81 84 (.ldc_w 285) 3 := ⟨by decide +kernel, rfl⟩
theorem dX7_mark_84 : decode cX7_mark 84 = .ok (.invokestatic 79, 3) := by decide +kernel
theorem dX7_mark_87 : decode cX7_mark 87 = .ok (.ifCond .ne 6, 3) := by decide +kernel
theorem dX7_mark_90 : dI cX7_mark 90 92 (.ldc 87) 2 := ⟨by decide +kernel, rfl⟩
theorem dX7_mark_92 : dI cX7_mark 92 93 (.ireturn) 1 := ⟨by decide +kernel, rfl⟩
theorem dX7_mark_93 : dI cX7_mark 93 94 (.aload_n 0) 1 := ⟨by decide +kernel, rfl⟩
theorem dX7_mark_94 : dI cX7_mark 94 97 (.getfield 57) 3 := ⟨by decide +kernel, rfl⟩
theorem dX7_mark_97 : dI cX7_mark 97 99 (.bipush 24) 2 := ⟨by decide +kernel, rfl⟩
theorem dX7_mark_99 : dI cX7_mark 99 100 (.iload_n 1) 1 := ⟨by decide +kernel, rfl⟩
theorem dX7_mark_100 : dI cX7_mark 100 101 (.imul) 1 := ⟨by decide +kernel, rfl⟩
theorem dX7_mark_101 : dI cX7_mark 101 102 (.iload_n 2) 1 := ⟨by decide +kernel, rfl⟩
theorem dX7_mark_102 : dI cX7_mark 102 103 (.iadd) 1 := ⟨by decide +kernel, rfl⟩
theorem dX7_mark_103 : dI cX7_mark 103 104 (.aload_n 0) 1 := ⟨by decide +kernel, rfl⟩
theorem dX7_mark_104 : dI cX7_mark 104 107 (.getfield 51) 3 := ⟨by decide +kernel, rfl⟩
theorem dX7_mark_107 : dI cX7_mark 107 108 (.iload_n 1) 1 := ⟨by decide +kernel, rfl⟩
theorem dX7_mark_108 : dI cX7_mark 108 109 (.iaload) 1 := ⟨by decide +kernel, rfl⟩
theorem dX7_mark_109 : decode cX7_mark 109 = .ok (.ifCond .ne 8, 3) := by decide +kernel
theorem dX7_mark_112 : dI cX7_mark 112 113 (.iload_n 3) 1 := ⟨by decide +kernel, rfl⟩
theorem dX7_mark_113 : dI cX7_mark 113 114 (.i2s) 1 := ⟨by decide +kernel, rfl⟩
theorem dX7_mark_114 : decode cX7_mark 114 = .ok (.goto 4, 3) := by decide +kernel
theorem dX7_mark_117 : dI cX7_mark 117 118 (.iload_n 3) 1 := ⟨by decide +kernel, rfl⟩
theorem dX7_mark_118 : dI cX7_mark 118 119 (.iastore) 1 := ⟨by decide +kernel, rfl⟩
theorem dX7_mark_119 : dI cX7_mark 119 120 (.iconst 1) 1 := ⟨by decide +kernel, rfl⟩
theorem dX7_mark_120 : dI cX7_mark 120 121 (.ireturn) 1 := ⟨by decide +kernel, rfl⟩
def f_X7_mark_b118 (t0 : Nat) (t1 : Int32) (t2 : Int32) (s : hS) : Option (Int32 × hS) :=
  (sI s t0 10 t1 t2).bind fun s1 =>
  some ((1 : Int32), s1)
theorem b_X7_mark_118 (E : jE)  (s : hS)  (t0 : Nat) (t1 : Int32) (t2 : Int32) : Jo E M_X7_mark cvI 118 [] [.int t2, .int t1, .ref t0] s (f_X7_mark_b118  t0 t1 t2 s) := by
  unfold f_X7_mark_b118
  refine Jo_iastore dX7_mark_118 (fun s1 => ?_)
  refine Jo_iconst (v := (1 : Int32)) dX7_mark_119 (by decide) ?_
  exact Jo_iret rfl dX7_mark_120
def f_X7_mark_b93 (l0 : Nat) (l1 : Int32) (l2 : Int32) (l3 : Int32) (s : hS) : Option (Int32 × hS) :=
  (gR s l0 7 26).bind fun a1 =>
  (gR s l0 7 24).bind fun a2 =>
  (aI s a2 10 l1).bind fun x3 =>
  if x3 = 0 then
    f_X7_mark_b118 a1 (((24 : Int32) * l1) + l2) (l3).toInt16.toInt32 s
  else
    f_X7_mark_b118 a1 (((24 : Int32) * l1) + l2) l3 s
theorem b_X7_mark_93 (E : jE)  (s : hS) (l0 : Nat) (l1 : Int32) (l2 : Int32) (l3 : Int32)  : Jo E M_X7_mark cvI 93 [(0, .ref l0), (1, .int l1), (2, .int l2), (3, .int l3)] [] s (f_X7_mark_b93  l0 l1 l2 l3 s) := by
  unfold f_X7_mark_b93
  refine Jo_aloadn 0 dX7_mark_93 rfl rfl ?_
  refine Jo_getR fF_7_26 fR_7_26 dX7_mark_94 w_605 (fun a1 => ?_)
  refine Jo_bipush (v := (24 : Int32)) dX7_mark_97 (by decide) ?_
  refine Jo_iloadn 1 dX7_mark_99 rfl rfl ?_
  refine Jo_imul dX7_mark_100 ?_
  refine Jo_iloadn 2 dX7_mark_101 rfl rfl ?_
  refine Jo_iadd dX7_mark_102 ?_
  refine Jo_aloadn 0 dX7_mark_103 rfl rfl ?_
  refine Jo_getR fF_7_24 fR_7_24 dX7_mark_104 w_607 (fun a2 => ?_)
  refine Jo_iloadn 1 dX7_mark_107 rfl rfl ?_
  refine Jo_iaload dX7_mark_108 (fun x3 => ?_)
  refine Jo_if_ne 117 dX7_mark_109 (by decide) rfl ?_ ?_
  · refine Jo_iloadn 3 dX7_mark_112 rfl rfl ?_
    refine Jo_i2s dX7_mark_113 ?_
    refine Jo_goto 118 dX7_mark_114 (by decide) ?_
    refine Jo_sub [] rfl ?_
    exact b_X7_mark_118 E s a1 (((24 : Int32) * l1) + l2) (l3).toInt16.toInt32
  · refine Jo_iloadn 3 dX7_mark_117 rfl rfl ?_
    refine Jo_sub [] rfl ?_
    exact b_X7_mark_118 E s a1 (((24 : Int32) * l1) + l2) l3
def f_X7_mark_b61 (l0 : Nat) (l1 : Int32) (l2 : Int32) (l3 : Int32) (s : hS) : Option (Int32 × hS) :=
  (gR s l0 7 24).bind fun a1 =>
  (aI s a1 10 l1).bind fun x2 =>
  if x2 = (1 : Int32) then
    if l3 = (-1000000005 : Int32) then
      f_X7_mark_b93 l0 l1 l2 l3 s
    else
      (f_X7_in s l3 (-99999 : Int32) (99999 : Int32)).bind fun p3 =>
      if p3.1 = 0 then
        some ((-1000000001 : Int32), p3.2)
      else
        f_X7_mark_b93 l0 l1 l2 l3 p3.2
  else
    f_X7_mark_b93 l0 l1 l2 l3 s
theorem b_X7_mark_61 (E : jE)  (s : hS) (l0 : Nat) (l1 : Int32) (l2 : Int32) (l3 : Int32)  : Jo E M_X7_mark cvI 61 [(0, .ref l0), (1, .int l1), (2, .int l2), (3, .int l3)] [] s (f_X7_mark_b61  l0 l1 l2 l3 s) := by
  unfold f_X7_mark_b61
  refine Jo_aloadn 0 dX7_mark_61 rfl rfl ?_
  refine Jo_getR fF_7_24 fR_7_24 dX7_mark_62 w_607 (fun a1 => ?_)
  refine Jo_iloadn 1 dX7_mark_65 rfl rfl ?_
  refine Jo_iaload dX7_mark_66 (fun x2 => ?_)
  refine Jo_iconst (v := (1 : Int32)) dX7_mark_67 (by decide) ?_
  refine Jo_icmp_ne 93 dX7_mark_68 (by decide) rfl ?_ ?_
  · refine Jo_iloadn 3 dX7_mark_71 rfl rfl ?_
    refine Jo_ldc dX7_mark_72 w_632 ?_
    refine Jo_icmp_eq 93 dX7_mark_74 (by decide) rfl ?_ ?_
    · exact b_X7_mark_93 E s l0 l1 l2 l3
    · refine Jo_iloadn 3 dX7_mark_77 rfl rfl ?_
      refine Jo_ldcw dX7_mark_78 w_934 ?_
      refine Jo_ldcw dX7_mark_81 w_933 ?_
      refine Jo_callSi (rest := []) [.int l3, .int (-99999 : Int32), .int (99999 : Int32)] yF_X7_in yS_X7_in w_635 rfl rfl ⟨Nat.le_of_ble_eq_true rfl, Nat.le_of_ble_eq_true rfl, Nat.le_of_ble_eq_true rfl⟩ dX7_mark_84 rfl (K_X7_in E s l3 (-99999 : Int32) (99999 : Int32)) (fun p3 => ?_)
      refine Jo_if_ne 93 dX7_mark_87 (by decide) rfl ?_ ?_
      · refine Jo_ldc dX7_mark_90 w_673 ?_
        exact Jo_iret rfl dX7_mark_92
      · exact b_X7_mark_93 E p3.2 l0 l1 l2 l3
  · exact b_X7_mark_93 E s l0 l1 l2 l3
def f_X7_mark (s : hS) (a0 : Nat) (i1 : Int32) (i2 : Int32) (i3 : Int32) : Option (Int32 × hS) :=
  (f_X7_isSheet s i1).bind fun p1 =>
  if p1.1 = 0 then
    some ((-1000000001 : Int32), p1.2)
  else
    (gR p1.2 a0 7 24).bind fun a2 =>
    (aI p1.2 a2 10 i1).bind fun x3 =>
    if 0 ≤ x3 then
      (gR p1.2 a0 7 25).bind fun a4 =>
      (aI p1.2 a4 10 i1).bind fun x5 =>
      (f_X7_in p1.2 i2 (0 : Int32) (x5 - (1 : Int32))).bind fun p6 =>
      if p6.1 = 0 then
        some ((-1000000013 : Int32), p6.2)
      else
        (gR p6.2 a0 7 24).bind fun a7 =>
        (aI p6.2 a7 10 i1).bind fun x8 =>
        if x8 = 0 then
          if i3 = (-1000000005 : Int32) then
            some ((-1000000012 : Int32), p6.2)
          else
            f_X7_mark_b61 a0 i1 i2 i3 p6.2
        else
          f_X7_mark_b61 a0 i1 i2 i3 p6.2
    else
      some ((-1000000011 : Int32), p1.2)
theorem b_X7_mark_in (E : jE)  (s : hS) (a0 : Nat) (i1 : Int32) (i2 : Int32) (i3 : Int32)  : Jo E M_X7_mark cvI 0 [(0, .ref a0), (1, .int i1), (2, .int i2), (3, .int i3)] [] s (f_X7_mark s a0 i1 i2 i3) := by
  unfold f_X7_mark
  refine Jo_iloadn 1 dX7_mark_0 rfl rfl ?_
  refine Jo_callSi (rest := []) [.int i1] yF_X7_isSheet yS_X7_isSheet w_929 rfl rfl ⟨Nat.le_of_ble_eq_true rfl, Nat.le_of_ble_eq_true rfl, Nat.le_of_ble_eq_true rfl⟩ dX7_mark_1 rfl (K_X7_isSheet E s i1) (fun p1 => ?_)
  refine Jo_if_ne 10 dX7_mark_4 (by decide) rfl ?_ ?_
  · refine Jo_ldc dX7_mark_7 w_673 ?_
    exact Jo_iret rfl dX7_mark_9
  · refine Jo_aloadn 0 dX7_mark_10 rfl rfl ?_
    refine Jo_getR fF_7_24 fR_7_24 dX7_mark_11 w_607 (fun a2 => ?_)
    refine Jo_iloadn 1 dX7_mark_14 rfl rfl ?_
    refine Jo_iaload dX7_mark_15 (fun x3 => ?_)
    refine Jo_if_ge 23 dX7_mark_16 (by decide) rfl ?_ ?_
    · refine Jo_iloadn 2 dX7_mark_23 rfl rfl ?_
      refine Jo_iconst (v := (0 : Int32)) dX7_mark_24 (by decide) ?_
      refine Jo_aloadn 0 dX7_mark_25 rfl rfl ?_
      refine Jo_getR fF_7_25 fR_7_25 dX7_mark_26 w_606 (fun a4 => ?_)
      refine Jo_iloadn 1 dX7_mark_29 rfl rfl ?_
      refine Jo_iaload dX7_mark_30 (fun x5 => ?_)
      refine Jo_iconst (v := (1 : Int32)) dX7_mark_31 (by decide) ?_
      refine Jo_isub dX7_mark_32 ?_
      refine Jo_callSi (rest := []) [.int i2, .int (0 : Int32), .int (x5 - (1 : Int32))] yF_X7_in yS_X7_in w_635 rfl rfl ⟨Nat.le_of_ble_eq_true rfl, Nat.le_of_ble_eq_true rfl, Nat.le_of_ble_eq_true rfl⟩ dX7_mark_33 rfl (K_X7_in E p1.2 i2 (0 : Int32) (x5 - (1 : Int32))) (fun p6 => ?_)
      refine Jo_if_ne 43 dX7_mark_36 (by decide) rfl ?_ ?_
      · refine Jo_ldcw dX7_mark_39 w_935 ?_
        exact Jo_iret rfl dX7_mark_42
      · refine Jo_aloadn 0 dX7_mark_43 rfl rfl ?_
        refine Jo_getR fF_7_24 fR_7_24 dX7_mark_44 w_607 (fun a7 => ?_)
        refine Jo_iloadn 1 dX7_mark_47 rfl rfl ?_
        refine Jo_iaload dX7_mark_48 (fun x8 => ?_)
        refine Jo_if_ne 61 dX7_mark_49 (by decide) rfl ?_ ?_
        · refine Jo_iloadn 3 dX7_mark_52 rfl rfl ?_
          refine Jo_ldc dX7_mark_53 w_632 ?_
          refine Jo_icmp_ne 61 dX7_mark_55 (by decide) rfl ?_ ?_
          · refine Jo_ldc dX7_mark_58 w_785 ?_
            exact Jo_iret rfl dX7_mark_60
          · exact b_X7_mark_61 E p6.2 a0 i1 i2 i3
        · exact b_X7_mark_61 E p6.2 a0 i1 i2 i3
    · refine Jo_ldcw dX7_mark_19 w_936 ?_
      exact Jo_iret rfl dX7_mark_22
theorem K_X7_mark (E : jE) (s : hS) (a0 : Nat) (i1 : Int32) (i2 : Int32) (i3 : Int32) : jK E yX7_mark M_X7_mark cvI [.ref a0, .int i1, .int i2, .int i3] s (f_X7_mark s a0 i1 i2 i3) := jK_of ⟨by decide, rfl, rfl⟩ (Nat.le_of_ble_eq_true rfl) (b_X7_mark_in E s a0 i1 i2 i3)
/-! HeronTalkModel.pour(I)I -/
abbrev M_X7_pour : jM := (RX7, cX7_pour, 6, (some .int), "pour", 2, 42)
theorem yF_X7_pour : yF yX7_pour M_X7_pour 1 := ⟨w_940, w_624, by decide +kernel⟩
theorem yV_X7_pour : Cond.instanceMethod yX7_pour ∈ tbG ∧ Cond.selects yX7_pour.cls yX7_pour yX7_pour ∈ tbG := ⟨w_941, w_942⟩
theorem dX7_pour_0 : dI cX7_pour 0 1 (.iload_n 1) 1 := ⟨by decide +kernel, rfl⟩
theorem dX7_pour_1 : decode cX7_pour 1 = .ok (.invokestatic 278, 3) := by decide +kernel
theorem dX7_pour_4 : decode cX7_pour 4 = .ok (.ifCond .ne 6, 3) := by decide +kernel
theorem dX7_pour_7 : dI cX7_pour 7 9 (.ldc 87) 2 := ⟨by decide +kernel, rfl⟩
theorem dX7_pour_9 : dI cX7_pour 9 10 (.ireturn) 1 := ⟨by decide +kernel, rfl⟩
theorem dX7_pour_10 : dI cX7_pour 10 11 (.aload_n 0) 1 := ⟨by decide +kernel, rfl⟩
theorem dX7_pour_11 : dI cX7_pour 11 14 (.getfield 51) 3 := ⟨by decide +kernel, rfl⟩
theorem dX7_pour_14 : dI cX7_pour 14 15 (.iload_n 1) 1 := ⟨by decide +kernel, rfl⟩
theorem dX7_pour_15 : dI cX7_pour 15 16 (.iaload) 1 := ⟨by decide +kernel, rfl⟩
theorem dX7_pour_16 : decode cX7_pour 16 = .ok (.ifCond .ge 7, 3) := by decide +kernel
theorem dX7_pour_19 : dI cX7_pour 19 22 (.ldc_w 282) 3 := ⟨by decide +kernel, rfl⟩
theorem dX7_pour_22 : dI cX7_pour 22 23 (.ireturn) 1 := ⟨by decide +kernel, rfl⟩
theorem dX7_pour_23 : dI cX7_pour 23 24 (.iconst 0) 1 := ⟨by decide +kernel, rfl⟩
theorem dX7_pour_24 : dI cX7_pour 24 25 (.istore_n 2) 1 := ⟨by decide +kernel, rfl⟩
theorem dX7_pour_25 : dI cX7_pour 25 26 (.iconst 0) 1 := ⟨by decide +kernel, rfl⟩
theorem dX7_pour_26 : dI cX7_pour 26 27 (.istore_n 3) 1 := ⟨by decide +kernel, rfl⟩
theorem dX7_pour_27 : dI cX7_pour 27 28 (.iload_n 3) 1 := ⟨by decide +kernel, rfl⟩
theorem dX7_pour_28 : dI cX7_pour 28 29 (.aload_n 0) 1 := ⟨by decide +kernel, rfl⟩
theorem dX7_pour_29 : dI cX7_pour 29 32 (.getfield 54) 3 := ⟨by decide +kernel, rfl⟩
theorem dX7_pour_32 : dI cX7_pour 32 33 (.iload_n 1) 1 := ⟨by decide +kernel, rfl⟩
theorem dX7_pour_33 : dI cX7_pour 33 34 (.iaload) 1 := ⟨by decide +kernel, rfl⟩
theorem dX7_pour_34 : decode cX7_pour 34 = .ok (.if_icmp .ge 82, 3) := by decide +kernel
theorem dX7_pour_37 : dI cX7_pour 37 38 (.iload_n 3) 1 := ⟨by decide +kernel, rfl⟩
theorem dX7_pour_38 : dI cX7_pour 38 39 (.aload_n 0) 1 := ⟨by decide +kernel, rfl⟩
theorem dX7_pour_39 : dI cX7_pour 39 42 (.getfield 9) 3 := ⟨by decide +kernel, rfl⟩
theorem dX7_pour_42 : dI cX7_pour 42 43 (.iconst 1) 1 := ⟨by decide +kernel, rfl⟩
theorem dX7_pour_43 : dI cX7_pour 43 44 (.iaload) 1 := ⟨by decide +kernel, rfl⟩
theorem dX7_pour_44 : decode cX7_pour 44 = .ok (.if_icmp .ge 72, 3) := by decide +kernel
theorem dX7_pour_47 : dI cX7_pour 47 48 (.aload_n 0) 1 := ⟨by decide +kernel, rfl⟩
theorem dX7_pour_48 : dI cX7_pour 48 51 (.getfield 57) 3 := ⟨by decide +kernel, rfl⟩
theorem dX7_pour_51 : dI cX7_pour 51 53 (.bipush 24) 2 := ⟨by decide +kernel, rfl⟩
theorem dX7_pour_53 : dI cX7_pour 53 54 (.iload_n 1) 1 := ⟨by decide +kernel, rfl⟩
theorem dX7_pour_54 : dI cX7_pour 54 55 (.imul) 1 := ⟨by decide +kernel, rfl⟩
theorem dX7_pour_55 : dI cX7_pour 55 56 (.iload_n 3) 1 := ⟨by decide +kernel, rfl⟩
theorem dX7_pour_56 : dI cX7_pour 56 57 (.iadd) 1 := ⟨by decide +kernel, rfl⟩
theorem dX7_pour_57 : dI cX7_pour 57 58 (.iaload) 1 := ⟨by decide +kernel, rfl⟩
theorem dX7_pour_58 : dI cX7_pour 58 60 (.istore 4) 2 := ⟨by decide +kernel, rfl⟩
theorem dX7_pour_60 : dI cX7_pour 60 62 (.iload 4) 2 := ⟨by decide +kernel, rfl⟩
theorem dX7_pour_62 : dI cX7_pour 62 64 (.ldc 78) 2 := ⟨by decide +kernel, rfl⟩
theorem dX7_pour_64 : decode cX7_pour 64 = .ok (.if_icmp .ne 11, 3) := by decide +kernel
theorem dX7_pour_67 : dI cX7_pour 67 68 (.aload_n 0) 1 := ⟨by decide +kernel, rfl⟩
theorem dX7_pour_68 : dI cX7_pour 68 69 (.iload_n 3) 1 := ⟨by decide +kernel, rfl⟩
theorem dX7_pour_69 : decode cX7_pour 69 = .ok (.invokevirtual 107, 3) := by decide +kernel
theorem dX7_pour_72 : decode cX7_pour 72 = .ok (.goto 11, 3) := by decide +kernel
theorem dX7_pour_75 : dI cX7_pour 75 77 (.iload 4) 2 := ⟨by decide +kernel, rfl⟩
theorem dX7_pour_77 : dI cX7_pour 77 78 (.iconst 0) 1 := ⟨by decide +kernel, rfl⟩
theorem dX7_pour_78 : dI cX7_pour 78 80 (.bipush 99) 2 := ⟨by decide +kernel, rfl⟩
theorem dX7_pour_80 : decode cX7_pour 80 = .ok (.invokestatic 138, 3) := by decide +kernel
theorem dX7_pour_83 : dI cX7_pour 83 85 (.istore 5) 2 := ⟨by decide +kernel, rfl⟩
theorem dX7_pour_85 : dI cX7_pour 85 86 (.iload_n 2) 1 := ⟨by decide +kernel, rfl⟩
theorem dX7_pour_86 : dI cX7_pour 86 87 (.aload_n 0) 1 := ⟨by decide +kernel, rfl⟩
theorem dX7_pour_87 : dI cX7_pour 87 89 (.bipush 8) 2 := ⟨by decide +kernel, rfl⟩
theorem dX7_pour_89 : dI cX7_pour 89 90 (.iconst 2) 1 := ⟨by decide +kernel, rfl⟩
theorem dX7_pour_90 : dI cX7_pour 90 91 (.iload_n 3) 1 := ⟨by decide +kernel, rfl⟩
theorem dX7_pour_91 : dI cX7_pour 91 92 (.imul) 1 := ⟨by decide +kernel, rfl⟩
theorem dX7_pour_92 : dI cX7_pour 92 93 (.iadd) 1 := ⟨by decide +kernel, rfl⟩
theorem dX7_pour_93 : dI cX7_pour 93 95 (.iload 5) 2 := ⟨by decide +kernel, rfl⟩
theorem dX7_pour_95 : decode cX7_pour 95 = .ok (.invokevirtual 103, 3) := by decide +kernel
theorem dX7_pour_98 : dI cX7_pour 98 100 (.iload 5) 2 := ⟨by decide +kernel, rfl⟩
theorem dX7_pour_100 : decode cX7_pour 100 = .ok (.if_icmp .ne 7, 3) := by decide +kernel
theorem dX7_pour_103 : dI cX7_pour 103 104 (.iconst 0) 1 := ⟨by decide +kernel, rfl⟩
theorem dX7_pour_104 : decode cX7_pour 104 = .ok (.goto 4, 3) := by decide +kernel
theorem dX7_pour_107 : dI cX7_pour 107 108 (.iconst 1) 1 := ⟨by decide +kernel, rfl⟩
theorem dX7_pour_108 : dI cX7_pour 108 109 (.iadd) 1 := ⟨by decide +kernel, rfl⟩
theorem dX7_pour_109 : dI cX7_pour 109 110 (.istore_n 2) 1 := ⟨by decide +kernel, rfl⟩
theorem dX7_pour_110 : dI cX7_pour 110 113 (.iinc 3 1) 3 := ⟨by decide +kernel, rfl⟩
theorem dX7_pour_113 : decode cX7_pour 113 = .ok (.goto (-86), 3) := by decide +kernel
theorem dX7_pour_116 : dI cX7_pour 116 117 (.iload_n 2) 1 := ⟨by decide +kernel, rfl⟩
theorem dX7_pour_117 : dI cX7_pour 117 118 (.ireturn) 1 := ⟨by decide +kernel, rfl⟩
def f_X7_pour_b108 (k27 : Nat → Int32 → Int32 → Int32 → hS → Option (Int32 × hS)) (l0 : Nat) (l1 : Int32) (l3 : Int32) (t0 : Int32) (t1 : Int32) (s : hS) : Option (Int32 × hS) :=
  nmv ((t0 + t1)) fun x1 =>
  k27 l0 l1 x1 (l3 + (1 : Int32)) s
theorem b_X7_pour_108 (E : jE) (k27 : Nat → Int32 → Int32 → Int32 → hS → Option (Int32 × hS)) (h27 : ∀ (s : hS) (l0 : Nat) (l1 : Int32) (l2 : Int32) (l3 : Int32) , Jo E M_X7_pour cvI 27 [(0, .ref l0), (1, .int l1), (2, .int l2), (3, .int l3)] [] s (k27 l0 l1 l2 l3 s)) (s : hS) (l0 : Nat) (l1 : Int32) (l3 : Int32) (t0 : Int32) (t1 : Int32) : Jo E M_X7_pour cvI 108 [(0, .ref l0), (1, .int l1), (3, .int l3)] [.int t1, .int t0] s (f_X7_pour_b108 k27 l0 l1 l3 t0 t1 s) := by
  unfold f_X7_pour_b108
  refine Jo_iadd dX7_pour_108 ?_
  refine Jo_nm (fun x1 => ?_)
  refine Jo_istoren (ls' := [(2, .int x1), (0, .ref l0), (1, .int l1), (3, .int l3)]) dX7_pour_109 rfl (by decide) rfl ?_
  refine Jo_iinc (v := (l3 + (1 : Int32))) (ls' := [(3, .int (l3 + (1 : Int32))), (2, .int x1), (0, .ref l0), (1, .int l1)]) 3 dX7_pour_110 rfl rfl (by decide) rfl ?_
  refine Jo_goto 27 dX7_pour_113 (by decide) ?_
  refine Jo_sub [2, 3, 1, 0] rfl ?_
  exact h27 s l0 l1 x1 (l3 + (1 : Int32))
def f_X7_pour_b83 (k27 : Nat → Int32 → Int32 → Int32 → hS → Option (Int32 × hS)) (l0 : Nat) (l1 : Int32) (l2 : Int32) (l3 : Int32) (t0 : Int32) (s : hS) : Option (Int32 × hS) :=
  (cV s l0 7 (f_X7_becomes s l0 ((8 : Int32) + ((2 : Int32) * l3)) t0)).bind fun p1 =>
  if p1.1 = t0 then
    f_X7_pour_b108 k27 l0 l1 l3 l2 (0 : Int32) p1.2
  else
    f_X7_pour_b108 k27 l0 l1 l3 l2 (1 : Int32) p1.2
theorem b_X7_pour_83 (E : jE) (k27 : Nat → Int32 → Int32 → Int32 → hS → Option (Int32 × hS)) (h27 : ∀ (s : hS) (l0 : Nat) (l1 : Int32) (l2 : Int32) (l3 : Int32) , Jo E M_X7_pour cvI 27 [(0, .ref l0), (1, .int l1), (2, .int l2), (3, .int l3)] [] s (k27 l0 l1 l2 l3 s)) (s : hS) (l0 : Nat) (l1 : Int32) (l2 : Int32) (l3 : Int32) (t0 : Int32) : Jo E M_X7_pour cvI 83 [(0, .ref l0), (1, .int l1), (2, .int l2), (3, .int l3)] [.int t0] s (f_X7_pour_b83 k27 l0 l1 l2 l3 t0 s) := by
  unfold f_X7_pour_b83
  refine Jo_istore (ls' := [(5, .int t0), (0, .ref l0), (1, .int l1), (2, .int l2), (3, .int l3)]) dX7_pour_83 (by decide) rfl ?_
  refine Jo_iloadn 3 dX7_pour_85 rfl rfl ?_
  refine Jo_aloadn 1 dX7_pour_86 rfl rfl ?_
  refine Jo_bipush (v := (8 : Int32)) dX7_pour_87 (by decide) ?_
  refine Jo_iconst (v := (2 : Int32)) dX7_pour_89 (by decide) ?_
  refine Jo_iloadn 4 dX7_pour_90 rfl rfl ?_
  refine Jo_imul dX7_pour_91 ?_
  refine Jo_iadd dX7_pour_92 ?_
  refine Jo_iload 0 dX7_pour_93 rfl ?_
  refine Jo_callVi (a := l0) (rest := [.int l2]) [.int ((8 : Int32) + ((2 : Int32) * l3)), .int t0] cc_7 yF_X7_becomes yV_X7_becomes w_687 rfl rfl ⟨Nat.le_of_ble_eq_true rfl, Nat.le_of_ble_eq_true rfl, Nat.le_of_ble_eq_true rfl⟩ dX7_pour_95 rfl (K_X7_becomes E s l0 ((8 : Int32) + ((2 : Int32) * l3)) t0) (fun p1 => ?_)
  refine Jo_iload 0 dX7_pour_98 rfl ?_
  refine Jo_icmp_ne 107 dX7_pour_100 (by decide) rfl ?_ ?_
  · refine Jo_iconst (v := (0 : Int32)) dX7_pour_103 (by decide) ?_
    refine Jo_goto 108 dX7_pour_104 (by decide) ?_
    refine Jo_sub [1, 2, 4] rfl ?_
    exact b_X7_pour_108 E k27 h27 p1.2 l0 l1 l3 l2 (0 : Int32)
  · refine Jo_iconst (v := (1 : Int32)) dX7_pour_107 (by decide) ?_
    refine Jo_sub [1, 2, 4] rfl ?_
    exact b_X7_pour_108 E k27 h27 p1.2 l0 l1 l3 l2 (1 : Int32)
def f_X7_pour_b27 (k27 : Nat → Int32 → Int32 → Int32 → hS → Option (Int32 × hS)) (l0 : Nat) (l1 : Int32) (l2 : Int32) (l3 : Int32) (s : hS) : Option (Int32 × hS) :=
  (gR s l0 7 25).bind fun a1 =>
  (aI s a1 10 l1).bind fun x2 =>
  if x2 ≤ l3 then
    some (l2, s)
  else
    (gR s l0 7 0).bind fun a3 =>
    (aI s a3 10 (1 : Int32)).bind fun x4 =>
    if x4 ≤ l3 then
      some (l2, s)
    else
      (gR s l0 7 26).bind fun a5 =>
      (aI s a5 10 (((24 : Int32) * l1) + l3)).bind fun x6 =>
      if x6 = (-1000000005 : Int32) then
        (cV s l0 7 (f_X7_worthOf s l0 l3)).bind fun p8 =>
        f_X7_pour_b83 k27 l0 l1 l2 l3 p8.1 p8.2
      else
        (f_X7_within s x6 (0 : Int32) (99 : Int32)).bind fun p7 =>
        f_X7_pour_b83 k27 l0 l1 l2 l3 p7.1 p7.2
theorem b_X7_pour_27 (E : jE) (k27 : Nat → Int32 → Int32 → Int32 → hS → Option (Int32 × hS)) (h27 : ∀ (s : hS) (l0 : Nat) (l1 : Int32) (l2 : Int32) (l3 : Int32) , Jo E M_X7_pour cvI 27 [(0, .ref l0), (1, .int l1), (2, .int l2), (3, .int l3)] [] s (k27 l0 l1 l2 l3 s)) (s : hS) (l0 : Nat) (l1 : Int32) (l2 : Int32) (l3 : Int32)  : Jo E M_X7_pour cvI 27 [(0, .ref l0), (1, .int l1), (2, .int l2), (3, .int l3)] [] s (f_X7_pour_b27 k27 l0 l1 l2 l3 s) := by
  unfold f_X7_pour_b27
  refine Jo_iloadn 3 dX7_pour_27 rfl rfl ?_
  refine Jo_aloadn 0 dX7_pour_28 rfl rfl ?_
  refine Jo_getR fF_7_25 fR_7_25 dX7_pour_29 w_606 (fun a1 => ?_)
  refine Jo_iloadn 1 dX7_pour_32 rfl rfl ?_
  refine Jo_iaload dX7_pour_33 (fun x2 => ?_)
  refine Jo_icmp_ge 116 dX7_pour_34 (by decide) rfl ?_ ?_
  · refine Jo_iloadn 2 dX7_pour_116 rfl rfl ?_
    exact Jo_iret rfl dX7_pour_117
  · refine Jo_iloadn 3 dX7_pour_37 rfl rfl ?_
    refine Jo_aloadn 0 dX7_pour_38 rfl rfl ?_
    refine Jo_getR fF_7_0 fR_7_0 dX7_pour_39 w_598 (fun a3 => ?_)
    refine Jo_iconst (v := (1 : Int32)) dX7_pour_42 (by decide) ?_
    refine Jo_iaload dX7_pour_43 (fun x4 => ?_)
    refine Jo_icmp_ge 116 dX7_pour_44 (by decide) rfl ?_ ?_
    · refine Jo_iloadn 2 dX7_pour_116 rfl rfl ?_
      exact Jo_iret rfl dX7_pour_117
    · refine Jo_aloadn 0 dX7_pour_47 rfl rfl ?_
      refine Jo_getR fF_7_26 fR_7_26 dX7_pour_48 w_605 (fun a5 => ?_)
      refine Jo_bipush (v := (24 : Int32)) dX7_pour_51 (by decide) ?_
      refine Jo_iloadn 1 dX7_pour_53 rfl rfl ?_
      refine Jo_imul dX7_pour_54 ?_
      refine Jo_iloadn 3 dX7_pour_55 rfl rfl ?_
      refine Jo_iadd dX7_pour_56 ?_
      refine Jo_iaload dX7_pour_57 (fun x6 => ?_)
      refine Jo_istore (ls' := [(4, .int x6), (0, .ref l0), (1, .int l1), (2, .int l2), (3, .int l3)]) dX7_pour_58 (by decide) rfl ?_
      refine Jo_iload 0 dX7_pour_60 rfl ?_
      refine Jo_ldc dX7_pour_62 w_632 ?_
      refine Jo_icmp_ne 75 dX7_pour_64 (by decide) rfl ?_ ?_
      · refine Jo_aloadn 1 dX7_pour_67 rfl rfl ?_
        refine Jo_iloadn 4 dX7_pour_68 rfl rfl ?_
        refine Jo_callVi (a := l0) (rest := []) [.int l3] cc_7 yF_X7_worthOf yV_X7_worthOf w_697 rfl rfl ⟨Nat.le_of_ble_eq_true rfl, Nat.le_of_ble_eq_true rfl, Nat.le_of_ble_eq_true rfl⟩ dX7_pour_69 rfl (K_X7_worthOf E s l0 l3) (fun p8 => ?_)
        refine Jo_goto 83 dX7_pour_72 (by decide) ?_
        refine Jo_sub [1, 2, 3, 4] rfl ?_
        exact b_X7_pour_83 E k27 h27 p8.2 l0 l1 l2 l3 p8.1
      · refine Jo_iload 0 dX7_pour_75 rfl ?_
        refine Jo_iconst (v := (0 : Int32)) dX7_pour_77 (by decide) ?_
        refine Jo_bipush (v := (99 : Int32)) dX7_pour_78 (by decide) ?_
        refine Jo_callSi (rest := []) [.int x6, .int (0 : Int32), .int (99 : Int32)] yF_X7_within yS_X7_within w_725 rfl rfl ⟨Nat.le_of_ble_eq_true rfl, Nat.le_of_ble_eq_true rfl, Nat.le_of_ble_eq_true rfl⟩ dX7_pour_80 rfl (K_X7_within E s x6 (0 : Int32) (99 : Int32)) (fun p7 => ?_)
        refine Jo_sub [1, 2, 3, 4] rfl ?_
        exact b_X7_pour_83 E k27 h27 p7.2 l0 l1 l2 l3 p7.1
theorem e_X7_pour_27 (E : jE)  (n : Nat) : ∀ (s : hS) (l0 : Nat) (l1 : Int32) (l2 : Int32) (l3 : Int32) , Jo E M_X7_pour cvI 27 [(0, .ref l0), (1, .int l1), (2, .int l2), (3, .int l3)] [] s ((jL f_X7_pour_b27 (fun _ _ _ _ _ => none) n) l0 l1 l2 l3 s) :=
  jL_ind (P := fun f => ∀ (s : hS) (l0 : Nat) (l1 : Int32) (l2 : Int32) (l3 : Int32) , Jo E M_X7_pour cvI 27 [(0, .ref l0), (1, .int l1), (2, .int l2), (3, .int l3)] [] s (f l0 l1 l2 l3 s)) (fun _ _ _ _ _ => Jo_none) (fun b hb s l0 l1 l2 l3 => b_X7_pour_27 E  b hb s l0 l1 l2 l3) n
def f_X7_pour (s : hS) (a0 : Nat) (i1 : Int32) : Option (Int32 × hS) :=
  (f_X7_isSheet s i1).bind fun p1 =>
  if p1.1 = 0 then
    some ((-1000000001 : Int32), p1.2)
  else
    (gR p1.2 a0 7 24).bind fun a2 =>
    (aI p1.2 a2 10 i1).bind fun x3 =>
    if 0 ≤ x3 then
      jL f_X7_pour_b27 (fun _ _ _ _ _ => none) jF a0 i1 (0 : Int32) (0 : Int32) p1.2
    else
      some ((-1000000011 : Int32), p1.2)
theorem b_X7_pour_in (E : jE)  (s : hS) (a0 : Nat) (i1 : Int32)  : Jo E M_X7_pour cvI 0 [(0, .ref a0), (1, .int i1)] [] s (f_X7_pour s a0 i1) := by
  unfold f_X7_pour
  refine Jo_iloadn 1 dX7_pour_0 rfl rfl ?_
  refine Jo_callSi (rest := []) [.int i1] yF_X7_isSheet yS_X7_isSheet w_929 rfl rfl ⟨Nat.le_of_ble_eq_true rfl, Nat.le_of_ble_eq_true rfl, Nat.le_of_ble_eq_true rfl⟩ dX7_pour_1 rfl (K_X7_isSheet E s i1) (fun p1 => ?_)
  refine Jo_if_ne 10 dX7_pour_4 (by decide) rfl ?_ ?_
  · refine Jo_ldc dX7_pour_7 w_673 ?_
    exact Jo_iret rfl dX7_pour_9
  · refine Jo_aloadn 0 dX7_pour_10 rfl rfl ?_
    refine Jo_getR fF_7_24 fR_7_24 dX7_pour_11 w_607 (fun a2 => ?_)
    refine Jo_iloadn 1 dX7_pour_14 rfl rfl ?_
    refine Jo_iaload dX7_pour_15 (fun x3 => ?_)
    refine Jo_if_ge 23 dX7_pour_16 (by decide) rfl ?_ ?_
    · refine Jo_iconst (v := (0 : Int32)) dX7_pour_23 (by decide) ?_
      refine Jo_istoren (ls' := [(2, .int (0 : Int32)), (0, .ref a0), (1, .int i1)]) dX7_pour_24 rfl (by decide) rfl ?_
      refine Jo_iconst (v := (0 : Int32)) dX7_pour_25 (by decide) ?_
      refine Jo_istoren (ls' := [(3, .int (0 : Int32)), (2, .int (0 : Int32)), (0, .ref a0), (1, .int i1)]) dX7_pour_26 rfl (by decide) rfl ?_
      refine Jo_sub [2, 3, 1, 0] rfl ?_
      exact e_X7_pour_27 E jF p1.2 a0 i1 (0 : Int32) (0 : Int32)
    · refine Jo_ldcw dX7_pour_19 w_936 ?_
      exact Jo_iret rfl dX7_pour_22
theorem K_X7_pour (E : jE) (s : hS) (a0 : Nat) (i1 : Int32) : jK E yX7_pour M_X7_pour cvI [.ref a0, .int i1] s (f_X7_pour s a0 i1) := jK_of ⟨by decide, rfl, rfl⟩ (Nat.le_of_ble_eq_true rfl) (b_X7_pour_in E s a0 i1)
