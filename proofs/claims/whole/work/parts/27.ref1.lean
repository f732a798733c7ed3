/-! HeronTalkModel.isFresh(I)Z -/
abbrev M_X7_isFresh : jM := (RX7, cX7_isFresh, 2, (some .boolean), "isFresh", 0, 0)
theorem yF_X7_isFresh : yF yX7_isFresh M_X7_isFresh 1 := ⟨w_656, w_624, by decide +kernel⟩
theorem yV_X7_isFresh : Cond.instanceMethod yX7_isFresh ∈ tbG ∧ Cond.selects yX7_isFresh.cls yX7_isFresh yX7_isFresh ∈ tbG := ⟨w_657, w_658⟩
theorem dX7_isFresh_0 : dI cX7_isFresh 0 1 (.aload_n 0) 1 := ⟨by decide +kernel, rfl⟩
theorem dX7_isFresh_1 : dI cX7_isFresh 1 4 (.getfield 9) 3 := ⟨by decide +kernel, rfl⟩
theorem dX7_isFresh_4 : dI cX7_isFresh 4 6 (.bipush 8) 2 := ⟨by decide +kernel, rfl⟩
theorem dX7_isFresh_6 : dI cX7_isFresh 6 7 (.iconst 2) 1 := ⟨by decide +kernel, rfl⟩
theorem dX7_isFresh_7 : dI cX7_isFresh 7 8 (.iload_n 1) 1 := ⟨by decide +kernel, rfl⟩
theorem dX7_isFresh_8 : dI cX7_isFresh 8 9 (.imul) 1 := ⟨by decide +kernel, rfl⟩
theorem dX7_isFresh_9 : dI cX7_isFresh 9 10 (.iadd) 1 := ⟨by decide +kernel, rfl⟩
theorem dX7_isFresh_10 : dI cX7_isFresh 10 11 (.iconst 1) 1 := ⟨by decide +kernel, rfl⟩
theorem dX7_isFresh_11 : dI cX7_isFresh 11 12 (.iadd) 1 := ⟨by decide +kernel, rfl⟩
theorem dX7_isFresh_12 : dI cX7_isFresh 12 13 (.iaload) 1 := ⟨by decide +kernel, rfl⟩
theorem dX7_isFresh_13 : dI cX7_isFresh 13 14 (.aload_n 0) 1 := ⟨by decide +kernel, rfl⟩
theorem dX7_isFresh_14 : dI cX7_isFresh 14 17 (.getfield 9) 3 := ⟨by decide +kernel, rfl⟩
theorem dX7_isFresh_17 : dI cX7_isFresh 17 18 (.iconst 5) 1 := ⟨by decide +kernel, rfl⟩
theorem dX7_isFresh_18 : dI cX7_isFresh 18 19 (.iaload) 1 := ⟨by decide +kernel, rfl⟩
theorem dX7_isFresh_19 : decode cX7_isFresh 19 = .ok (.if_icmp .lt 7, 3) := by decide +kernel
theorem dX7_isFresh_22 : dI cX7_isFresh 22 23 (.iconst 1) 1 := ⟨by decide +kernel, rfl⟩
theorem dX7_isFresh_23 : decode cX7_isFresh 23 = .ok (.goto 4, 3) := by decide +kernel
theorem dX7_isFresh_26 : dI cX7_isFresh 26 27 (.iconst 0) 1 := ⟨by decide +kernel, rfl⟩
theorem dX7_isFresh_27 : dI cX7_isFresh 27 28 (.ireturn) 1 := ⟨by decide +kernel, rfl⟩
def f_X7_isFresh (s : hS) (a0 : Nat) (i1 : Int32) : Option (Int32 × hS) :=
  (gR s a0 7 0).bind fun a1 =>
  (aI s a1 10 (((8 : Int32) + ((2 : Int32) * i1)) + (1 : Int32))).bind fun x2 =>
  (gR s a0 7 0).bind fun a3 =>
  (aI s a3 10 (5 : Int32)).bind fun x4 =>
  if x2 < x4 then
    some ((0 : Int32), s)
  else
    some ((1 : Int32), s)
theorem b_X7_isFresh_in (E : jE)  (s : hS) (a0 : Nat) (i1 : Int32)  : Jo E M_X7_isFresh cvI 0 [(0, .ref a0), (1, .int i1)] [] s (f_X7_isFresh s a0 i1) := by
  unfold f_X7_isFresh
  refine Jo_aloadn 0 dX7_isFresh_0 rfl rfl ?_
  refine Jo_getR fF_7_0 fR_7_0 dX7_isFresh_1 w_598 (fun a1 => ?_)
  refine Jo_bipush (v := (8 : Int32)) dX7_isFresh_4 (by decide) ?_
  refine Jo_iconst (v := (2 : Int32)) dX7_isFresh_6 (by decide) ?_
  refine Jo_iloadn 1 dX7_isFresh_7 rfl rfl ?_
  refine Jo_imul dX7_isFresh_8 ?_
  refine Jo_iadd dX7_isFresh_9 ?_
  refine Jo_iconst (v := (1 : Int32)) dX7_isFresh_10 (by decide) ?_
  refine Jo_iadd dX7_isFresh_11 ?_
  refine Jo_iaload dX7_isFresh_12 (fun x2 => ?_)
  refine Jo_aloadn 0 dX7_isFresh_13 rfl rfl ?_
  refine Jo_getR fF_7_0 fR_7_0 dX7_isFresh_14 w_598 (fun a3 => ?_)
  refine Jo_iconst (v := (5 : Int32)) dX7_isFresh_17 (by decide) ?_
  refine Jo_iaload dX7_isFresh_18 (fun x4 => ?_)
  refine Jo_icmp_lt 26 dX7_isFresh_19 (by decide) rfl ?_ ?_
  · refine Jo_iconst (v := (0 : Int32)) dX7_isFresh_26 (by decide) ?_
    exact Jo_zret0 rfl dX7_isFresh_27
  · refine Jo_iconst (v := (1 : Int32)) dX7_isFresh_22 (by decide) ?_
    refine Jo_goto 27 dX7_isFresh_23 (by decide) ?_
    exact Jo_zret1 rfl dX7_isFresh_27
theorem K_X7_isFresh (E : jE) (s : hS) (a0 : Nat) (i1 : Int32) : jK E yX7_isFresh M_X7_isFresh cvI [.ref a0, .int i1] s (f_X7_isFresh s a0 i1) := jK_of ⟨by decide, rfl, rfl⟩ (Nat.le_of_ble_eq_true rfl) (b_X7_isFresh_in E s a0 i1)
/-! HeronTalkModel.knownTo(I)I -/
abbrev M_X7_knownTo : jM := (RX7, cX7_knownTo, 2, (some .int), "knownTo", 0, 0)
theorem yF_X7_knownTo : yF yX7_knownTo M_X7_knownTo 1 := ⟨w_659, w_624, by decide +kernel⟩
theorem yV_X7_knownTo : Cond.instanceMethod yX7_knownTo ∈ tbG ∧ Cond.selects yX7_knownTo.cls yX7_knownTo yX7_knownTo ∈ tbG := ⟨w_660, w_661⟩
theorem dX7_knownTo_0 : dI cX7_knownTo 0 1 (.aload_n 0) 1 := ⟨by decide +kernel, rfl⟩
theorem dX7_knownTo_1 : dI cX7_knownTo 1 4 (.getfield 9) 3 := ⟨by decide +kernel, rfl⟩
theorem dX7_knownTo_4 : dI cX7_knownTo 4 6 (.bipush 40) 2 := ⟨by decide +kernel, rfl⟩
theorem dX7_knownTo_6 : dI cX7_knownTo 6 7 (.iconst 2) 1 := ⟨by decide +kernel, rfl⟩
theorem dX7_knownTo_7 : dI cX7_knownTo 7 8 (.iload_n 1) 1 := ⟨by decide +kernel, rfl⟩
theorem dX7_knownTo_8 : dI cX7_knownTo 8 9 (.imul) 1 := ⟨by decide +kernel, rfl⟩
theorem dX7_knownTo_9 : dI cX7_knownTo 9 10 (.iadd) 1 := ⟨by decide +kernel, rfl⟩
theorem dX7_knownTo_10 : dI cX7_knownTo 10 11 (.iaload) 1 := ⟨by decide +kernel, rfl⟩
theorem dX7_knownTo_11 : dI cX7_knownTo 11 12 (.ireturn) 1 := ⟨by decide +kernel, rfl⟩
def f_X7_knownTo (s : hS) (a0 : Nat) (i1 : Int32) : Option (Int32 × hS) :=
  (gR s a0 7 0).bind fun a1 =>
  (aI s a1 10 ((40 : Int32) + ((2 : Int32) * i1))).bind fun x2 =>
  some (x2, s)
theorem b_X7_knownTo_in (E : jE)  (s : hS) (a0 : Nat) (i1 : Int32)  : Jo E M_X7_knownTo cvI 0 [(0, .ref a0), (1, .int i1)] [] s (f_X7_knownTo s a0 i1) := by
  unfold f_X7_knownTo
  refine Jo_aloadn 0 dX7_knownTo_0 rfl rfl ?_
  refine Jo_getR fF_7_0 fR_7_0 dX7_knownTo_1 w_598 (fun a1 => ?_)
  refine Jo_bipush (v := (40 : Int32)) dX7_knownTo_4 (by decide) ?_
  refine Jo_iconst (v := (2 : Int32)) dX7_knownTo_6 (by decide) ?_
  refine Jo_iloadn 1 dX7_knownTo_7 rfl rfl ?_
  refine Jo_imul dX7_knownTo_8 ?_
  refine Jo_iadd dX7_knownTo_9 ?_
  refine Jo_iaload dX7_knownTo_10 (fun x2 => ?_)
  exact Jo_iret rfl dX7_knownTo_11
theorem K_X7_knownTo (E : jE) (s : hS) (a0 : Nat) (i1 : Int32) : jK E yX7_knownTo M_X7_knownTo cvI [.ref a0, .int i1] s (f_X7_knownTo s a0 i1) := jK_of ⟨by decide, rfl, rfl⟩ (Nat.le_of_ble_eq_true rfl) (b_X7_knownTo_in E s a0 i1)
/-! HeronTalkModel.neededBy(I)I -/
abbrev M_X7_neededBy : jM := (RX7, cX7_neededBy, 2, (some .int), "neededBy", 0, 0)
theorem yF_X7_neededBy : yF yX7_neededBy M_X7_neededBy 1 := ⟨w_662, w_624, by decide +kernel⟩
theorem yV_X7_neededBy : Cond.instanceMethod yX7_neededBy ∈ tbG ∧ Cond.selects yX7_neededBy.cls yX7_neededBy yX7_neededBy ∈ tbG := ⟨w_663, w_664⟩
theorem dX7_neededBy_0 : dI cX7_neededBy 0 1 (.aload_n 0) 1 := ⟨by decide +kernel, rfl⟩
theorem dX7_neededBy_1 : dI cX7_neededBy 1 4 (.getfield 9) 3 := ⟨by decide +kernel, rfl⟩
theorem dX7_neededBy_4 : dI cX7_neededBy 4 6 (.bipush 40) 2 := ⟨by decide +kernel, rfl⟩
theorem dX7_neededBy_6 : dI cX7_neededBy 6 7 (.iconst 2) 1 := ⟨by decide +kernel, rfl⟩
theorem dX7_neededBy_7 : dI cX7_neededBy 7 8 (.iload_n 1) 1 := ⟨by decide +kernel, rfl⟩
theorem dX7_neededBy_8 : dI cX7_neededBy 8 9 (.imul) 1 := ⟨by decide +kernel, rfl⟩
theorem dX7_neededBy_9 : dI cX7_neededBy 9 10 (.iadd) 1 := ⟨by decide +kernel, rfl⟩
theorem dX7_neededBy_10 : dI cX7_neededBy 10 11 (.iconst 1) 1 := ⟨by decide +kernel, rfl⟩
theorem dX7_neededBy_11 : dI cX7_neededBy 11 12 (.iadd) 1 := ⟨by decide +kernel, rfl⟩
theorem dX7_neededBy_12 : dI cX7_neededBy 12 13 (.iaload) 1 := ⟨by decide +kernel, rfl⟩
theorem dX7_neededBy_13 : dI cX7_neededBy 13 14 (.ireturn) 1 := ⟨by decide +kernel, rfl⟩
def f_X7_neededBy (s : hS) (a0 : Nat) (i1 : Int32) : Option (Int32 × hS) :=
  (gR s a0 7 0).bind fun a1 =>
  (aI s a1 10 (((40 : Int32) + ((2 : Int32) * i1)) + (1 : Int32))).bind fun x2 =>
  some (x2, s)
theorem b_X7_neededBy_in (E : jE)  (s : hS) (a0 : Nat) (i1 : Int32)  : Jo E M_X7_neededBy cvI 0 [(0, .ref a0), (1, .int i1)] [] s (f_X7_neededBy s a0 i1) := by
  unfold f_X7_neededBy
  refine Jo_aloadn 0 dX7_neededBy_0 rfl rfl ?_
  refine Jo_getR fF_7_0 fR_7_0 dX7_neededBy_1 w_598 (fun a1 => ?_)
  refine Jo_bipush (v := (40 : Int32)) dX7_neededBy_4 (by decide) ?_
  refine Jo_iconst (v := (2 : Int32)) dX7_neededBy_6 (by decide) ?_
  refine Jo_iloadn 1 dX7_neededBy_7 rfl rfl ?_
  refine Jo_imul dX7_neededBy_8 ?_
  refine Jo_iadd dX7_neededBy_9 ?_
  refine Jo_iconst (v := (1 : Int32)) dX7_neededBy_10 (by decide) ?_
  refine Jo_iadd dX7_neededBy_11 ?_
  refine Jo_iaload dX7_neededBy_12 (fun x2 => ?_)
  exact Jo_iret rfl dX7_neededBy_13
theorem K_X7_neededBy (E : jE) (s : hS) (a0 : Nat) (i1 : Int32) : jK E yX7_neededBy M_X7_neededBy cvI [.ref a0, .int i1] s (f_X7_neededBy s a0 i1) := jK_of ⟨by decide, rfl, rfl⟩ (Nat.le_of_ble_eq_true rfl) (b_X7_neededBy_in E s a0 i1)
/-! HeronTalkModel.doesKnow(II)Z -/
abbrev M_X7_doesKnow : jM := (RX7, cX7_doesKnow, 3, (some .boolean), "doesKnow", 1, 21)
theorem yF_X7_doesKnow : yF yX7_doesKnow M_X7_doesKnow 2 := ⟨w_666, w_624, by decide +kernel⟩
theorem yV_X7_doesKnow : Cond.instanceMethod yX7_doesKnow ∈ tbG ∧ Cond.selects yX7_doesKnow.cls yX7_doesKnow yX7_doesKnow ∈ tbG := ⟨w_667, w_668⟩
theorem dX7_doesKnow_0 : dI cX7_doesKnow 0 1 (.aload_n 0) 1 := ⟨by decide +kernel, rfl⟩
theorem dX7_doesKnow_1 : dI cX7_doesKnow 1 2 (.iload_n 1) 1 := ⟨by decide +kernel, rfl⟩
theorem dX7_doesKnow_2 : decode cX7_doesKnow 2 = .ok (.invokevirtual 83, 3) := by decide +kernel
theorem dX7_doesKnow_5 : dI cX7_doesKnow 5 6 (.iload_n 2) 1 := ⟨by decide +kernel, rfl⟩
theorem dX7_doesKnow_6 : dI cX7_doesKnow 6 7 (.ishr) 1 := ⟨by decide +kernel, rfl⟩
theorem dX7_doesKnow_7 : dI cX7_doesKnow 7 8 (.iconst 1) 1 := ⟨by decide +kernel, rfl⟩
theorem dX7_doesKnow_8 : dI cX7_doesKnow 8 9 (.iand) 1 := ⟨by decide +kernel, rfl⟩
theorem dX7_doesKnow_9 : dI cX7_doesKnow 9 10 (.iconst 1) 1 := ⟨by decide +kernel, rfl⟩
theorem dX7_doesKnow_10 : decode cX7_doesKnow 10 = .ok (.if_icmp .ne 7, 3) := by decide +kernel
theorem dX7_doesKnow_13 : dI cX7_doesKnow 13 14 (.iconst 1) 1 := ⟨by decide +kernel, rfl⟩
theorem dX7_doesKnow_14 : decode cX7_doesKnow 14 = .ok (.goto 4, 3) := by decide +kernel
theorem dX7_doesKnow_17 : dI cX7_doesKnow 17 18 (.iconst 0) 1 := ⟨by decide +kernel, rfl⟩
theorem dX7_doesKnow_18 : dI cX7_doesKnow 18 19 (.ireturn) 1 := ⟨by decide +kernel, rfl⟩
def f_X7_doesKnow (s : hS) (a0 : Nat) (i1 : Int32) (i2 : Int32) : Option (Int32 × hS) :=
  (cV s a0 7 (f_X7_knownTo s a0 i1)).bind fun p1 =>
  if ((p1.1 >>> (i2 &&& 31)) &&& (1 : Int32)) = (1 : Int32) then
    some ((1 : Int32), p1.2)
  else
    some ((0 : Int32), p1.2)
theorem b_X7_doesKnow_in (E : jE)  (s : hS) (a0 : Nat) (i1 : Int32) (i2 : Int32)  : Jo E M_X7_doesKnow cvI 0 [(0, .ref a0), (1, .int i1), (2, .int i2)] [] s (f_X7_doesKnow s a0 i1 i2) := by
  unfold f_X7_doesKnow
  refine Jo_aloadn 0 dX7_doesKnow_0 rfl rfl ?_
  refine Jo_iloadn 1 dX7_doesKnow_1 rfl rfl ?_
  refine Jo_callVi (a := a0) (rest := []) [.int i1] cc_7 yF_X7_knownTo yV_X7_knownTo w_665 rfl rfl ⟨Nat.le_of_ble_eq_true rfl, Nat.le_of_ble_eq_true rfl, Nat.le_of_ble_eq_true rfl⟩ dX7_doesKnow_2 rfl (K_X7_knownTo E s a0 i1) (fun p1 => ?_)
  refine Jo_iloadn 2 dX7_doesKnow_5 rfl rfl ?_
  refine Jo_ishr dX7_doesKnow_6 ?_
  refine Jo_iconst (v := (1 : Int32)) dX7_doesKnow_7 (by decide) ?_
  refine Jo_iand dX7_doesKnow_8 ?_
  refine Jo_iconst (v := (1 : Int32)) dX7_doesKnow_9 (by decide) ?_
  refine Jo_icmp_ne 17 dX7_doesKnow_10 (by decide) rfl ?_ ?_
  · refine Jo_iconst (v := (1 : Int32)) dX7_doesKnow_13 (by decide) ?_
    refine Jo_goto 18 dX7_doesKnow_14 (by decide) ?_
    exact Jo_zret1 rfl dX7_doesKnow_18
  · refine Jo_iconst (v := (0 : Int32)) dX7_doesKnow_17 (by decide) ?_
    exact Jo_zret0 rfl dX7_doesKnow_18
theorem K_X7_doesKnow (E : jE) (s : hS) (a0 : Nat) (i1 : Int32) (i2 : Int32) : jK E yX7_doesKnow M_X7_doesKnow cvI [.ref a0, .int i1, .int i2] s (f_X7_doesKnow s a0 i1 i2) := jK_of ⟨by decide, rfl, rfl⟩ (Nat.le_of_ble_eq_true rfl) (b_X7_doesKnow_in E s a0 i1 i2)
/-! HeronTalkModel.learns(II)V -/
abbrev M_X7_learns : jM := (RX7, cX7_learns, 8, (none : Option Jvm.ClassFile.FieldType), "learns", 1, 21)
theorem yF_X7_learns : yF yX7_learns M_X7_learns 2 := ⟨w_669, w_624, by decide +kernel⟩
theorem yV_X7_learns : Cond.instanceMethod yX7_learns ∈ tbG ∧ Cond.selects yX7_learns.cls yX7_learns yX7_learns ∈ tbG := ⟨w_670, w_671⟩
theorem dX7_learns_0 : dI cX7_learns 0 1 (.aload_n 0) 1 := ⟨by decide +kernel, rfl⟩
theorem dX7_learns_1 : dI cX7_learns 1 2 (.iload_n 1) 1 := ⟨by decide +kernel, rfl⟩
theorem dX7_learns_2 : decode cX7_learns 2 = .ok (.invokevirtual 83, 3) := by decide +kernel
theorem dX7_learns_5 : dI cX7_learns 5 6 (.iload_n 2) 1 := ⟨by decide +kernel, rfl⟩
theorem dX7_learns_6 : dI cX7_learns 6 7 (.ior) 1 := ⟨by decide +kernel, rfl⟩
theorem dX7_learns_7 : dI cX7_learns 7 8 (.istore_n 3) 1 := ⟨by decide +kernel, rfl⟩
theorem dX7_learns_8 : dI cX7_learns 8 9 (.iconst 1) 1 := ⟨by decide +kernel, rfl⟩
theorem dX7_learns_9 : dI cX7_learns 9 11 (.istore 4) 2 := ⟨by decide +kernel, rfl⟩
theorem dX7_learns_11 : dI cX7_learns 11 13 (.iload 4) 2 := ⟨by decide +kernel, rfl⟩
theorem dX7_learns_13 : decode cX7_learns 13 = .ok (.ifCond .eq 87, 3) := by decide +kernel
theorem dX7_learns_16 : dI cX7_learns 16 17 (.iload_n 3) 1 := ⟨by decide +kernel, rfl⟩
theorem dX7_learns_17 : dI cX7_learns 17 19 (.istore 5) 2 := ⟨by decide +kernel, rfl⟩
theorem dX7_learns_19 : dI cX7_learns 19 20 (.iconst 0) 1 := ⟨by decide +kernel, rfl⟩
theorem dX7_learns_20 : dI cX7_learns 20 22 (.istore 6) 2 := ⟨by decide +kernel, rfl⟩
theorem dX7_learns_22 : dI cX7_learns 22 24 (.iload 6) 2 := ⟨by decide +kernel, rfl⟩
theorem dX7_learns_24 : dI cX7_learns 24 25 (.aload_n 0) 1 := ⟨by decide +kernel, rfl⟩
theorem dX7_learns_25 : dI cX7_learns 25 28 (.getfield 9) 3 := ⟨by decide +kernel, rfl⟩
theorem dX7_learns_28 : dI cX7_learns 28 29 (.iconst 4) 1 := ⟨by decide +kernel, rfl⟩
theorem dX7_learns_29 : dI cX7_learns 29 30 (.iaload) 1 := ⟨by decide +kernel, rfl⟩
theorem dX7_learns_30 : decode cX7_learns 30 = .ok (.if_icmp .ge 54, 3) := by decide +kernel
theorem dX7_learns_33 : dI cX7_learns 33 35 (.bipush 56) 2 := ⟨by decide +kernel, rfl⟩
theorem dX7_learns_35 : dI cX7_learns 35 36 (.iconst 3) 1 := ⟨by decide +kernel, rfl⟩
theorem dX7_learns_36 : dI cX7_learns 36 38 (.iload 6) 2 := ⟨by decide +kernel, rfl⟩
theorem dX7_learns_38 : dI cX7_learns 38 39 (.imul) 1 := ⟨by decide +kernel, rfl⟩
theorem dX7_learns_39 : dI cX7_learns 39 40 (.iadd) 1 := ⟨by decide +kernel, rfl⟩
theorem dX7_learns_40 : dI cX7_learns 40 42 (.istore 7) 2 := ⟨by decide +kernel, rfl⟩
theorem dX7_learns_42 : dI cX7_learns 42 43 (.iload_n 3) 1 := ⟨by decide +kernel, rfl⟩
theorem dX7_learns_43 : dI cX7_learns 43 44 (.iload_n 3) 1 := ⟨by decide +kernel, rfl⟩
theorem dX7_learns_44 : dI cX7_learns 44 45 (.aload_n 0) 1 := ⟨by decide +kernel, rfl⟩
theorem dX7_learns_45 : dI cX7_learns 45 48 (.getfield 9) 3 := ⟨by decide +kernel, rfl⟩
theorem dX7_learns_48 : dI cX7_learns 48 50 (.iload 7) 2 := ⟨by decide +kernel, rfl⟩
theorem dX7_learns_50 : dI cX7_learns 50 51 (.iaload) 1 := ⟨by decide +kernel, rfl⟩
theorem dX7_learns_51 : dI cX7_learns 51 52 (.ishr) 1 := ⟨by decide +kernel, rfl⟩
theorem dX7_learns_52 : dI cX7_learns 52 53 (.iload_n 3) 1 := ⟨by decide +kernel, rfl⟩
theorem dX7_learns_53 : dI cX7_learns 53 54 (.aload_n 0) 1 := ⟨by decide +kernel, rfl⟩
theorem dX7_learns_54 : dI cX7_learns 54 57 (.getfield 9) 3 := ⟨by decide +kernel, rfl⟩
theorem dX7_learns_57 : dI cX7_learns 57 59 (.iload 7) 2 := ⟨by decide +kernel, rfl⟩
theorem dX7_learns_59 : dI cX7_learns 59 60 (.iconst 1) 1 := ⟨by decide +kernel, rfl⟩
theorem dX7_learns_60 : dI cX7_learns 60 61 (.iadd) 1 := ⟨by decide +kernel, rfl⟩
theorem dX7_learns_61 : dI cX7_learns 61 62 (.iaload) 1 := ⟨by decide +kernel, rfl⟩
theorem dX7_learns_62 : dI cX7_learns 62 63 (.ishr) 1 := ⟨by decide +kernel, rfl⟩
theorem dX7_learns_63 : dI cX7_learns 63 64 (.iand) 1 := ⟨by decide +kernel, rfl⟩
theorem dX7_learns_64 : dI cX7_learns 64 65 (.iconst 1) 1 := ⟨by decide +kernel, rfl⟩
theorem dX7_learns_65 : dI cX7_learns 65 66 (.iand) 1 := ⟨by decide +kernel, rfl⟩
theorem dX7_learns_66 : dI cX7_learns 66 67 (.aload_n 0) 1 := ⟨by decide +kernel, rfl⟩
theorem dX7_learns_67 : dI cX7_learns 67 70 (.getfield 9) 3 := ⟨by decide +kernel, rfl⟩
theorem dX7_learns_70 : dI cX7_learns 70 72 (.iload 7) 2 := ⟨by decide +kernel, rfl⟩
theorem dX7_learns_72 : dI cX7_learns 72 73 (.iconst 2) 1 := ⟨by decide +kernel, rfl⟩
theorem dX7_learns_73 : dI cX7_learns 73 74 (.iadd) 1 := ⟨by decide +kernel, rfl⟩
theorem dX7_learns_74 : dI cX7_learns 74 75 (.iaload) 1 := ⟨by decide +kernel, rfl⟩
theorem dX7_learns_75 : dI cX7_learns 75 76 (.ishl) 1 := ⟨by decide +kernel, rfl⟩
theorem dX7_learns_76 : dI cX7_learns 76 77 (.ior) 1 := ⟨by decide +kernel, rfl⟩
theorem dX7_learns_77 : dI cX7_learns 77 78 (.istore_n 3) 1 := ⟨by decide +kernel, rfl⟩
theorem dX7_learns_78 : dI cX7_learns 78 81 (.iinc 6 1) 3 := ⟨by decide +kernel, rfl⟩
theorem dX7_learns_81 : decode cX7_learns 81 = .ok (.goto (-59), 3) := by decide +kernel
theorem dX7_learns_84 : dI cX7_learns 84 85 (.iload_n 3) 1 := ⟨by decide +kernel, rfl⟩
theorem dX7_learns_85 : dI cX7_learns 85 87 (.iload 5) 2 := ⟨by decide +kernel, rfl⟩
theorem dX7_learns_87 : decode cX7_learns 87 = .ok (.if_icmp .eq 7, 3) := by decide +kernel
theorem dX7_learns_90 : dI cX7_learns 90 91 (.iconst 1) 1 := ⟨by decide +kernel, rfl⟩
theorem dX7_learns_91 : decode cX7_learns 91 = .ok (.goto 4, 3) := by decide +kernel
theorem dX7_learns_94 : dI cX7_learns 94 95 (.iconst 0) 1 := ⟨by decide +kernel, rfl⟩
theorem dX7_learns_95 : dI cX7_learns 95 97 (.istore 4) 2 := ⟨by decide +kernel, rfl⟩
theorem dX7_learns_97 : decode cX7_learns 97 = .ok (.goto (-86), 3) := by decide +kernel
theorem dX7_learns_100 : dI cX7_learns 100 101 (.aload_n 0) 1 := ⟨by decide +kernel, rfl⟩
theorem dX7_learns_101 : dI cX7_learns 101 104 (.getfield 9) 3 := ⟨by decide +kernel, rfl⟩
theorem dX7_learns_104 : dI cX7_learns 104 106 (.bipush 40) 2 := ⟨by decide +kernel, rfl⟩
theorem dX7_learns_106 : dI cX7_learns 106 107 (.iconst 2) 1 := ⟨by decide +kernel, rfl⟩
theorem dX7_learns_107 : dI cX7_learns 107 108 (.iload_n 1) 1 := ⟨by decide +kernel, rfl⟩
theorem dX7_learns_108 : dI cX7_learns 108 109 (.imul) 1 := ⟨by decide +kernel, rfl⟩
theorem dX7_learns_109 : dI cX7_learns 109 110 (.iadd) 1 := ⟨by decide +kernel, rfl⟩
theorem dX7_learns_110 : dI cX7_learns 110 111 (.iload_n 3) 1 := ⟨by decide +kernel, rfl⟩
theorem dX7_learns_111 : dI cX7_learns 111 112 (.iastore) 1 := ⟨by decide +kernel, rfl⟩
theorem dX7_learns_112 : dI cX7_learns 112 113 (.return_) 1 := ⟨by decide +kernel, rfl⟩
def f_X7_learns_b95 (k11 : Nat → Int32 → Int32 → Int32 → hS → Option (Unit × hS)) (l0 : Nat) (l1 : Int32) (l3 : Int32) (t0 : Int32) (s : hS) : Option (Unit × hS) :=
  k11 l0 l1 l3 t0 s
theorem b_X7_learns_95 (E : jE) (k11 : Nat → Int32 → Int32 → Int32 → hS → Option (Unit × hS)) (h11 : ∀ (s : hS) (l0 : Nat) (l1 : Int32) (l3 : Int32) (l4 : Int32) , Jo E M_X7_learns cvV 11 [(0, .ref l0), (1, .int l1), (3, .int l3), (4, .int l4)] [] s (k11 l0 l1 l3 l4 s)) (s : hS) (l0 : Nat) (l1 : Int32) (l3 : Int32) (t0 : Int32) : Jo E M_X7_learns cvV 95 [(0, .ref l0), (1, .int l1), (3, .int l3)] [.int t0] s (f_X7_learns_b95 k11 l0 l1 l3 t0 s) := by
  unfold f_X7_learns_b95
  refine Jo_istore (ls' := [(4, .int t0), (0, .ref l0), (1, .int l1), (3, .int l3)]) dX7_learns_95 (by decide) rfl ?_
  refine Jo_goto 11 dX7_learns_97 (by decide) ?_
  refine Jo_sub [1, 2, 3, 0] rfl ?_
  exact h11 s l0 l1 l3 t0
def f_X7_learns_b22 (k11 : Nat → Int32 → Int32 → Int32 → hS → Option (Unit × hS)) (k22 : Nat → Int32 → Int32 → Int32 → Int32 → hS → Option (Unit × hS)) (l0 : Nat) (l1 : Int32) (l3 : Int32) (l5 : Int32) (l6 : Int32) (s : hS) : Option (Unit × hS) :=
  (gR s l0 7 0).bind fun a1 =>
  (aI s a1 10 (4 : Int32)).bind fun x2 =>
  if x2 ≤ l6 then
    if l3 = l5 then
      f_X7_learns_b95 k11 l0 l1 l3 (0 : Int32) s
    else
      f_X7_learns_b95 k11 l0 l1 l3 (1 : Int32) s
  else
    nmv (((56 : Int32) + ((3 : Int32) * l6))) fun x3 =>
    (gR s l0 7 0).bind fun a4 =>
    (aI s a4 10 x3).bind fun x5 =>
    (gR s l0 7 0).bind fun a6 =>
    (aI s a6 10 (x3 + (1 : Int32))).bind fun x7 =>
    (gR s l0 7 0).bind fun a8 =>
    (aI s a8 10 (x3 + (2 : Int32))).bind fun x9 =>
    nmv ((l3 ||| ((((l3 >>> (x5 &&& 31)) &&& (l3 >>> (x7 &&& 31))) &&& (1 : Int32)) <<< (x9 &&& 31)))) fun x10 =>
    k22 l0 l1 x10 l5 (l6 + (1 : Int32)) s
theorem b_X7_learns_22 (E : jE) (k11 : Nat → Int32 → Int32 → Int32 → hS → Option (Unit × hS)) (h11 : ∀ (s : hS) (l0 : Nat) (l1 : Int32) (l3 : Int32) (l4 : Int32) , Jo E M_X7_learns cvV 11 [(0, .ref l0), (1, .int l1), (3, .int l3), (4, .int l4)] [] s (k11 l0 l1 l3 l4 s)) (k22 : Nat → Int32 → Int32 → Int32 → Int32 → hS → Option (Unit × hS)) (h22 : ∀ (s : hS) (l0 : Nat) (l1 : Int32) (l3 : Int32) (l5 : Int32) (l6 : Int32) , Jo E M_X7_learns cvV 22 [(0, .ref l0), (1, .int l1), (3, .int l3), (5, .int l5), (6, .int l6)] [] s (k22 l0 l1 l3 l5 l6 s)) (s : hS) (l0 : Nat) (l1 : Int32) (l3 : Int32) (l5 : Int32) (l6 : Int32)  : Jo E M_X7_learns cvV 22 [(0, .ref l0), (1, .int l1), (3, .int l3), (5, .int l5), (6, .int l6)] [] s (f_X7_learns_b22 k11 k22 l0 l1 l3 l5 l6 s) := by
  unfold f_X7_learns_b22
  refine Jo_iload 4 dX7_learns_22 rfl ?_
  refine Jo_aloadn 0 dX7_learns_24 rfl rfl ?_
  refine Jo_getR fF_7_0 fR_7_0 dX7_learns_25 w_598 (fun a1 => ?_)
  refine Jo_iconst (v := (4 : Int32)) dX7_learns_28 (by decide) ?_
  refine Jo_iaload dX7_learns_29 (fun x2 => ?_)
  refine Jo_icmp_ge 84 dX7_learns_30 (by decide) rfl ?_ ?_
  · refine Jo_iloadn 2 dX7_learns_84 rfl rfl ?_
    refine Jo_iload 3 dX7_learns_85 rfl ?_
    refine Jo_icmp_eq 94 dX7_learns_87 (by decide) rfl ?_ ?_
    · refine Jo_iconst (v := (0 : Int32)) dX7_learns_94 (by decide) ?_
      refine Jo_sub [0, 1, 2] rfl ?_
      exact b_X7_learns_95 E k11 h11 s l0 l1 l3 (0 : Int32)
    · refine Jo_iconst (v := (1 : Int32)) dX7_learns_90 (by decide) ?_
      refine Jo_goto 95 dX7_learns_91 (by decide) ?_
      refine Jo_sub [0, 1, 2] rfl ?_
      exact b_X7_learns_95 E k11 h11 s l0 l1 l3 (1 : Int32)
  · refine Jo_bipush (v := (56 : Int32)) dX7_learns_33 (by decide) ?_
    refine Jo_iconst (v := (3 : Int32)) dX7_learns_35 (by decide) ?_
    refine Jo_iload 4 dX7_learns_36 rfl ?_
    refine Jo_imul dX7_learns_38 ?_
    refine Jo_iadd dX7_learns_39 ?_
    refine Jo_nm (fun x3 => ?_)
    refine Jo_istore (ls' := [(7, .int x3), (0, .ref l0), (1, .int l1), (3, .int l3), (5, .int l5), (6, .int l6)]) dX7_learns_40 (by decide) rfl ?_
    refine Jo_iloadn 3 dX7_learns_42 rfl rfl ?_
    refine Jo_iloadn 3 dX7_learns_43 rfl rfl ?_
    refine Jo_aloadn 1 dX7_learns_44 rfl rfl ?_
    refine Jo_getR fF_7_0 fR_7_0 dX7_learns_45 w_598 (fun a4 => ?_)
    refine Jo_iload 0 dX7_learns_48 rfl ?_
    refine Jo_iaload dX7_learns_50 (fun x5 => ?_)
    refine Jo_ishr dX7_learns_51 ?_
    refine Jo_iloadn 3 dX7_learns_52 rfl rfl ?_
    refine Jo_aloadn 1 dX7_learns_53 rfl rfl ?_
    refine Jo_getR fF_7_0 fR_7_0 dX7_learns_54 w_598 (fun a6 => ?_)
    refine Jo_iload 0 dX7_learns_57 rfl ?_
    refine Jo_iconst (v := (1 : Int32)) dX7_learns_59 (by decide) ?_
    refine Jo_iadd dX7_learns_60 ?_
    refine Jo_iaload dX7_learns_61 (fun x7 => ?_)
    refine Jo_ishr dX7_learns_62 ?_
    refine Jo_iand dX7_learns_63 ?_
    refine Jo_iconst (v := (1 : Int32)) dX7_learns_64 (by decide) ?_
    refine Jo_iand dX7_learns_65 ?_
    refine Jo_aloadn 1 dX7_learns_66 rfl rfl ?_
    refine Jo_getR fF_7_0 fR_7_0 dX7_learns_67 w_598 (fun a8 => ?_)
    refine Jo_iload 0 dX7_learns_70 rfl ?_
    refine Jo_iconst (v := (2 : Int32)) dX7_learns_72 (by decide) ?_
    refine Jo_iadd dX7_learns_73 ?_
    refine Jo_iaload dX7_learns_74 (fun x9 => ?_)
    refine Jo_ishl dX7_learns_75 ?_
    refine Jo_ior dX7_learns_76 ?_
    refine Jo_nm (fun x10 => ?_)
    refine Jo_istoren (ls' := [(3, .int x10), (7, .int x3), (0, .ref l0), (1, .int l1), (5, .int l5), (6, .int l6)]) dX7_learns_77 rfl (by decide) rfl ?_
    refine Jo_iinc (v := (l6 + (1 : Int32))) (ls' := [(6, .int (l6 + (1 : Int32))), (3, .int x10), (7, .int x3), (0, .ref l0), (1, .int l1), (5, .int l5)]) 5 dX7_learns_78 rfl rfl (by decide) rfl ?_
    refine Jo_goto 22 dX7_learns_81 (by decide) ?_
    refine Jo_sub [3, 4, 1, 5, 0] rfl ?_
    exact h22 s l0 l1 x10 l5 (l6 + (1 : Int32))
theorem e_X7_learns_22 (E : jE) (k11 : Nat → Int32 → Int32 → Int32 → hS → Option (Unit × hS)) (h11 : ∀ (s : hS) (l0 : Nat) (l1 : Int32) (l3 : Int32) (l4 : Int32) , Jo E M_X7_learns cvV 11 [(0, .ref l0), (1, .int l1), (3, .int l3), (4, .int l4)] [] s (k11 l0 l1 l3 l4 s)) (n : Nat) : ∀ (s : hS) (l0 : Nat) (l1 : Int32) (l3 : Int32) (l5 : Int32) (l6 : Int32) , Jo E M_X7_learns cvV 22 [(0, .ref l0), (1, .int l1), (3, .int l3), (5, .int l5), (6, .int l6)] [] s ((jL (f_X7_learns_b22 k11) (fun _ _ _ _ _ _ => none) n) l0 l1 l3 l5 l6 s) :=
  jL_ind (P := fun f => ∀ (s : hS) (l0 : Nat) (l1 : Int32) (l3 : Int32) (l5 : Int32) (l6 : Int32) , Jo E M_X7_learns cvV 22 [(0, .ref l0), (1, .int l1), (3, .int l3), (5, .int l5), (6, .int l6)] [] s (f l0 l1 l3 l5 l6 s)) (fun _ _ _ _ _ _ => Jo_none) (fun b hb s l0 l1 l3 l5 l6 => b_X7_learns_22 E k11 h11 b hb s l0 l1 l3 l5 l6) n
def f_X7_learns_b11 (k11 : Nat → Int32 → Int32 → Int32 → hS → Option (Unit × hS)) (l0 : Nat) (l1 : Int32) (l3 : Int32) (l4 : Int32) (s : hS) : Option (Unit × hS) :=
  if l4 = 0 then
    (gR s l0 7 0).bind fun a1 =>
    (sI s a1 10 ((40 : Int32) + ((2 : Int32) * l1)) l3).bind fun s2 =>
    some ((), s2)
  else
    jL (f_X7_learns_b22 k11) (fun _ _ _ _ _ _ => none) jF l0 l1 l3 l3 (0 : Int32) s
theorem b_X7_learns_11 (E : jE) (k11 : Nat → Int32 → Int32 → Int32 → hS → Option (Unit × hS)) (h11 : ∀ (s : hS) (l0 : Nat) (l1 : Int32) (l3 : Int32) (l4 : Int32) , Jo E M_X7_learns cvV 11 [(0, .ref l0), (1, .int l1), (3, .int l3), (4, .int l4)] [] s (k11 l0 l1 l3 l4 s)) (s : hS) (l0 : Nat) (l1 : Int32) (l3 : Int32) (l4 : Int32)  : Jo E M_X7_learns cvV 11 [(0, .ref l0), (1, .int l1), (3, .int l3), (4, .int l4)] [] s (f_X7_learns_b11 k11 l0 l1 l3 l4 s) := by
  unfold f_X7_learns_b11
  refine Jo_iload 3 dX7_learns_11 rfl ?_
  refine Jo_if_eq 100 dX7_learns_13 (by decide) rfl ?_ ?_
  · refine Jo_aloadn 0 dX7_learns_100 rfl rfl ?_
    refine Jo_getR fF_7_0 fR_7_0 dX7_learns_101 w_598 (fun a1 => ?_)
    refine Jo_bipush (v := (40 : Int32)) dX7_learns_104 (by decide) ?_
    refine Jo_iconst (v := (2 : Int32)) dX7_learns_106 (by decide) ?_
    refine Jo_iloadn 1 dX7_learns_107 rfl rfl ?_
    refine Jo_imul dX7_learns_108 ?_
    refine Jo_iadd dX7_learns_109 ?_
    refine Jo_iloadn 2 dX7_learns_110 rfl rfl ?_
    refine Jo_iastore dX7_learns_111 (fun s2 => ?_)
    exact Jo_vret rfl dX7_learns_112
  · refine Jo_iloadn 2 dX7_learns_16 rfl rfl ?_
    refine Jo_istore (ls' := [(5, .int l3), (0, .ref l0), (1, .int l1), (3, .int l3), (4, .int l4)]) dX7_learns_17 (by decide) rfl ?_
    refine Jo_iconst (v := (0 : Int32)) dX7_learns_19 (by decide) ?_
    refine Jo_istore (ls' := [(6, .int (0 : Int32)), (5, .int l3), (0, .ref l0), (1, .int l1), (3, .int l3), (4, .int l4)]) dX7_learns_20 (by decide) rfl ?_
    refine Jo_sub [2, 3, 4, 1, 0] rfl ?_
    exact e_X7_learns_22 E k11 h11 jF s l0 l1 l3 l3 (0 : Int32)
theorem e_X7_learns_11 (E : jE)  (n : Nat) : ∀ (s : hS) (l0 : Nat) (l1 : Int32) (l3 : Int32) (l4 : Int32) , Jo E M_X7_learns cvV 11 [(0, .ref l0), (1, .int l1), (3, .int l3), (4, .int l4)] [] s ((jL f_X7_learns_b11 (fun _ _ _ _ _ => none) n) l0 l1 l3 l4 s) :=
  jL_ind (P := fun f => ∀ (s : hS) (l0 : Nat) (l1 : Int32) (l3 : Int32) (l4 : Int32) , Jo E M_X7_learns cvV 11 [(0, .ref l0), (1, .int l1), (3, .int l3), (4, .int l4)] [] s (f l0 l1 l3 l4 s)) (fun _ _ _ _ _ => Jo_none) (fun b hb s l0 l1 l3 l4 => b_X7_learns_11 E  b hb s l0 l1 l3 l4) n
def f_X7_learns (s : hS) (a0 : Nat) (i1 : Int32) (i2 : Int32) : Option (Unit × hS) :=
  (cV s a0 7 (f_X7_knownTo s a0 i1)).bind fun p1 =>
  nmv ((p1.1 ||| i2)) fun x2 =>
  jL f_X7_learns_b11 (fun _ _ _ _ _ => none) jF a0 i1 x2 (1 : Int32) p1.2
theorem b_X7_learns_in (E : jE)  (s : hS) (a0 : Nat) (i1 : Int32) (i2 : Int32)  : Jo E M_X7_learns cvV 0 [(0, .ref a0), (1, .int i1), (2, .int i2)] [] s (f_X7_learns s a0 i1 i2) := by
  unfold f_X7_learns
  refine Jo_aloadn 0 dX7_learns_0 rfl rfl ?_
  refine Jo_iloadn 1 dX7_learns_1 rfl rfl ?_
  refine Jo_callVi (a := a0) (rest := []) [.int i1] cc_7 yF_X7_knownTo yV_X7_knownTo w_665 rfl rfl ⟨Nat.le_of_ble_eq_true rfl, Nat.le_of_ble_eq_true rfl, Nat.le_of_ble_eq_true rfl⟩ dX7_learns_2 rfl (K_X7_knownTo E s a0 i1) (fun p1 => ?_)
  refine Jo_iloadn 2 dX7_learns_5 rfl rfl ?_
  refine Jo_ior dX7_learns_6 ?_
  refine Jo_nm (fun x2 => ?_)
  refine Jo_istoren (ls' := [(3, .int x2), (0, .ref a0), (1, .int i1), (2, .int i2)]) dX7_learns_7 rfl (by decide) rfl ?_
  refine Jo_iconst (v := (1 : Int32)) dX7_learns_8 (by decide) ?_
  refine Jo_istore (ls' := [(4, .int (1 : Int32)), (3, .int x2), (0, .ref a0), (1, .int i1), (2, .int i2)]) dX7_learns_9 (by decide) rfl ?_
  refine Jo_sub [2, 3, 1, 0] rfl ?_
  exact e_X7_learns_11 E jF p1.2 a0 i1 x2 (1 : Int32)
theorem K_X7_learns (E : jE) (s : hS) (a0 : Nat) (i1 : Int32) (i2 : Int32) : jK E yX7_learns M_X7_learns cvV [.ref a0, .int i1, .int i2] s (f_X7_learns s a0 i1 i2) := jK_of ⟨by decide, rfl, rfl⟩ (Nat.le_of_ble_eq_true rfl) (b_X7_learns_in E s a0 i1 i2)
/-! HeronTalkModel.fact(I)I -/
abbrev M_X7_fact : jM := (RX7, cX7_fact, 2, (some .int), "fact", 1, 22)
theorem yF_X7_fact : yF yX7_fact M_X7_fact 1 := ⟨w_674, w_624, by decide +kernel⟩
theorem yV_X7_fact : Cond.instanceMethod yX7_fact ∈ tbG ∧ Cond.selects yX7_fact.cls yX7_fact yX7_fact ∈ tbG := ⟨w_675, w_676⟩
theorem dX7_fact_0 : dI cX7_fact 0 1 (.iload_n 1) 1 := ⟨by decide +kernel, rfl⟩
theorem dX7_fact_1 : dI cX7_fact 1 2 (.iconst 0) 1 := ⟨by decide +kernel, rfl⟩
theorem dX7_fact_2 : dI cX7_fact 2 4 (.bipush 99) 2 := ⟨by decide +kernel, rfl⟩
theorem dX7_fact_4 : decode cX7_fact 4 = .ok (.invokestatic 79, 3) := by decide +kernel
theorem dX7_fact_7 : decode cX7_fact 7 = .ok (.ifCond .ne 6, 3) := by decide +kernel
theorem dX7_fact_10 : dI cX7_fact 10 12 (.ldc 87) 2 := ⟨by decide +kernel, rfl⟩
theorem dX7_fact_12 : dI cX7_fact 12 13 (.ireturn) 1 := ⟨by decide +kernel, rfl⟩
theorem dX7_fact_13 : dI cX7_fact 13 14 (.aload_n 0) 1 := ⟨by decide +kernel, rfl⟩
theorem dX7_fact_14 : dI cX7_fact 14 17 (.getfield 9) 3 := ⟨by decide +kernel, rfl⟩
theorem dX7_fact_17 : dI cX7_fact 17 18 (.iconst 1) 1 := ⟨by decide +kernel, rfl⟩
theorem dX7_fact_18 : dI cX7_fact 18 19 (.iaload) 1 := ⟨by decide +kernel, rfl⟩
theorem dX7_fact_19 : dI cX7_fact 19 21 (.bipush 16) 2 := ⟨by decide +kernel, rfl⟩
theorem dX7_fact_21 : decode cX7_fact 21 = .ok (.if_icmp .ne 6, 3) := by decide +kernel
theorem dX7_fact_24 : dI cX7_fact 24 26 (.ldc 88) 2 := ⟨by decide +kernel, rfl⟩
theorem dX7_fact_26 : dI cX7_fact 26 27 (.ireturn) 1 := ⟨by decide +kernel, rfl⟩
theorem dX7_fact_27 : dI cX7_fact 27 28 (.aload_n 0) 1 := ⟨by decide +kernel, rfl⟩
theorem dX7_fact_28 : dI cX7_fact 28 31 (.getfield 9) 3 := ⟨by decide +kernel, rfl⟩
theorem dX7_fact_31 : dI cX7_fact 31 33 (.bipush 8) 2 := ⟨by decide +kernel, rfl⟩
theorem dX7_fact_33 : dI cX7_fact 33 34 (.iconst 2) 1 := ⟨by decide +kernel, rfl⟩
theorem dX7_fact_34 : dI cX7_fact 34 35 (.aload_n 0) 1 := ⟨by decide +kernel, rfl⟩
theorem dX7_fact_35 : dI cX7_fact 35 38 (.getfield 9) 3 := ⟨by decide +kernel, rfl⟩
theorem dX7_fact_38 : dI cX7_fact 38 39 (.iconst 1) 1 := ⟨by decide +kernel, rfl⟩
theorem dX7_fact_39 : dI cX7_fact 39 40 (.iaload) 1 := ⟨by decide +kernel, rfl⟩
theorem dX7_fact_40 : dI cX7_fact 40 41 (.imul) 1 := ⟨by decide +kernel, rfl⟩
theorem dX7_fact_41 : dI cX7_fact 41 42 (.iadd) 1 := ⟨by decide +kernel, rfl⟩
theorem dX7_fact_42 : dI cX7_fact 42 43 (.iload_n 1) 1 := ⟨by decide +kernel, rfl⟩
theorem dX7_fact_43 : dI cX7_fact 43 44 (.iastore) 1 := ⟨by decide +kernel, rfl⟩
theorem dX7_fact_44 : dI cX7_fact 44 45 (.aload_n 0) 1 := ⟨by decide +kernel, rfl⟩
theorem dX7_fact_45 : dI cX7_fact 45 48 (.getfield 9) 3 := ⟨by decide +kernel, rfl⟩
theorem dX7_fact_48 : dI cX7_fact 48 50 (.bipush 8) 2 := ⟨by decide +kernel, rfl⟩
theorem dX7_fact_50 : dI cX7_fact 50 51 (.iconst 2) 1 := ⟨by decide +kernel, rfl⟩
theorem dX7_fact_51 : dI cX7_fact 51 52 (.aload_n 0) 1 := ⟨by decide +kernel, rfl⟩
theorem dX7_fact_52 : dI cX7_fact 52 55 (.getfield 9) 3 := ⟨by decide +kernel, rfl⟩
theorem dX7_fact_55 : dI cX7_fact 55 56 (.iconst 1) 1 := ⟨by decide +kernel, rfl⟩
theorem dX7_fact_56 : dI cX7_fact 56 57 (.iaload) 1 := ⟨by decide +kernel, rfl⟩
theorem dX7_fact_57 : dI cX7_fact 57 58 (.imul) 1 := ⟨by decide +kernel, rfl⟩
theorem dX7_fact_58 : dI cX7_fact 58 59 (.iadd) 1 := ⟨by decide +kernel, rfl⟩
theorem dX7_fact_59 : dI cX7_fact 59 60 (.iconst 1) 1 := ⟨by decide +kernel, rfl⟩
theorem dX7_fact_60 : dI cX7_fact 60 61 (.iadd) 1 := ⟨by decide +kernel, rfl⟩
theorem dX7_fact_61 : dI cX7_fact 61 64 (.sipush 999) 3 := ⟨by decide +kernel, rfl⟩
theorem dX7_fact_64 : dI cX7_fact 64 65 (.iastore) 1 := ⟨by decide +kernel, rfl⟩
theorem dX7_fact_65 : dI cX7_fact 65 66 (.aload_n 0) 1 := ⟨by decide +kernel, rfl⟩
theorem dX7_fact_66 : dI cX7_fact 66 69 (.getfield 9) 3 := ⟨by decide +kernel, rfl⟩
theorem dX7_fact_69 : dI cX7_fact 69 70 (.iconst 1) 1 := ⟨by decide +kernel, rfl⟩
theorem dX7_fact_70 : dI cX7_fact 70 71 (.dup2) 1 := ⟨by decide +kernel, rfl⟩
theorem dX7_fact_71 : dI cX7_fact 71 72 (.iaload) 1 := ⟨by decide +kernel, rfl⟩
theorem dX7_fact_72 : dI cX7_fact 72 73 (.iconst 1) 1 := ⟨by decide +kernel, rfl⟩
theorem dX7_fact_73 : dI cX7_fact 73 74 (.iadd) 1 := ⟨by decide +kernel, rfl⟩
theorem dX7_fact_74 : dI cX7_fact 74 75 (.iastore) 1 := ⟨by decide +kernel, rfl⟩
theorem dX7_fact_75 : dI cX7_fact 75 76 (.aload_n 0) 1 := ⟨by decide +kernel, rfl⟩
theorem dX7_fact_76 : dI cX7_fact 76 79 (.getfield 9) 3 := ⟨by decide +kernel, rfl⟩
theorem dX7_fact_79 : dI cX7_fact 79 80 (.iconst 1) 1 := ⟨by decide +kernel, rfl⟩
theorem dX7_fact_80 : dI cX7_fact 80 81 (.iaload) 1 := ⟨by decide +kernel, rfl⟩
theorem dX7_fact_81 : dI cX7_fact 81 82 (.iconst 1) 1 := ⟨by decide +kernel, rfl⟩
theorem dX7_fact_82 : dI cX7_fact 82 83 (.isub) 1 := ⟨by decide +kernel, rfl⟩
theorem dX7_fact_83 : dI cX7_fact 83 84 (.ireturn) 1 := ⟨by decide +kernel, rfl⟩
def f_X7_fact (s : hS) (a0 : Nat) (i1 : Int32) : Option (Int32 × hS) :=
  (f_X7_in s i1 (0 : Int32) (99 : Int32)).bind fun p1 =>
  if p1.1 = 0 then
    some ((-1000000001 : Int32), p1.2)
  else
    (gR p1.2 a0 7 0).bind fun a2 =>
    (aI p1.2 a2 10 (1 : Int32)).bind fun x3 =>
    if x3 = (16 : Int32) then
      some ((-1000000003 : Int32), p1.2)
    else
      (gR p1.2 a0 7 0).bind fun a4 =>
      (gR p1.2 a0 7 0).bind fun a5 =>
      (aI p1.2 a5 10 (1 : Int32)).bind fun x6 =>
      (sI p1.2 a4 10 ((8 : Int32) + ((2 : Int32) * x6)) i1).bind fun s7 =>
      (gR s7 a0 7 0).bind fun a8 =>
      (gR s7 a0 7 0).bind fun a9 =>
      (aI s7 a9 10 (1 : Int32)).bind fun x10 =>
      (sI s7 a8 10 (((8 : Int32) + ((2 : Int32) * x10)) + (1 : Int32)) (999 : Int32)).bind fun s11 =>
      (gR s11 a0 7 0).bind fun a12 =>
      (aI s11 a12 10 (1 : Int32)).bind fun x13 =>
      (sI s11 a12 10 (1 : Int32) (x13 + (1 : Int32))).bind fun s14 =>
      (gR s14 a0 7 0).bind fun a15 =>
      (aI s14 a15 10 (1 : Int32)).bind fun x16 =>
      some ((x16 - (1 : Int32)), s14)
theorem b_X7_fact_in (E : jE)  (s : hS) (a0 : Nat) (i1 : Int32)  : Jo E M_X7_fact cvI 0 [(0, .ref a0), (1, .int i1)] [] s (f_X7_fact s a0 i1) := by
  unfold f_X7_fact
  refine Jo_iloadn 1 dX7_fact_0 rfl rfl ?_
  refine Jo_iconst (v := (0 : Int32)) dX7_fact_1 (by decide) ?_
  refine Jo_bipush (v := (99 : Int32)) dX7_fact_2 (by decide) ?_
  refine Jo_callSi (rest := []) [.int i1, .int (0 : Int32), .int (99 : Int32)] yF_X7_in yS_X7_in w_635 rfl rfl ⟨Nat.le_of_ble_eq_true rfl, Nat.le_of_ble_eq_true rfl, Nat.le_of_ble_eq_true rfl⟩ dX7_fact_4 rfl (K_X7_in E s i1 (0 : Int32) (99 : Int32)) (fun p1 => ?_)
  refine Jo_if_ne 13 dX7_fact_7 (by decide) rfl ?_ ?_
  · refine Jo_ldc dX7_fact_10 w_673 ?_
    exact Jo_iret rfl dX7_fact_12
  · refine Jo_aloadn 0 dX7_fact_13 rfl rfl ?_
    refine Jo_getR fF_7_0 fR_7_0 dX7_fact_14 w_598 (fun a2 => ?_)
    refine Jo_iconst (v := (1 : Int32)) dX7_fact_17 (by decide) ?_
    refine Jo_iaload dX7_fact_18 (fun x3 => ?_)
    refine Jo_bipush (v := (16 : Int32)) dX7_fact_19 (by decide) ?_
    refine Jo_icmp_ne 27 dX7_fact_21 (by decide) rfl ?_ ?_
    · refine Jo_ldc dX7_fact_24 w_672 ?_
      exact Jo_iret rfl dX7_fact_26
    · refine Jo_aloadn 0 dX7_fact_27 rfl rfl ?_
      refine Jo_getR fF_7_0 fR_7_0 dX7_fact_28 w_598 (fun a4 => ?_)
      refine Jo_bipush (v := (8 : Int32)) dX7_fact_31 (by decide) ?_
      refine Jo_iconst (v := (2 : Int32)) dX7_fact_33 (by decide) ?_
      refine Jo_aloadn 0 dX7_fact_34 rfl rfl ?_
      refine Jo_getR fF_7_0 fR_7_0 dX7_fact_35 w_598 (fun a5 => ?_)
      refine Jo_iconst (v := (1 : Int32)) dX7_fact_38 (by decide) ?_
      refine Jo_iaload dX7_fact_39 (fun x6 => ?_)
      refine Jo_imul dX7_fact_40 ?_
      refine Jo_iadd dX7_fact_41 ?_
      refine Jo_iloadn 1 dX7_fact_42 rfl rfl ?_
      refine Jo_iastore dX7_fact_43 (fun s7 => ?_)
      refine Jo_aloadn 0 dX7_fact_44 rfl rfl ?_
      refine Jo_getR fF_7_0 fR_7_0 dX7_fact_45 w_598 (fun a8 => ?_)
      refine Jo_bipush (v := (8 : Int32)) dX7_fact_48 (by decide) ?_
      refine Jo_iconst (v := (2 : Int32)) dX7_fact_50 (by decide) ?_
      refine Jo_aloadn 0 dX7_fact_51 rfl rfl ?_
      refine Jo_getR fF_7_0 fR_7_0 dX7_fact_52 w_598 (fun a9 => ?_)
      refine Jo_iconst (v := (1 : Int32)) dX7_fact_55 (by decide) ?_
      refine Jo_iaload dX7_fact_56 (fun x10 => ?_)
      refine Jo_imul dX7_fact_57 ?_
      refine Jo_iadd dX7_fact_58 ?_
      refine Jo_iconst (v := (1 : Int32)) dX7_fact_59 (by decide) ?_
      refine Jo_iadd dX7_fact_60 ?_
      refine Jo_sipush (v := (999 : Int32)) dX7_fact_61 (by decide) ?_
      refine Jo_iastore dX7_fact_64 (fun s11 => ?_)
      refine Jo_aloadn 0 dX7_fact_65 rfl rfl ?_
      refine Jo_getR fF_7_0 fR_7_0 dX7_fact_66 w_598 (fun a12 => ?_)
      refine Jo_iconst (v := (1 : Int32)) dX7_fact_69 (by decide) ?_
      refine Jo_dup2 dX7_fact_70 rfl rfl ?_
      refine Jo_iaload dX7_fact_71 (fun x13 => ?_)
      refine Jo_iconst (v := (1 : Int32)) dX7_fact_72 (by decide) ?_
      refine Jo_iadd dX7_fact_73 ?_
      refine Jo_iastore dX7_fact_74 (fun s14 => ?_)
      refine Jo_aloadn 0 dX7_fact_75 rfl rfl ?_
      refine Jo_getR fF_7_0 fR_7_0 dX7_fact_76 w_598 (fun a15 => ?_)
      refine Jo_iconst (v := (1 : Int32)) dX7_fact_79 (by decide) ?_
      refine Jo_iaload dX7_fact_80 (fun x16 => ?_)
      refine Jo_iconst (v := (1 : Int32)) dX7_fact_81 (by decide) ?_
      refine Jo_isub dX7_fact_82 ?_
      exact Jo_iret rfl dX7_fact_83
theorem K_X7_fact (E : jE) (s : hS) (a0 : Nat) (i1 : Int32) : jK E yX7_fact M_X7_fact cvI [.ref a0, .int i1] s (f_X7_fact s a0 i1) := jK_of ⟨by decide, rfl, rfl⟩ (Nat.le_of_ble_eq_true rfl) (b_X7_fact_in E s a0 i1)
/-! HeronTalkModel.knowers(I)I -/
abbrev M_X7_knowers : jM := (RX7, cX7_knowers, 4, (some .int), "knowers", 2, 43)
theorem yF_X7_knowers : yF yX7_knowers M_X7_knowers 1 := ⟨w_678, w_624, by decide +kernel⟩
theorem yV_X7_knowers : Cond.instanceMethod yX7_knowers ∈ tbG ∧ Cond.selects yX7_knowers.cls yX7_knowers yX7_knowers ∈ tbG := ⟨w_679, w_680⟩
theorem dX7_knowers_0 : dI cX7_knowers 0 1 (.iconst 0) 1 := ⟨by decide +kernel, rfl⟩
theorem dX7_knowers_1 : dI cX7_knowers 1 2 (.istore_n 2) 1 := ⟨by decide +kernel, rfl⟩
theorem dX7_knowers_2 : dI cX7_knowers 2 3 (.iconst 0) 1 := ⟨by decide +kernel, rfl⟩
theorem dX7_knowers_3 : dI cX7_knowers 3 4 (.istore_n 3) 1 := ⟨by decide +kernel, rfl⟩
theorem dX7_knowers_4 : dI cX7_knowers 4 5 (.iload_n 3) 1 := ⟨by decide +kernel, rfl⟩
theorem dX7_knowers_5 : dI cX7_knowers 5 6 (.aload_n 0) 1 := ⟨by decide +kernel, rfl⟩
theorem dX7_knowers_6 : dI cX7_knowers 6 9 (.getfield 9) 3 := ⟨by decide +kernel, rfl⟩
theorem dX7_knowers_9 : dI cX7_knowers 9 10 (.iconst 2) 1 := ⟨by decide +kernel, rfl⟩
theorem dX7_knowers_10 : dI cX7_knowers 10 11 (.iaload) 1 := ⟨by decide +kernel, rfl⟩
theorem dX7_knowers_11 : decode cX7_knowers 11 = .ok (.if_icmp .ge 28, 3) := by decide +kernel
theorem dX7_knowers_14 : dI cX7_knowers 14 15 (.iload_n 2) 1 := ⟨by decide +kernel, rfl⟩
theorem dX7_knowers_15 : dI cX7_knowers 15 16 (.aload_n 0) 1 := ⟨by decide +kernel, rfl⟩
theorem dX7_knowers_16 : dI cX7_knowers 16 17 (.iload_n 3) 1 := ⟨by decide +kernel, rfl⟩
theorem dX7_knowers_17 : dI cX7_knowers 17 18 (.iload_n 1) 1 := ⟨by decide +kernel, rfl⟩
theorem dX7_knowers_18 : decode cX7_knowers 18 = .ok (.invokevirtual 89, 3) := by decide +kernel
theorem dX7_knowers_21 : decode cX7_knowers 21 = .ok (.ifCond .eq 9, 3) := by decide +kernel
theorem dX7_knowers_24 : dI cX7_knowers 24 25 (.iconst 1) 1 := ⟨by decide +kernel, rfl⟩
theorem dX7_knowers_25 : dI cX7_knowers 25 26 (.iload_n 3) 1 := ⟨by decide +kernel, rfl⟩
theorem dX7_knowers_26 : dI cX7_knowers 26 27 (.ishl) 1 := ⟨by decide +kernel, rfl⟩
theorem dX7_knowers_27 : decode cX7_knowers 27 = .ok (.goto 4, 3) := by decide +kernel
theorem dX7_knowers_30 : dI cX7_knowers 30 31 (.iconst 0) 1 := ⟨by decide +kernel, rfl⟩
theorem dX7_knowers_31 : dI cX7_knowers 31 32 (.ior) 1 := ⟨by decide +kernel, rfl⟩
theorem dX7_knowers_32 : dI cX7_knowers 32 33 (.istore_n 2) 1 := ⟨by decide +kernel, rfl⟩
theorem dX7_knowers_33 : dI cX7_knowers 33 36 (.iinc 3 1) 3 := ⟨by decide +kernel, rfl⟩
theorem dX7_knowers_36 : decode cX7_knowers 36 = .ok (.goto (-32), 3) := by decide +kernel
theorem dX7_knowers_39 : dI cX7_knowers 39 40 (.iload_n 2) 1 := ⟨by decide +kernel, rfl⟩
theorem dX7_knowers_40 : dI cX7_knowers 40 41 (.ireturn) 1 := ⟨by decide +kernel, rfl⟩
def f_X7_knowers_b31 (k4 : Nat → Int32 → Int32 → Int32 → hS → Option (Int32 × hS)) (l0 : Nat) (l1 : Int32) (l3 : Int32) (t0 : Int32) (t1 : Int32) (s : hS) : Option (Int32 × hS) :=
  nmv ((t0 ||| t1)) fun x1 =>
  k4 l0 l1 x1 (l3 + (1 : Int32)) s
theorem b_X7_knowers_31 (E : jE) (k4 : Nat → Int32 → Int32 → Int32 → hS → Option (Int32 × hS)) (h4 : ∀ (s : hS) (l0 : Nat) (l1 : Int32) (l2 : Int32) (l3 : Int32) , Jo E M_X7_knowers cvI 4 [(0, .ref l0), (1, .int l1), (2, .int l2), (3, .int l3)] [] s (k4 l0 l1 l2 l3 s)) (s : hS) (l0 : Nat) (l1 : Int32) (l3 : Int32) (t0 : Int32) (t1 : Int32) : Jo E M_X7_knowers cvI 31 [(0, .ref l0), (1, .int l1), (3, .int l3)] [.int t1, .int t0] s (f_X7_knowers_b31 k4 l0 l1 l3 t0 t1 s) := by
  unfold f_X7_knowers_b31
  refine Jo_ior dX7_knowers_31 ?_
  refine Jo_nm (fun x1 => ?_)
  refine Jo_istoren (ls' := [(2, .int x1), (0, .ref l0), (1, .int l1), (3, .int l3)]) dX7_knowers_32 rfl (by decide) rfl ?_
  refine Jo_iinc (v := (l3 + (1 : Int32))) (ls' := [(3, .int (l3 + (1 : Int32))), (2, .int x1), (0, .ref l0), (1, .int l1)]) 3 dX7_knowers_33 rfl rfl (by decide) rfl ?_
  refine Jo_goto 4 dX7_knowers_36 (by decide) ?_
  refine Jo_sub [2, 3, 1, 0] rfl ?_
  exact h4 s l0 l1 x1 (l3 + (1 : Int32))
def f_X7_knowers_b4 (k4 : Nat → Int32 → Int32 → Int32 → hS → Option (Int32 × hS)) (l0 : Nat) (l1 : Int32) (l2 : Int32) (l3 : Int32) (s : hS) : Option (Int32 × hS) :=
  (gR s l0 7 0).bind fun a1 =>
  (aI s a1 10 (2 : Int32)).bind fun x2 =>
  if x2 ≤ l3 then
    some (l2, s)
  else
    (cV s l0 7 (f_X7_doesKnow s l0 l3 l1)).bind fun p3 =>
    if p3.1 = 0 then
      f_X7_knowers_b31 k4 l0 l1 l3 l2 (0 : Int32) p3.2
    else
      f_X7_knowers_b31 k4 l0 l1 l3 l2 ((1 : Int32) <<< (l3 &&& 31)) p3.2
theorem b_X7_knowers_4 (E : jE) (k4 : Nat → Int32 → Int32 → Int32 → hS → Option (Int32 × hS)) (h4 : ∀ (s : hS) (l0 : Nat) (l1 : Int32) (l2 : Int32) (l3 : Int32) , Jo E M_X7_knowers cvI 4 [(0, .ref l0), (1, .int l1), (2, .int l2), (3, .int l3)] [] s (k4 l0 l1 l2 l3 s)) (s : hS) (l0 : Nat) (l1 : Int32) (l2 : Int32) (l3 : Int32)  : Jo E M_X7_knowers cvI 4 [(0, .ref l0), (1, .int l1), (2, .int l2), (3, .int l3)] [] s (f_X7_knowers_b4 k4 l0 l1 l2 l3 s) := by
  unfold f_X7_knowers_b4
  refine Jo_iloadn 3 dX7_knowers_4 rfl rfl ?_
  refine Jo_aloadn 0 dX7_knowers_5 rfl rfl ?_
  refine Jo_getR fF_7_0 fR_7_0 dX7_knowers_6 w_598 (fun a1 => ?_)
  refine Jo_iconst (v := (2 : Int32)) dX7_knowers_9 (by decide) ?_
  refine Jo_iaload dX7_knowers_10 (fun x2 => ?_)
  refine Jo_icmp_ge 39 dX7_knowers_11 (by decide) rfl ?_ ?_
  · refine Jo_iloadn 2 dX7_knowers_39 rfl rfl ?_
    exact Jo_iret rfl dX7_knowers_40
  · refine Jo_iloadn 2 dX7_knowers_14 rfl rfl ?_
    refine Jo_aloadn 0 dX7_knowers_15 rfl rfl ?_
    refine Jo_iloadn 3 dX7_knowers_16 rfl rfl ?_
    refine Jo_iloadn 1 dX7_knowers_17 rfl rfl ?_
    refine Jo_callVi (a := l0) (rest := [.int l2]) [.int l3, .int l1] cc_7 yF_X7_doesKnow yV_X7_doesKnow w_677 rfl rfl ⟨Nat.le_of_ble_eq_true rfl, Nat.le_of_ble_eq_true rfl, Nat.le_of_ble_eq_true rfl⟩ dX7_knowers_18 rfl (K_X7_doesKnow E s l0 l3 l1) (fun p3 => ?_)
    refine Jo_if_eq 30 dX7_knowers_21 (by decide) rfl ?_ ?_
    · refine Jo_iconst (v := (0 : Int32)) dX7_knowers_30 (by decide) ?_
      refine Jo_sub [0, 1, 3] rfl ?_
      exact b_X7_knowers_31 E k4 h4 p3.2 l0 l1 l3 l2 (0 : Int32)
    · refine Jo_iconst (v := (1 : Int32)) dX7_knowers_24 (by decide) ?_
      refine Jo_iloadn 3 dX7_knowers_25 rfl rfl ?_
      refine Jo_ishl dX7_knowers_26 ?_
      refine Jo_goto 31 dX7_knowers_27 (by decide) ?_
      refine Jo_sub [0, 1, 3] rfl ?_
      exact b_X7_knowers_31 E k4 h4 p3.2 l0 l1 l3 l2 ((1 : Int32) <<< (l3 &&& 31))
theorem e_X7_knowers_4 (E : jE)  (n : Nat) : ∀ (s : hS) (l0 : Nat) (l1 : Int32) (l2 : Int32) (l3 : Int32) , Jo E M_X7_knowers cvI 4 [(0, .ref l0), (1, .int l1), (2, .int l2), (3, .int l3)] [] s ((jL f_X7_knowers_b4 (fun _ _ _ _ _ => none) n) l0 l1 l2 l3 s) :=
  jL_ind (P := fun f => ∀ (s : hS) (l0 : Nat) (l1 : Int32) (l2 : Int32) (l3 : Int32) , Jo E M_X7_knowers cvI 4 [(0, .ref l0), (1, .int l1), (2, .int l2), (3, .int l3)] [] s (f l0 l1 l2 l3 s)) (fun _ _ _ _ _ => Jo_none) (fun b hb s l0 l1 l2 l3 => b_X7_knowers_4 E  b hb s l0 l1 l2 l3) n
def f_X7_knowers (s : hS) (a0 : Nat) (i1 : Int32) : Option (Int32 × hS) :=
  jL f_X7_knowers_b4 (fun _ _ _ _ _ => none) jF a0 i1 (0 : Int32) (0 : Int32) s
theorem b_X7_knowers_in (E : jE)  (s : hS) (a0 : Nat) (i1 : Int32)  : Jo E M_X7_knowers cvI 0 [(0, .ref a0), (1, .int i1)] [] s (f_X7_knowers s a0 i1) := by
  unfold f_X7_knowers
  refine Jo_iconst (v := (0 : Int32)) dX7_knowers_0 (by decide) ?_
  refine Jo_istoren (ls' := [(2, .int (0 : Int32)), (0, .ref a0), (1, .int i1)]) dX7_knowers_1 rfl (by decide) rfl ?_
  refine Jo_iconst (v := (0 : Int32)) dX7_knowers_2 (by decide) ?_
  refine Jo_istoren (ls' := [(3, .int (0 : Int32)), (2, .int (0 : Int32)), (0, .ref a0), (1, .int i1)]) dX7_knowers_3 rfl (by decide) rfl ?_
  refine Jo_sub [2, 3, 1, 0] rfl ?_
  exact e_X7_knowers_4 E jF s a0 i1 (0 : Int32) (0 : Int32)
theorem K_X7_knowers (E : jE) (s : hS) (a0 : Nat) (i1 : Int32) : jK E yX7_knowers M_X7_knowers cvI [.ref a0, .int i1] s (f_X7_knowers s a0 i1) := jK_of ⟨by decide, rfl, rfl⟩ (Nat.le_of_ble_eq_true rfl) (b_X7_knowers_in E s a0 i1)
/-! HeronTalkModel.factTold(II)I -/
abbrev M_X7_factTold : jM := (RX7, cX7_factTold, 3, (some .int), "factTold", 3, 66)
theorem yF_X7_factTold : yF yX7_factTold M_X7_factTold 2 := ⟨w_684, w_624, by decide +kernel⟩
theorem yV_X7_factTold : Cond.instanceMethod yX7_factTold ∈ tbG ∧ Cond.selects yX7_factTold.cls yX7_factTold yX7_factTold ∈ tbG := ⟨w_685, w_686⟩
theorem dX7_factTold_0 : dI cX7_factTold 0 1 (.aload_n 0) 1 := ⟨by decide +kernel, rfl⟩
theorem dX7_factTold_1 : dI cX7_factTold 1 2 (.iload_n 1) 1 := ⟨by decide +kernel, rfl⟩
theorem dX7_factTold_2 : decode cX7_factTold 2 = .ok (.invokevirtual 93, 3) := by decide +kernel
theorem dX7_factTold_5 : decode cX7_factTold 5 = .ok (.ifCond .eq 12, 3) := by decide +kernel
theorem dX7_factTold_8 : dI cX7_factTold 8 9 (.iload_n 2) 1 := ⟨by decide +kernel, rfl⟩
theorem dX7_factTold_9 : dI cX7_factTold 9 10 (.iconst 0) 1 := ⟨by decide +kernel, rfl⟩
theorem dX7_factTold_10 : dI cX7_factTold 10 11 (.iconst 3) 1 := ⟨by decide +kernel, rfl⟩
theorem dX7_factTold_11 : decode cX7_factTold 11 = .ok (.invokestatic 79, 3) := by decide +kernel
theorem dX7_factTold_14 : decode cX7_factTold 14 = .ok (.ifCond .ne 6, 3) := by decide +kernel
theorem dX7_factTold_17 : dI cX7_factTold 17 19 (.ldc 87) 2 := ⟨by decide +kernel, rfl⟩
theorem dX7_factTold_19 : dI cX7_factTold 19 20 (.ireturn) 1 := ⟨by decide +kernel, rfl⟩
theorem dX7_factTold_20 : dI cX7_factTold 20 21 (.iload_n 2) 1 := ⟨by decide +kernel, rfl⟩
theorem dX7_factTold_21 : dI cX7_factTold 21 22 (.iconst 2) 1 := ⟨by decide +kernel, rfl⟩
theorem dX7_factTold_22 : decode cX7_factTold 22 = .ok (.if_icmp .ge 19, 3) := by decide +kernel
theorem dX7_factTold_25 : dI cX7_factTold 25 26 (.aload_n 0) 1 := ⟨by decide +kernel, rfl⟩
theorem dX7_factTold_26 : dI cX7_factTold 26 29 (.getfield 9) 3 := ⟨by decide +kernel, rfl⟩
theorem dX7_factTold_29 : dI cX7_factTold 29 31 (.bipush 8) 2 := ⟨by decide +kernel, rfl⟩
theorem dX7_factTold_31 : dI cX7_factTold 31 32 (.iconst 2) 1 := ⟨by decide +kernel, rfl⟩
theorem dX7_factTold_32 : dI cX7_factTold 32 33 (.iload_n 1) 1 := ⟨by decide +kernel, rfl⟩
theorem dX7_factTold_33 : dI cX7_factTold 33 34 (.imul) 1 := ⟨by decide +kernel, rfl⟩
theorem dX7_factTold_34 : dI cX7_factTold 34 35 (.iadd) 1 := ⟨by decide +kernel, rfl⟩
theorem dX7_factTold_35 : dI cX7_factTold 35 36 (.iload_n 2) 1 := ⟨by decide +kernel, rfl⟩
theorem dX7_factTold_36 : dI cX7_factTold 36 37 (.iadd) 1 := ⟨by decide +kernel, rfl⟩
theorem dX7_factTold_37 : dI cX7_factTold 37 38 (.iaload) 1 := ⟨by decide +kernel, rfl⟩
theorem dX7_factTold_38 : decode cX7_factTold 38 = .ok (.goto 29, 3) := by decide +kernel
theorem dX7_factTold_41 : dI cX7_factTold 41 42 (.iload_n 2) 1 := ⟨by decide +kernel, rfl⟩
theorem dX7_factTold_42 : dI cX7_factTold 42 43 (.iconst 2) 1 := ⟨by decide +kernel, rfl⟩
theorem dX7_factTold_43 : decode cX7_factTold 43 = .ok (.if_icmp .ne 19, 3) := by decide +kernel
theorem dX7_factTold_46 : dI cX7_factTold 46 47 (.aload_n 0) 1 := ⟨by decide +kernel, rfl⟩
theorem dX7_factTold_47 : dI cX7_factTold 47 48 (.iload_n 1) 1 := ⟨by decide +kernel, rfl⟩
theorem dX7_factTold_48 : decode cX7_factTold 48 = .ok (.invokevirtual 97, 3) := by decide +kernel
theorem dX7_factTold_51 : decode cX7_factTold 51 = .ok (.ifCond .eq 7, 3) := by decide +kernel
theorem dX7_factTold_54 : dI cX7_factTold 54 55 (.iconst 1) 1 := ⟨by decide +kernel, rfl⟩
theorem dX7_factTold_55 : decode cX7_factTold 55 = .ok (.goto 12, 3) := by decide +kernel
theorem dX7_factTold_58 : dI cX7_factTold 58 59 (.iconst 0) 1 := ⟨by decide +kernel, rfl⟩
theorem dX7_factTold_59 : decode cX7_factTold 59 = .ok (.goto 8, 3) := by decide +kernel
theorem dX7_factTold_62 : dI cX7_factTold 62 63 (.aload_n 0) 1 := ⟨by decide +kernel, rfl⟩
theorem dX7_factTold_63 : dI cX7_factTold 63 64 (.iload_n 1) 1 := ⟨by decide +kernel, rfl⟩
theorem dX7_factTold_64 : decode cX7_factTold 64 = .ok (.invokevirtual 100, 3) := by decide +kernel
theorem dX7_factTold_67 : dI cX7_factTold 67 68 (.ireturn) 1 := ⟨by decide +kernel, rfl⟩
def f_X7_factTold (s : hS) (a0 : Nat) (i1 : Int32) (i2 : Int32) : Option (Int32 × hS) :=
  (cV s a0 7 (f_X7_isFact s a0 i1)).bind fun p1 =>
  if p1.1 = 0 then
    some ((-1000000001 : Int32), p1.2)
  else
    (f_X7_in p1.2 i2 (0 : Int32) (3 : Int32)).bind fun p2 =>
    if p2.1 = 0 then
      some ((-1000000001 : Int32), p2.2)
    else
      if (2 : Int32) ≤ i2 then
        if i2 = (2 : Int32) then
          (cV p2.2 a0 7 (f_X7_isFresh p2.2 a0 i1)).bind fun p4 =>
          if p4.1 = 0 then
            some ((0 : Int32), p4.2)
          else
            some ((1 : Int32), p4.2)
        else
          (cV p2.2 a0 7 (f_X7_knowers p2.2 a0 i1)).bind fun p3 =>
          some (p3.1, p3.2)
      else
        (gR p2.2 a0 7 0).bind fun a5 =>
        (aI p2.2 a5 10 (((8 : Int32) + ((2 : Int32) * i1)) + i2)).bind fun x6 =>
        some (x6, p2.2)
theorem b_X7_factTold_in (E : jE)  (s : hS) (a0 : Nat) (i1 : Int32) (i2 : Int32)  : Jo E M_X7_factTold cvI 0 [(0, .ref a0), (1, .int i1), (2, .int i2)] [] s (f_X7_factTold s a0 i1 i2) := by
  unfold f_X7_factTold
  refine Jo_aloadn 0 dX7_factTold_0 rfl rfl ?_
  refine Jo_iloadn 1 dX7_factTold_1 rfl rfl ?_
  refine Jo_callVi (a := a0) (rest := []) [.int i1] cc_7 yF_X7_isFact yV_X7_isFact w_683 rfl rfl ⟨Nat.le_of_ble_eq_true rfl, Nat.le_of_ble_eq_true rfl, Nat.le_of_ble_eq_true rfl⟩ dX7_factTold_2 rfl (K_X7_isFact E s a0 i1) (fun p1 => ?_)
  refine Jo_if_eq 17 dX7_factTold_5 (by decide) rfl ?_ ?_
  · refine Jo_ldc dX7_factTold_17 w_673 ?_
    exact Jo_iret rfl dX7_factTold_19
  · refine Jo_iloadn 2 dX7_factTold_8 rfl rfl ?_
    refine Jo_iconst (v := (0 : Int32)) dX7_factTold_9 (by decide) ?_
    refine Jo_iconst (v := (3 : Int32)) dX7_factTold_10 (by decide) ?_
    refine Jo_callSi (rest := []) [.int i2, .int (0 : Int32), .int (3 : Int32)] yF_X7_in yS_X7_in w_635 rfl rfl ⟨Nat.le_of_ble_eq_true rfl, Nat.le_of_ble_eq_true rfl, Nat.le_of_ble_eq_true rfl⟩ dX7_factTold_11 rfl (K_X7_in E p1.2 i2 (0 : Int32) (3 : Int32)) (fun p2 => ?_)
    refine Jo_if_ne 20 dX7_factTold_14 (by decide) rfl ?_ ?_
    · refine Jo_ldc dX7_factTold_17 w_673 ?_
      exact Jo_iret rfl dX7_factTold_19
    · refine Jo_iloadn 2 dX7_factTold_20 rfl rfl ?_
      refine Jo_iconst (v := (2 : Int32)) dX7_factTold_21 (by decide) ?_
      refine Jo_icmp_ge 41 dX7_factTold_22 (by decide) rfl ?_ ?_
      · refine Jo_iloadn 2 dX7_factTold_41 rfl rfl ?_
        refine Jo_iconst (v := (2 : Int32)) dX7_factTold_42 (by decide) ?_
        refine Jo_icmp_ne 62 dX7_factTold_43 (by decide) rfl ?_ ?_
        · refine Jo_aloadn 0 dX7_factTold_46 rfl rfl ?_
          refine Jo_iloadn 1 dX7_factTold_47 rfl rfl ?_
          refine Jo_callVi (a := a0) (rest := []) [.int i1] cc_7 yF_X7_isFresh yV_X7_isFresh w_682 rfl rfl ⟨Nat.le_of_ble_eq_true rfl, Nat.le_of_ble_eq_true rfl, Nat.le_of_ble_eq_true rfl⟩ dX7_factTold_48 rfl (K_X7_isFresh E p2.2 a0 i1) (fun p4 => ?_)
          refine Jo_if_eq 58 dX7_factTold_51 (by decide) rfl ?_ ?_
          · refine Jo_iconst (v := (0 : Int32)) dX7_factTold_58 (by decide) ?_
            refine Jo_goto 67 dX7_factTold_59 (by decide) ?_
            exact Jo_iret rfl dX7_factTold_67
          · refine Jo_iconst (v := (1 : Int32)) dX7_factTold_54 (by decide) ?_
            refine Jo_goto 67 dX7_factTold_55 (by decide) ?_
            exact Jo_iret rfl dX7_factTold_67
        · refine Jo_aloadn 0 dX7_factTold_62 rfl rfl ?_
          refine Jo_iloadn 1 dX7_factTold_63 rfl rfl ?_
          refine Jo_callVi (a := a0) (rest := []) [.int i1] cc_7 yF_X7_knowers yV_X7_knowers w_681 rfl rfl ⟨Nat.le_of_ble_eq_true rfl, Nat.le_of_ble_eq_true rfl, Nat.le_of_ble_eq_true rfl⟩ dX7_factTold_64 rfl (K_X7_knowers E p2.2 a0 i1) (fun p3 => ?_)
          exact Jo_iret rfl dX7_factTold_67
      · refine Jo_aloadn 0 dX7_factTold_25 rfl rfl ?_
        refine Jo_getR fF_7_0 fR_7_0 dX7_factTold_26 w_598 (fun a5 => ?_)
        refine Jo_bipush (v := (8 : Int32)) dX7_factTold_29 (by decide) ?_
        refine Jo_iconst (v := (2 : Int32)) dX7_factTold_31 (by decide) ?_
        refine Jo_iloadn 1 dX7_factTold_32 rfl rfl ?_
        refine Jo_imul dX7_factTold_33 ?_
        refine Jo_iadd dX7_factTold_34 ?_
        refine Jo_iloadn 2 dX7_factTold_35 rfl rfl ?_
        refine Jo_iadd dX7_factTold_36 ?_
        refine Jo_iaload dX7_factTold_37 (fun x6 => ?_)
        refine Jo_goto 67 dX7_factTold_38 (by decide) ?_
        exact Jo_iret rfl dX7_factTold_67
theorem K_X7_factTold (E : jE) (s : hS) (a0 : Nat) (i1 : Int32) (i2 : Int32) : jK E yX7_factTold M_X7_factTold cvI [.ref a0, .int i1, .int i2] s (f_X7_factTold s a0 i1 i2) := jK_of ⟨by decide, rfl, rfl⟩ (Nat.le_of_ble_eq_true rfl) (b_X7_factTold_in E s a0 i1 i2)
/-! HeronTalkModel.set(III)I -/
abbrev M_X7_set : jM := (RX7, cX7_set, 4, (some .int), "set", 2, 43)
theorem yF_X7_set : yF yX7_set M_X7_set 3 := ⟨w_688, w_624, by decide +kernel⟩
theorem yV_X7_set : Cond.instanceMethod yX7_set ∈ tbG ∧ Cond.selects yX7_set.cls yX7_set yX7_set ∈ tbG := ⟨w_689, w_690⟩
theorem dX7_set_0 : dI cX7_set 0 1 (.aload_n 0) 1 := ⟨by decide +kernel, rfl⟩
theorem dX7_set_1 : dI cX7_set 1 2 (.iload_n 1) 1 := ⟨by decide +kernel, rfl⟩
theorem dX7_set_2 : decode cX7_set 2 = .ok (.invokevirtual 93, 3) := by decide +kernel
theorem dX7_set_5 : decode cX7_set 5 = .ok (.ifCond .eq 48, 3) := by decide +kernel
theorem dX7_set_8 : dI cX7_set 8 9 (.iload_n 2) 1 := ⟨by decide +kernel, rfl⟩
theorem dX7_set_9 : dI cX7_set 9 10 (.iconst 0) 1 := ⟨by decide +kernel, rfl⟩
theorem dX7_set_10 : dI cX7_set 10 11 (.iconst 1) 1 := ⟨by decide +kernel, rfl⟩
theorem dX7_set_11 : decode cX7_set 11 = .ok (.invokestatic 79, 3) := by decide +kernel
theorem dX7_set_14 : decode cX7_set 14 = .ok (.ifCond .eq 39, 3) := by decide +kernel
theorem dX7_set_17 : dI cX7_set 17 18 (.iload_n 3) 1 := ⟨by decide +kernel, rfl⟩
theorem dX7_set_18 : dI cX7_set 18 19 (.iconst 0) 1 := ⟨by decide +kernel, rfl⟩
theorem dX7_set_19 : dI cX7_set 19 20 (.iload_n 2) 1 := ⟨by decide +kernel, rfl⟩
theorem dX7_set_20 : decode cX7_set 20 = .ok (.ifCond .ne 8, 3) := by decide +kernel
theorem dX7_set_23 : dI cX7_set 23 25 (.bipush 99) 2 := ⟨by decide +kernel, rfl⟩
theorem dX7_set_25 : decode cX7_set 25 = .ok (.goto 6, 3) := by decide +kernel
theorem dX7_set_28 : dI cX7_set 28 31 (.sipush 999) 3 := ⟨by decide +kernel, rfl⟩
theorem dX7_set_31 : decode cX7_set 31 = .ok (.invokestatic 79, 3) := by decide +kernel
theorem dX7_set_34 : decode cX7_set 34 = .ok (.ifCond .eq 19, 3) := by decide +kernel
theorem dX7_set_37 : dI cX7_set 37 38 (.aload_n 0) 1 := ⟨by decide +kernel, rfl⟩
theorem dX7_set_38 : dI cX7_set 38 40 (.bipush 8) 2 := ⟨by decide +kernel, rfl⟩
theorem dX7_set_40 : dI cX7_set 40 41 (.iconst 2) 1 := ⟨by decide +kernel, rfl⟩
theorem dX7_set_41 : dI cX7_set 41 42 (.iload_n 1) 1 := ⟨by decide +kernel, rfl⟩
theorem dX7_set_42 : dI cX7_set 42 43 (.imul) 1 := ⟨by decide +kernel, rfl⟩
theorem dX7_set_43 : dI cX7_set 43 44 (.iadd) 1 := ⟨by decide +kernel, rfl⟩
theorem dX7_set_44 : dI cX7_set 44 45 (.iload_n 2) 1 := ⟨by decide +kernel, rfl⟩
theorem dX7_set_45 : dI cX7_set 45 46 (.iadd) 1 := ⟨by decide +kernel, rfl⟩
theorem dX7_set_46 : dI cX7_set 46 47 (.iload_n 3) 1 := ⟨by decide +kernel, rfl⟩
theorem dX7_set_47 : decode cX7_set 47 = .ok (.invokevirtual 103, 3) := by decide +kernel
theorem dX7_set_50 : decode cX7_set 50 = .ok (.goto 5, 3) := by decide +kernel
theorem dX7_set_53 : dI cX7_set 53 55 (.ldc 87) 2 := ⟨by decide +kernel, rfl⟩
theorem dX7_set_55 : dI cX7_set 55 56 (.ireturn) 1 := ⟨by decide +kernel, rfl⟩
def f_X7_set_b31 (l0 : Nat) (l1 : Int32) (l2 : Int32) (l3 : Int32) (t0 : Int32) (t1 : Int32) (t2 : Int32) (s : hS) : Option (Int32 × hS) :=
  (f_X7_in s t0 t1 t2).bind fun p1 =>
  if p1.1 = 0 then
    some ((-1000000001 : Int32), p1.2)
  else
    (cV p1.2 l0 7 (f_X7_becomes p1.2 l0 (((8 : Int32) + ((2 : Int32) * l1)) + l2) l3)).bind fun p2 =>
    some (p2.1, p2.2)
theorem b_X7_set_31 (E : jE)  (s : hS) (l0 : Nat) (l1 : Int32) (l2 : Int32) (l3 : Int32) (t0 : Int32) (t1 : Int32) (t2 : Int32) : Jo E M_X7_set cvI 31 [(0, .ref l0), (1, .int l1), (2, .int l2), (3, .int l3)] [.int t2, .int t1, .int t0] s (f_X7_set_b31  l0 l1 l2 l3 t0 t1 t2 s) := by
  unfold f_X7_set_b31
  refine Jo_callSi (rest := []) [.int t0, .int t1, .int t2] yF_X7_in yS_X7_in w_635 rfl rfl ⟨Nat.le_of_ble_eq_true rfl, Nat.le_of_ble_eq_true rfl, Nat.le_of_ble_eq_true rfl⟩ dX7_set_31 rfl (K_X7_in E s t0 t1 t2) (fun p1 => ?_)
  refine Jo_if_eq 53 dX7_set_34 (by decide) rfl ?_ ?_
  · refine Jo_ldc dX7_set_53 w_673 ?_
    exact Jo_iret rfl dX7_set_55
  · refine Jo_aloadn 0 dX7_set_37 rfl rfl ?_
    refine Jo_bipush (v := (8 : Int32)) dX7_set_38 (by decide) ?_
    refine Jo_iconst (v := (2 : Int32)) dX7_set_40 (by decide) ?_
    refine Jo_iloadn 1 dX7_set_41 rfl rfl ?_
    refine Jo_imul dX7_set_42 ?_
    refine Jo_iadd dX7_set_43 ?_
    refine Jo_iloadn 2 dX7_set_44 rfl rfl ?_
    refine Jo_iadd dX7_set_45 ?_
    refine Jo_iloadn 3 dX7_set_46 rfl rfl ?_
    refine Jo_callVi (a := l0) (rest := []) [.int (((8 : Int32) + ((2 : Int32) * l1)) + l2), .int l3] cc_7 yF_X7_becomes yV_X7_becomes w_687 rfl rfl ⟨Nat.le_of_ble_eq_true rfl, Nat.le_of_ble_eq_true rfl, Nat.le_of_ble_eq_true rfl⟩ dX7_set_47 rfl (K_X7_becomes E p1.2 l0 (((8 : Int32) + ((2 : Int32) * l1)) + l2) l3) (fun p2 => ?_)
    refine Jo_goto 55 dX7_set_50 (by decide) ?_
    exact Jo_iret rfl dX7_set_55
def f_X7_set (s : hS) (a0 : Nat) (i1 : Int32) (i2 : Int32) (i3 : Int32) : Option (Int32 × hS) :=
  (cV s a0 7 (f_X7_isFact s a0 i1)).bind fun p1 =>
  if p1.1 = 0 then
    some ((-1000000001 : Int32), p1.2)
  else
    (f_X7_in p1.2 i2 (0 : Int32) (1 : Int32)).bind fun p2 =>
    if p2.1 = 0 then
      some ((-1000000001 : Int32), p2.2)
    else
      if i2 = 0 then
        f_X7_set_b31 a0 i1 i2 i3 i3 (0 : Int32) (99 : Int32) p2.2
      else
        f_X7_set_b31 a0 i1 i2 i3 i3 (0 : Int32) (999 : Int32) p2.2
theorem b_X7_set_in (E : jE)  (s : hS) (a0 : Nat) (i1 : Int32) (i2 : Int32) (i3 : Int32)  : Jo E M_X7_set cvI 0 [(0, .ref a0), (1, .int i1), (2, .int i2), (3, .int i3)] [] s (f_X7_set s a0 i1 i2 i3) := by
  unfold f_X7_set
  refine Jo_aloadn 0 dX7_set_0 rfl rfl ?_
  refine Jo_iloadn 1 dX7_set_1 rfl rfl ?_
  refine Jo_callVi (a := a0) (rest := []) [.int i1] cc_7 yF_X7_isFact yV_X7_isFact w_683 rfl rfl ⟨Nat.le_of_ble_eq_true rfl, Nat.le_of_ble_eq_true rfl, Nat.le_of_ble_eq_true rfl⟩ dX7_set_2 rfl (K_X7_isFact E s a0 i1) (fun p1 => ?_)
  refine Jo_if_eq 53 dX7_set_5 (by decide) rfl ?_ ?_
  · refine Jo_ldc dX7_set_53 w_673 ?_
    exact Jo_iret rfl dX7_set_55
  · refine Jo_iloadn 2 dX7_set_8 rfl rfl ?_
    refine Jo_iconst (v := (0 : Int32)) dX7_set_9 (by decide) ?_
    refine Jo_iconst (v := (1 : Int32)) dX7_set_10 (by decide) ?_
    refine Jo_callSi (rest := []) [.int i2, .int (0 : Int32), .int (1 : Int32)] yF_X7_in yS_X7_in w_635 rfl rfl ⟨Nat.le_of_ble_eq_true rfl, Nat.le_of_ble_eq_true rfl, Nat.le_of_ble_eq_true rfl⟩ dX7_set_11 rfl (K_X7_in E p1.2 i2 (0 : Int32) (1 : Int32)) (fun p2 => ?_)
    refine Jo_if_eq 53 dX7_set_14 (by decide) rfl ?_ ?_
    · refine Jo_ldc dX7_set_53 w_673 ?_
      exact Jo_iret rfl dX7_set_55
    · refine Jo_iloadn 3 dX7_set_17 rfl rfl ?_
      refine Jo_iconst (v := (0 : Int32)) dX7_set_18 (by decide) ?_
      refine Jo_iloadn 2 dX7_set_19 rfl rfl ?_
      refine Jo_if_ne 28 dX7_set_20 (by decide) rfl ?_ ?_
      · refine Jo_bipush (v := (99 : Int32)) dX7_set_23 (by decide) ?_
        refine Jo_goto 31 dX7_set_25 (by decide) ?_
        exact b_X7_set_31 E p2.2 a0 i1 i2 i3 i3 (0 : Int32) (99 : Int32)
      · refine Jo_sipush (v := (999 : Int32)) dX7_set_28 (by decide) ?_
        exact b_X7_set_31 E p2.2 a0 i1 i2 i3 i3 (0 : Int32) (999 : Int32)
theorem K_X7_set (E : jE) (s : hS) (a0 : Nat) (i1 : Int32) (i2 : Int32) (i3 : Int32) : jK E yX7_set M_X7_set cvI [.ref a0, .int i1, .int i2, .int i3] s (f_X7_set s a0 i1 i2 i3) := jK_of ⟨by decide, rfl, rfl⟩ (Nat.le_of_ble_eq_true rfl) (b_X7_set_in E s a0 i1 i2 i3)
