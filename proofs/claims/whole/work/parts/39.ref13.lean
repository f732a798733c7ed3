/-! HeronTalkModel.reads(I)I -/
abbrev M_X7_reads : jM := (RX7, cX7_reads, 4, (some .int), "reads", 2, 43)
theorem yF_X7_reads : yF yX7_reads M_X7_reads 1 := ⟨w_943, w_624, by decide +kernel⟩
theorem yV_X7_reads : Cond.instanceMethod yX7_reads ∈ tbG ∧ Cond.selects yX7_reads.cls yX7_reads yX7_reads ∈ tbG := ⟨w_944, w_945⟩
theorem dX7_reads_0 : dI cX7_reads 0 1 (.iload_n 1) 1 := ⟨by decide +kernel, rfl⟩
theorem dX7_reads_1 : decode cX7_reads 1 = .ok (.invokestatic 278, 3) := by decide +kernel
theorem dX7_reads_4 : decode cX7_reads 4 = .ok (.ifCond .ne 6, 3) := by decide +kernel
theorem dX7_reads_7 : dI cX7_reads 7 9 (.ldc 87) 2 := ⟨by decide +kernel, rfl⟩
theorem dX7_reads_9 : dI cX7_reads 9 10 (.ireturn) 1 := ⟨by decide +kernel, rfl⟩
theorem dX7_reads_10 : dI cX7_reads 10 11 (.aload_n 0) 1 := ⟨by decide +kernel, rfl⟩
theorem dX7_reads_11 : dI cX7_reads 11 14 (.getfield 51) 3 := ⟨by decide +kernel, rfl⟩
theorem dX7_reads_14 : dI cX7_reads 14 15 (.iload_n 1) 1 := ⟨by decide +kernel, rfl⟩
theorem dX7_reads_15 : dI cX7_reads 15 16 (.iaload) 1 := ⟨by decide +kernel, rfl⟩
theorem dX7_reads_16 : decode cX7_reads 16 = .ok (.ifCond .ge 7, 3) := by decide +kernel
theorem dX7_reads_19 : dI cX7_reads 19 22 (.ldc_w 282) 3 := ⟨by decide +kernel, rfl⟩
theorem dX7_reads_22 : dI cX7_reads 22 23 (.ireturn) 1 := ⟨by decide +kernel, rfl⟩
theorem dX7_reads_23 : dI cX7_reads 23 24 (.iconst 0) 1 := ⟨by decide +kernel, rfl⟩
theorem dX7_reads_24 : dI cX7_reads 24 25 (.istore_n 2) 1 := ⟨by decide +kernel, rfl⟩
theorem dX7_reads_25 : dI cX7_reads 25 26 (.iload_n 2) 1 := ⟨by decide +kernel, rfl⟩
theorem dX7_reads_26 : dI cX7_reads 26 27 (.aload_n 0) 1 := ⟨by decide +kernel, rfl⟩
theorem dX7_reads_27 : dI cX7_reads 27 30 (.getfield 54) 3 := ⟨by decide +kernel, rfl⟩
theorem dX7_reads_30 : dI cX7_reads 30 31 (.iload_n 1) 1 := ⟨by decide +kernel, rfl⟩
theorem dX7_reads_31 : dI cX7_reads 31 32 (.iaload) 1 := ⟨by decide +kernel, rfl⟩
theorem dX7_reads_32 : decode cX7_reads 32 = .ok (.if_icmp .ge 49, 3) := by decide +kernel
theorem dX7_reads_35 : dI cX7_reads 35 36 (.aload_n 0) 1 := ⟨by decide +kernel, rfl⟩
theorem dX7_reads_36 : dI cX7_reads 36 39 (.getfield 57) 3 := ⟨by decide +kernel, rfl⟩
theorem dX7_reads_39 : dI cX7_reads 39 41 (.bipush 24) 2 := ⟨by decide +kernel, rfl⟩
theorem dX7_reads_41 : dI cX7_reads 41 42 (.iload_n 1) 1 := ⟨by decide +kernel, rfl⟩
theorem dX7_reads_42 : dI cX7_reads 42 43 (.imul) 1 := ⟨by decide +kernel, rfl⟩
theorem dX7_reads_43 : dI cX7_reads 43 44 (.iload_n 2) 1 := ⟨by decide +kernel, rfl⟩
theorem dX7_reads_44 : dI cX7_reads 44 45 (.iadd) 1 := ⟨by decide +kernel, rfl⟩
theorem dX7_reads_45 : dI cX7_reads 45 46 (.iaload) 1 := ⟨by decide +kernel, rfl⟩
theorem dX7_reads_46 : dI cX7_reads 46 47 (.istore_n 3) 1 := ⟨by decide +kernel, rfl⟩
theorem dX7_reads_47 : dI cX7_reads 47 48 (.iload_n 3) 1 := ⟨by decide +kernel, rfl⟩
theorem dX7_reads_48 : dI cX7_reads 48 50 (.ldc 78) 2 := ⟨by decide +kernel, rfl⟩
theorem dX7_reads_50 : decode cX7_reads 50 = .ok (.if_icmp .eq 25, 3) := by decide +kernel
theorem dX7_reads_53 : dI cX7_reads 53 54 (.aload_n 0) 1 := ⟨by decide +kernel, rfl⟩
theorem dX7_reads_54 : dI cX7_reads 54 55 (.iload_n 2) 1 := ⟨by decide +kernel, rfl⟩
theorem dX7_reads_55 : decode cX7_reads 55 = .ok (.invokevirtual 110, 3) := by decide +kernel
theorem dX7_reads_58 : decode cX7_reads 58 = .ok (.ifCond .eq 15, 3) := by decide +kernel
theorem dX7_reads_61 : dI cX7_reads 61 62 (.iload_n 3) 1 := ⟨by decide +kernel, rfl⟩
theorem dX7_reads_62 : dI cX7_reads 62 63 (.aload_n 0) 1 := ⟨by decide +kernel, rfl⟩
theorem dX7_reads_63 : dI cX7_reads 63 64 (.iload_n 2) 1 := ⟨by decide +kernel, rfl⟩
theorem dX7_reads_64 : decode cX7_reads 64 = .ok (.invokevirtual 83, 3) := by decide +kernel
theorem dX7_reads_67 : decode cX7_reads 67 = .ok (.invokestatic 132, 3) := by decide +kernel
theorem dX7_reads_70 : decode cX7_reads 70 = .ok (.if_icmp .eq 5, 3) := by decide +kernel
theorem dX7_reads_73 : dI cX7_reads 73 74 (.iload_n 2) 1 := ⟨by decide +kernel, rfl⟩
theorem dX7_reads_74 : dI cX7_reads 74 75 (.ireturn) 1 := ⟨by decide +kernel, rfl⟩
theorem dX7_reads_75 : dI cX7_reads 75 78 (.iinc 2 1) 3 := ⟨by decide +kernel, rfl⟩
theorem dX7_reads_78 : decode cX7_reads 78 = .ok (.goto (-53), 3) := by decide +kernel
theorem dX7_reads_81 : dI cX7_reads 81 83 (.ldc 78) 2 := ⟨by decide +kernel, rfl⟩
theorem dX7_reads_83 : dI cX7_reads 83 84 (.ireturn) 1 := ⟨by decide +kernel, rfl⟩
def f_X7_reads_b75 (k25 : Nat → Int32 → Int32 → hS → Option (Int32 × hS)) (l0 : Nat) (l1 : Int32) (l2 : Int32) (s : hS) : Option (Int32 × hS) :=
  k25 l0 l1 (l2 + (1 : Int32)) s
theorem b_X7_reads_75 (E : jE) (k25 : Nat → Int32 → Int32 → hS → Option (Int32 × hS)) (h25 : ∀ (s : hS) (l0 : Nat) (l1 : Int32) (l2 : Int32) , Jo E M_X7_reads cvI 25 [(0, .ref l0), (1, .int l1), (2, .int l2)] [] s (k25 l0 l1 l2 s)) (s : hS) (l0 : Nat) (l1 : Int32) (l2 : Int32)  : Jo E M_X7_reads cvI 75 [(0, .ref l0), (1, .int l1), (2, .int l2)] [] s (f_X7_reads_b75 k25 l0 l1 l2 s) := by
  unfold f_X7_reads_b75
  refine Jo_iinc (v := (l2 + (1 : Int32))) (ls' := [(2, .int (l2 + (1 : Int32))), (0, .ref l0), (1, .int l1)]) 2 dX7_reads_75 rfl rfl (by decide) rfl ?_
  refine Jo_goto 25 dX7_reads_78 (by decide) ?_
  refine Jo_sub [1, 2, 0] rfl ?_
  exact h25 s l0 l1 (l2 + (1 : Int32))
def f_X7_reads_b25 (k25 : Nat → Int32 → Int32 → hS → Option (Int32 × hS)) (l0 : Nat) (l1 : Int32) (l2 : Int32) (s : hS) : Option (Int32 × hS) :=
  (gR s l0 7 25).bind fun a1 =>
  (aI s a1 10 l1).bind fun x2 =>
  if x2 ≤ l2 then
    some ((-1000000005 : Int32), s)
  else
    (gR s l0 7 26).bind fun a3 =>
    (aI s a3 10 (((24 : Int32) * l1) + l2)).bind fun x4 =>
    if x4 = (-1000000005 : Int32) then
      f_X7_reads_b75 k25 l0 l1 l2 s
    else
      (cV s l0 7 (f_X7_isPerson s l0 l2)).bind fun p5 =>
      if p5.1 = 0 then
        some (l2, p5.2)
      else
        (cV p5.2 l0 7 (f_X7_knownTo p5.2 l0 l2)).bind fun p6 =>
        (f_X7_bitsOf p6.2 p6.1).bind fun p7 =>
        if x4 = p7.1 then
          f_X7_reads_b75 k25 l0 l1 l2 p7.2
        else
          some (l2, p7.2)
theorem b_X7_reads_25 (E : jE) (k25 : Nat → Int32 → Int32 → hS → Option (Int32 × hS)) (h25 : ∀ (s : hS) (l0 : Nat) (l1 : Int32) (l2 : Int32) , Jo E M_X7_reads cvI 25 [(0, .ref l0), (1, .int l1), (2, .int l2)] [] s (k25 l0 l1 l2 s)) (s : hS) (l0 : Nat) (l1 : Int32) (l2 : Int32)  : Jo E M_X7_reads cvI 25 [(0, .ref l0), (1, .int l1), (2, .int l2)] [] s (f_X7_reads_b25 k25 l0 l1 l2 s) := by
  unfold f_X7_reads_b25
  refine Jo_iloadn 2 dX7_reads_25 rfl rfl ?_
  refine Jo_aloadn 0 dX7_reads_26 rfl rfl ?_
  refine Jo_getR fF_7_25 fR_7_25 dX7_reads_27 w_606 (fun a1 => ?_)
  refine Jo_iloadn 1 dX7_reads_30 rfl rfl ?_
  refine Jo_iaload dX7_reads_31 (fun x2 => ?_)
  refine Jo_icmp_ge 81 dX7_reads_32 (by decide) rfl ?_ ?_
  · refine Jo_ldc dX7_reads_81 w_632 ?_
    exact Jo_iret rfl dX7_reads_83
  · refine Jo_aloadn 0 dX7_reads_35 rfl rfl ?_
    refine Jo_getR fF_7_26 fR_7_26 dX7_reads_36 w_605 (fun a3 => ?_)
    refine Jo_bipush (v := (24 : Int32)) dX7_reads_39 (by decide) ?_
    refine Jo_iloadn 1 dX7_reads_41 rfl rfl ?_
    refine Jo_imul dX7_reads_42 ?_
    refine Jo_iloadn 2 dX7_reads_43 rfl rfl ?_
    refine Jo_iadd dX7_reads_44 ?_
    refine Jo_iaload dX7_reads_45 (fun x4 => ?_)
    refine Jo_istoren (ls' := [(3, .int x4), (0, .ref l0), (1, .int l1), (2, .int l2)]) dX7_reads_46 rfl (by decide) rfl ?_
    refine Jo_iloadn 0 dX7_reads_47 rfl rfl ?_
    refine Jo_ldc dX7_reads_48 w_632 ?_
    refine Jo_icmp_eq 75 dX7_reads_50 (by decide) rfl ?_ ?_
    · refine Jo_sub [1, 2, 3] rfl ?_
      exact b_X7_reads_75 E k25 h25 s l0 l1 l2
    · refine Jo_aloadn 1 dX7_reads_53 rfl rfl ?_
      refine Jo_iloadn 3 dX7_reads_54 rfl rfl ?_
      refine Jo_callVi (a := l0) (rest := []) [.int l2] cc_7 yF_X7_isPerson yV_X7_isPerson w_704 rfl rfl ⟨Nat.le_of_ble_eq_true rfl, Nat.le_of_ble_eq_true rfl, Nat.le_of_ble_eq_true rfl⟩ dX7_reads_55 rfl (K_X7_isPerson E s l0 l2) (fun p5 => ?_)
      refine Jo_if_eq 73 dX7_reads_58 (by decide) rfl ?_ ?_
      · refine Jo_iloadn 3 dX7_reads_73 rfl rfl ?_
        exact Jo_iret rfl dX7_reads_74
      · refine Jo_iloadn 0 dX7_reads_61 rfl rfl ?_
        refine Jo_aloadn 1 dX7_reads_62 rfl rfl ?_
        refine Jo_iloadn 3 dX7_reads_63 rfl rfl ?_
        refine Jo_callVi (a := l0) (rest := [.int x4]) [.int l2] cc_7 yF_X7_knownTo yV_X7_knownTo w_665 rfl rfl ⟨Nat.le_of_ble_eq_true rfl, Nat.le_of_ble_eq_true rfl, Nat.le_of_ble_eq_true rfl⟩ dX7_reads_64 rfl (K_X7_knownTo E p5.2 l0 l2) (fun p6 => ?_)
        refine Jo_callSi (rest := [.int x4]) [.int p6.1] yF_X7_bitsOf yS_X7_bitsOf w_727 rfl rfl ⟨Nat.le_of_ble_eq_true rfl, Nat.le_of_ble_eq_true rfl, Nat.le_of_ble_eq_true rfl⟩ dX7_reads_67 rfl (K_X7_bitsOf E p6.2 p6.1) (fun p7 => ?_)
        refine Jo_icmp_eq 75 dX7_reads_70 (by decide) rfl ?_ ?_
        · refine Jo_sub [1, 2, 3] rfl ?_
          exact b_X7_reads_75 E k25 h25 p7.2 l0 l1 l2
        · refine Jo_iloadn 3 dX7_reads_73 rfl rfl ?_
          exact Jo_iret rfl dX7_reads_74
theorem e_X7_reads_25 (E : jE)  (n : Nat) : ∀ (s : hS) (l0 : Nat) (l1 : Int32) (l2 : Int32) , Jo E M_X7_reads cvI 25 [(0, .ref l0), (1, .int l1), (2, .int l2)] [] s ((jL f_X7_reads_b25 (fun _ _ _ _ => none) n) l0 l1 l2 s) :=
  jL_ind (P := fun f => ∀ (s : hS) (l0 : Nat) (l1 : Int32) (l2 : Int32) , Jo E M_X7_reads cvI 25 [(0, .ref l0), (1, .int l1), (2, .int l2)] [] s (f l0 l1 l2 s)) (fun _ _ _ _ => Jo_none) (fun b hb s l0 l1 l2 => b_X7_reads_25 E  b hb s l0 l1 l2) n
def f_X7_reads (s : hS) (a0 : Nat) (i1 : Int32) : Option (Int32 × hS) :=
  (f_X7_isSheet s i1).bind fun p1 =>
  if p1.1 = 0 then
    some ((-1000000001 : Int32), p1.2)
  else
    (gR p1.2 a0 7 24).bind fun a2 =>
    (aI p1.2 a2 10 i1).bind fun x3 =>
    if 0 ≤ x3 then
      jL f_X7_reads_b25 (fun _ _ _ _ => none) jF a0 i1 (0 : Int32) p1.2
    else
      some ((-1000000011 : Int32), p1.2)
theorem b_X7_reads_in (E : jE)  (s : hS) (a0 : Nat) (i1 : Int32)  : Jo E M_X7_reads cvI 0 [(0, .ref a0), (1, .int i1)] [] s (f_X7_reads s a0 i1) := by
  unfold f_X7_reads
  refine Jo_iloadn 1 dX7_reads_0 rfl rfl ?_
  refine Jo_callSi (rest := []) [.int i1] yF_X7_isSheet yS_X7_isSheet w_929 rfl rfl ⟨Nat.le_of_ble_eq_true rfl, Nat.le_of_ble_eq_true rfl, Nat.le_of_ble_eq_true rfl⟩ dX7_reads_1 rfl (K_X7_isSheet E s i1) (fun p1 => ?_)
  refine Jo_if_ne 10 dX7_reads_4 (by decide) rfl ?_ ?_
  · refine Jo_ldc dX7_reads_7 w_673 ?_
    exact Jo_iret rfl dX7_reads_9
  · refine Jo_aloadn 0 dX7_reads_10 rfl rfl ?_
    refine Jo_getR fF_7_24 fR_7_24 dX7_reads_11 w_607 (fun a2 => ?_)
    refine Jo_iloadn 1 dX7_reads_14 rfl rfl ?_
    refine Jo_iaload dX7_reads_15 (fun x3 => ?_)
    refine Jo_if_ge 23 dX7_reads_16 (by decide) rfl ?_ ?_
    · refine Jo_iconst (v := (0 : Int32)) dX7_reads_23 (by decide) ?_
      refine Jo_istoren (ls' := [(2, .int (0 : Int32)), (0, .ref a0), (1, .int i1)]) dX7_reads_24 rfl (by decide) rfl ?_
      refine Jo_sub [1, 2, 0] rfl ?_
      exact e_X7_reads_25 E jF p1.2 a0 i1 (0 : Int32)
    · refine Jo_ldcw dX7_reads_19 w_936 ?_
      exact Jo_iret rfl dX7_reads_22
theorem K_X7_reads (E : jE) (s : hS) (a0 : Nat) (i1 : Int32) : jK E yX7_reads M_X7_reads cvI [.ref a0, .int i1] s (f_X7_reads s a0 i1) := jK_of ⟨by decide, rfl, rfl⟩ (Nat.le_of_ble_eq_true rfl) (b_X7_reads_in E s a0 i1)
/-! HeronTalkModel.copy(IIIII)I -/
abbrev M_X7_copy : jM := (RX7, cX7_copy, 7, (some .int), "copy", 2, 42)
theorem yF_X7_copy : yF yX7_copy M_X7_copy 5 := ⟨w_946, w_624, by decide +kernel⟩
theorem yV_X7_copy : Cond.instanceMethod yX7_copy ∈ tbG ∧ Cond.selects yX7_copy.cls yX7_copy yX7_copy ∈ tbG := ⟨w_947, w_948⟩
theorem dX7_copy_0 : dI cX7_copy 0 1 (.iload_n 1) 1 := ⟨by decide +kernel, rfl⟩
theorem dX7_copy_1 : decode cX7_copy 1 = .ok (.invokestatic 278, 3) := by decide +kernel
theorem dX7_copy_4 : decode cX7_copy 4 = .ok (.ifCond .eq 10, 3) := by decide +kernel
theorem dX7_copy_7 : dI cX7_copy 7 8 (.iload_n 3) 1 := ⟨by decide +kernel, rfl⟩
theorem dX7_copy_8 : decode cX7_copy 8 = .ok (.invokestatic 278, 3) := by decide +kernel
theorem dX7_copy_11 : decode cX7_copy 11 = .ok (.ifCond .ne 6, 3) := by decide +kernel
theorem dX7_copy_14 : dI cX7_copy 14 16 (.ldc 87) 2 := ⟨by decide +kernel, rfl⟩
theorem dX7_copy_16 : dI cX7_copy 16 17 (.ireturn) 1 := ⟨by decide +kernel, rfl⟩
theorem dX7_copy_17 : dI cX7_copy 17 18 (.aload_n 0) 1 := ⟨by decide +kernel, rfl⟩
theorem dX7_copy_18 : dI cX7_copy 18 21 (.getfield 51) 3 := ⟨by decide +kernel, rfl⟩
theorem dX7_copy_21 : dI cX7_copy 21 22 (.iload_n 1) 1 := ⟨by decide +kernel, rfl⟩
theorem dX7_copy_22 : dI cX7_copy 22 23 (.iaload) 1 := ⟨by decide +kernel, rfl⟩
theorem dX7_copy_23 : decode cX7_copy 23 = .ok (.ifCond .lt 12, 3) := by decide +kernel
theorem dX7_copy_26 : dI cX7_copy 26 27 (.aload_n 0) 1 := ⟨by decide +kernel, rfl⟩
theorem dX7_copy_27 : dI cX7_copy 27 30 (.getfield 51) 3 := ⟨by decide +kernel, rfl⟩
theorem dX7_copy_30 : dI cX7_copy 30 31 (.iload_n 3) 1 := ⟨by decide +kernel, rfl⟩
theorem dX7_copy_31 : dI cX7_copy 31 32 (.iaload) 1 := ⟨by decide +kernel, rfl⟩
theorem dX7_copy_32 : decode cX7_copy 32 = .ok (.ifCond .ge 7, 3) := by decide +kernel
theorem dX7_copy_35 : dI cX7_copy 35 38 (.ldc_w 282) 3 := ⟨by decide +kernel, rfl⟩
theorem dX7_copy_38 : dI cX7_copy 38 39 (.ireturn) 1 := ⟨by decide +kernel, rfl⟩
theorem dX7_copy_39 : dI cX7_copy 39 40 (.aload_n 0) 1 := ⟨by decide +kernel, rfl⟩
theorem dX7_copy_40 : dI cX7_copy 40 43 (.getfield 51) 3 := ⟨by decide +kernel, rfl⟩
theorem dX7_copy_43 : dI cX7_copy 43 44 (.iload_n 1) 1 := ⟨by decide +kernel, rfl⟩
theorem dX7_copy_44 : dI cX7_copy 44 45 (.iaload) 1 := ⟨by decide +kernel, rfl⟩
theorem dX7_copy_45 : dI cX7_copy 45 46 (.aload_n 0) 1 := ⟨by decide +kernel, rfl⟩
theorem dX7_copy_46 : dI cX7_copy 46 49 (.getfield 51) 3 := ⟨by decide +kernel, rfl⟩
theorem dX7_copy_49 : dI cX7_copy 49 50 (.iload_n 3) 1 := ⟨by decide +kernel, rfl⟩
theorem dX7_copy_50 : dI cX7_copy 50 51 (.iaload) 1 := ⟨by decide +kernel, rfl⟩
theorem dX7_copy_51 : decode cX7_copy 51 = .ok (.if_icmp .eq 6, 3) := by decide +kernel
theorem dX7_copy_54 : dI cX7_copy 54 56 (.ldc 179) 2 := ⟨by decide +kernel, rfl⟩
theorem dX7_copy_56 : dI cX7_copy 56 57 (.ireturn) 1 := ⟨by decide +kernel, rfl⟩
theorem dX7_copy_57 : dI cX7_copy 57 58 (.iload_n 2) 1 := ⟨by decide +kernel, rfl⟩
theorem dX7_copy_58 : decode cX7_copy 58 = .ok (.ifCond .lt 40, 3) := by decide +kernel
theorem dX7_copy_61 : dI cX7_copy 61 63 (.iload 4) 2 := ⟨by decide +kernel, rfl⟩
theorem dX7_copy_63 : decode cX7_copy 63 = .ok (.ifCond .lt 35, 3) := by decide +kernel
theorem dX7_copy_66 : dI cX7_copy 66 68 (.iload 5) 2 := ⟨by decide +kernel, rfl⟩
theorem dX7_copy_68 : decode cX7_copy 68 = .ok (.ifCond .lt 30, 3) := by decide +kernel
theorem dX7_copy_71 : dI cX7_copy 71 72 (.iload_n 2) 1 := ⟨by decide +kernel, rfl⟩
theorem dX7_copy_72 : dI cX7_copy 72 73 (.aload_n 0) 1 := ⟨by decide +kernel, rfl⟩
theorem dX7_copy_73 : dI cX7_copy 73 76 (.getfield 54) 3 := ⟨by decide +kernel, rfl⟩
theorem dX7_copy_76 : dI cX7_copy 76 77 (.iload_n 1) 1 := ⟨by decide +kernel, rfl⟩
theorem dX7_copy_77 : dI cX7_copy 77 78 (.iaload) 1 := ⟨by decide +kernel, rfl⟩
theorem dX7_copy_78 : dI cX7_copy 78 80 (.iload 5) 2 := ⟨by decide +kernel, rfl⟩
theorem dX7_copy_80 : dI cX7_copy 80 81 (.isub) 1 := ⟨by decide +kernel, rfl⟩
theorem dX7_copy_81 : decode cX7_copy 81 = .ok (.if_icmp .gt 17, 3) := by decide +kernel
theorem dX7_copy_84 : dI cX7_copy 84 86 (.iload 4) 2 := ⟨by decide +kernel, rfl⟩
theorem dX7_copy_86 : dI cX7_copy 86 87 (.aload_n 0) 1 := ⟨by decide +kernel, rfl⟩
theorem dX7_copy_87 : dI cX7_copy 87 90 (.getfield 54) 3 := ⟨by decide +kernel, rfl⟩
theorem dX7_copy_90 : dI cX7_copy 90 91 (.iload_n 3) 1 := ⟨by decide +kernel, rfl⟩
theorem dX7_copy_91 : dI cX7_copy 91 92 (.iaload) 1 := ⟨by decide +kernel, rfl⟩
theorem dX7_copy_92 : dI cX7_copy 92 94 (.iload 5) 2 := ⟨by decide +kernel, rfl⟩
theorem dX7_copy_94 : dI cX7_copy 94 95 (.isub) 1 := ⟨by decide +kernel, rfl⟩
theorem dX7_copy_95 : decode cX7_copy 95 = .ok (.if_icmp .le 7, 3) := by decide +kernel
theorem dX7_copy_98 : dI cX7_copy 98 101 (.ldc_w 283) 3 := ⟨by decide +kernel, rfl⟩
theorem dX7_copy_101 : dI cX7_copy 101 102 (.ireturn) 1 := ⟨by decide +kernel, rfl⟩
theorem dX7_copy_102 : dI cX7_copy 102 103 (.iconst 0) 1 := ⟨by decide +kernel, rfl⟩
theorem dX7_copy_103 : dI cX7_copy 103 105 (.istore 6) 2 := ⟨by decide +kernel, rfl⟩
theorem dX7_copy_105 : dI cX7_copy 105 107 (.iload 6) 2 := ⟨by decide +kernel, rfl⟩
theorem dX7_copy_107 : dI cX7_copy 107 109 (.iload 5) 2 := ⟨by decide +kernel, rfl⟩
theorem dX7_copy_109 : decode cX7_copy 109 = .ok (.if_icmp .ge 30, 3) := by decide +kernel
theorem dX7_copy_112 : dI cX7_copy 112 113 (.aload_n 0) 1 := ⟨by decide +kernel, rfl⟩
theorem dX7_copy_113 : dI cX7_copy 113 116 (.getfield 72) 3 := ⟨by decide +kernel, rfl⟩
theorem dX7_copy_116 : dI cX7_copy 116 118 (.iload 6) 2 := ⟨by decide +kernel, rfl⟩
theorem dX7_copy_118 : dI cX7_copy 118 119 (.aload_n 0) 1 := ⟨by decide +kernel, rfl⟩
theorem dX7_copy_119 : dI cX7_copy 119 122 (.getfield 57) 3 := ⟨by decide +kernel, rfl⟩
theorem dX7_copy_122 : dI cX7_copy 122 124 (.bipush 24) 2 := ⟨by decide +kernel, rfl⟩
theorem dX7_copy_124 : dI cX7_copy 124 125 (.iload_n 1) 1 := ⟨by decide +kernel, rfl⟩
theorem dX7_copy_125 : dI cX7_copy 125 126 (.imul) 1 := ⟨by decide +kernel, rfl⟩
theorem dX7_copy_126 : dI cX7_copy 126 127 (.iload_n 2) 1 := ⟨by decide +kernel, rfl⟩
theorem dX7_copy_127 : dI cX7_copy 127 128 (.iadd) 1 := ⟨by decide +kernel, rfl⟩
theorem dX7_copy_128 : dI cX7_copy 128 130 (.iload 6) 2 := ⟨by decide +kernel, rfl⟩
theorem dX7_copy_130 : dI cX7_copy 130 131 (.iadd) 1 := ⟨by decide +kernel, rfl⟩
theorem dX7_copy_131 : dI cX7_copy 131 132 (.iaload) 1 := ⟨by decide +kernel, rfl⟩
theorem dX7_copy_132 : dI cX7_copy 132 133 (.iastore) 1 := ⟨by decide +kernel, rfl⟩
theorem dX7_copy_133 : dI cX7_copy 133 136 (.iinc 6 1) 3 := ⟨by decide +kernel, rfl⟩
theorem dX7_copy_136 : decode cX7_copy 136 = .ok (.goto (-31), 3) := by decide +kernel
theorem dX7_copy_139 : dI cX7_copy 139 140 (.iconst 0) 1 := ⟨by decide +kernel, rfl⟩
theorem dX7_copy_140 : dI cX7_copy 140 142 (.istore 6) 2 := ⟨by decide +kernel, rfl⟩
theorem dX7_copy_142 : dI cX7_copy 142 144 (.iload 6) 2 := ⟨by decide +kernel, rfl⟩
theorem dX7_copy_144 : dI cX7_copy 144 146 (.iload 5) 2 := ⟨by decide +kernel, rfl⟩
theorem dX7_copy_146 : decode cX7_copy 146 = .ok (.if_icmp .ge 31, 3) := by decide +kernel
theorem dX7_copy_149 : dI cX7_copy 149 150 (.aload_n 0) 1 := ⟨by decide +kernel, rfl⟩
theorem dX7_copy_150 : dI cX7_copy 150 153 (.getfield 57) 3 := ⟨by decide +kernel, rfl⟩
theorem dX7_copy_153 : dI cX7_copy 153 155 (.bipush 24) 2 := ⟨by decide +kernel, rfl⟩
theorem dX7_copy_155 : dI cX7_copy 155 156 (.iload_n 3) 1 := ⟨by decide +kernel, rfl⟩
theorem dX7_copy_156 : dI cX7_copy 156 157 (.imul) 1 := ⟨by decide +kernel, rfl⟩
theorem dX7_copy_157 : dI cX7_copy 157 159 (.iload 4) 2 := ⟨by decide +kernel, rfl⟩
theorem dX7_copy_159 : dI cX7_copy 159 160 (.iadd) 1 := ⟨by decide +kernel, rfl⟩
theorem dX7_copy_160 : dI cX7_copy 160 162 (.iload 6) 2 := ⟨by decide +kernel, rfl⟩
theorem dX7_copy_162 : dI cX7_copy 162 163 (.iadd) 1 := ⟨by decide +kernel, rfl⟩
theorem dX7_copy_163 : dI cX7_copy 163 164 (.aload_n 0) 1 := ⟨by decide +kernel, rfl⟩
theorem dX7_copy_164 : dI cX7_copy 164 167 (.getfield 72) 3 := ⟨by decide +kernel, rfl⟩
theorem dX7_copy_167 : dI cX7_copy 167 169 (.iload 6) 2 := ⟨by decide +kernel, rfl⟩
theorem dX7_copy_169 : dI cX7_copy 169 170 (.iaload) 1 := ⟨by decide +kernel, rfl⟩
theorem dX7_copy_170 : dI cX7_copy 170 171 (.iastore) 1 := ⟨by decide +kernel, rfl⟩
theorem dX7_copy_171 : dI cX7_copy 171 174 (.iinc 6 1) 3 := ⟨by decide +kernel, rfl⟩
theorem dX7_copy_174 : decode cX7_copy 174 = .ok (.goto (-32), 3) := by decide +kernel
theorem dX7_copy_177 : dI cX7_copy 177 179 (.iload 5) 2 := ⟨by decide +kernel, rfl⟩
theorem dX7_copy_179 : dI cX7_copy 179 180 (.ireturn) 1 := ⟨by decide +kernel, rfl⟩
def f_X7_copy_b142 (k142 : Nat → Int32 → Int32 → Int32 → Int32 → hS → Option (Int32 × hS)) (l0 : Nat) (l3 : Int32) (l4 : Int32) (l5 : Int32) (l6 : Int32) (s : hS) : Option (Int32 × hS) :=
  if l5 ≤ l6 then
    some (l5, s)
  else
    (gR s l0 7 26).bind fun a1 =>
    (gR s l0 7 31).bind fun a2 =>
    (aI s a2 10 l6).bind fun x3 =>
    (sI s a1 10 ((((24 : Int32) * l3) + l4) + l6) x3).bind fun s4 =>
    k142 l0 l3 l4 l5 (l6 + (1 : Int32)) s4
theorem b_X7_copy_142 (E : jE) (k142 : Nat → Int32 → Int32 → Int32 → Int32 → hS → Option (Int32 × hS)) (h142 : ∀ (s : hS) (l0 : Nat) (l3 : Int32) (l4 : Int32) (l5 : Int32) (l6 : Int32) , Jo E M_X7_copy cvI 142 [(0, .ref l0), (3, .int l3), (4, .int l4), (5, .int l5), (6, .int l6)] [] s (k142 l0 l3 l4 l5 l6 s)) (s : hS) (l0 : Nat) (l3 : Int32) (l4 : Int32) (l5 : Int32) (l6 : Int32)  : Jo E M_X7_copy cvI 142 [(0, .ref l0), (3, .int l3), (4, .int l4), (5, .int l5), (6, .int l6)] [] s (f_X7_copy_b142 k142 l0 l3 l4 l5 l6 s) := by
  unfold f_X7_copy_b142
  refine Jo_iload 4 dX7_copy_142 rfl ?_
  refine Jo_iload 3 dX7_copy_144 rfl ?_
  refine Jo_icmp_ge 177 dX7_copy_146 (by decide) rfl ?_ ?_
  · refine Jo_iload 3 dX7_copy_177 rfl ?_
    exact Jo_iret rfl dX7_copy_179
  · refine Jo_aloadn 0 dX7_copy_149 rfl rfl ?_
    refine Jo_getR fF_7_26 fR_7_26 dX7_copy_150 w_605 (fun a1 => ?_)
    refine Jo_bipush (v := (24 : Int32)) dX7_copy_153 (by decide) ?_
    refine Jo_iloadn 1 dX7_copy_155 rfl rfl ?_
    refine Jo_imul dX7_copy_156 ?_
    refine Jo_iload 2 dX7_copy_157 rfl ?_
    refine Jo_iadd dX7_copy_159 ?_
    refine Jo_iload 4 dX7_copy_160 rfl ?_
    refine Jo_iadd dX7_copy_162 ?_
    refine Jo_aloadn 0 dX7_copy_163 rfl rfl ?_
    refine Jo_getR fF_7_31 fR_7_31 dX7_copy_164 w_600 (fun a2 => ?_)
    refine Jo_iload 4 dX7_copy_167 rfl ?_
    refine Jo_iaload dX7_copy_169 (fun x3 => ?_)
    refine Jo_iastore dX7_copy_170 (fun s4 => ?_)
    refine Jo_iinc (v := (l6 + (1 : Int32))) (ls' := [(6, .int (l6 + (1 : Int32))), (0, .ref l0), (3, .int l3), (4, .int l4), (5, .int l5)]) 4 dX7_copy_171 rfl rfl (by decide) rfl ?_
    refine Jo_goto 142 dX7_copy_174 (by decide) ?_
    refine Jo_sub [1, 2, 3, 4, 0] rfl ?_
    exact h142 s4 l0 l3 l4 l5 (l6 + (1 : Int32))
theorem e_X7_copy_142 (E : jE)  (n : Nat) : ∀ (s : hS) (l0 : Nat) (l3 : Int32) (l4 : Int32) (l5 : Int32) (l6 : Int32) , Jo E M_X7_copy cvI 142 [(0, .ref l0), (3, .int l3), (4, .int l4), (5, .int l5), (6, .int l6)] [] s ((jL f_X7_copy_b142 (fun _ _ _ _ _ _ => none) n) l0 l3 l4 l5 l6 s) :=
  jL_ind (P := fun f => ∀ (s : hS) (l0 : Nat) (l3 : Int32) (l4 : Int32) (l5 : Int32) (l6 : Int32) , Jo E M_X7_copy cvI 142 [(0, .ref l0), (3, .int l3), (4, .int l4), (5, .int l5), (6, .int l6)] [] s (f l0 l3 l4 l5 l6 s)) (fun _ _ _ _ _ _ => Jo_none) (fun b hb s l0 l3 l4 l5 l6 => b_X7_copy_142 E  b hb s l0 l3 l4 l5 l6) n
def f_X7_copy_b105 (k105 : Nat → Int32 → Int32 → Int32 → Int32 → Int32 → Int32 → hS → Option (Int32 × hS)) (l0 : Nat) (l1 : Int32) (l2 : Int32) (l3 : Int32) (l4 : Int32) (l5 : Int32) (l6 : Int32) (s : hS) : Option (Int32 × hS) :=
  if l5 ≤ l6 then
    jL f_X7_copy_b142 (fun _ _ _ _ _ _ => none) jF l0 l3 l4 l5 (0 : Int32) s
  else
    (gR s l0 7 31).bind fun a1 =>
    (gR s l0 7 26).bind fun a2 =>
    (aI s a2 10 ((((24 : Int32) * l1) + l2) + l6)).bind fun x3 =>
    (sI s a1 10 l6 x3).bind fun s4 =>
    k105 l0 l1 l2 l3 l4 l5 (l6 + (1 : Int32)) s4
theorem b_X7_copy_105 (E : jE) (k105 : Nat → Int32 → Int32 → Int32 → Int32 → Int32 → Int32 → hS → Option (Int32 × hS)) (h105 : ∀ (s : hS) (l0 : Nat) (l1 : Int32) (l2 : Int32) (l3 : Int32) (l4 : Int32) (l5 : Int32) (l6 : Int32) , Jo E M_X7_copy cvI 105 [(0, .ref l0), (1, .int l1), (2, .int l2), (3, .int l3), (4, .int l4), (5, .int l5), (6, .int l6)] [] s (k105 l0 l1 l2 l3 l4 l5 l6 s)) (s : hS) (l0 : Nat) (l1 : Int32) (l2 : Int32) (l3 : Int32) (l4 : Int32) (l5 : Int32) (l6 : Int32)  : Jo E M_X7_copy cvI 105 [(0, .ref l0), (1, .int l1), (2, .int l2), (3, .int l3), (4, .int l4), (5, .int l5), (6, .int l6)] [] s (f_X7_copy_b105 k105 l0 l1 l2 l3 l4 l5 l6 s) := by
  unfold f_X7_copy_b105
  refine Jo_iload 6 dX7_copy_105 rfl ?_
  refine Jo_iload 5 dX7_copy_107 rfl ?_
  refine Jo_icmp_ge 139 dX7_copy_109 (by decide) rfl ?_ ?_
  · refine Jo_iconst (v := (0 : Int32)) dX7_copy_139 (by decide) ?_
    refine Jo_istore (ls' := [(6, .int (0 : Int32)), (0, .ref l0), (1, .int l1), (2, .int l2), (3, .int l3), (4, .int l4), (5, .int l5)]) dX7_copy_140 (by decide) rfl ?_
    refine Jo_sub [1, 4, 5, 6, 0] rfl ?_
    exact e_X7_copy_142 E jF s l0 l3 l4 l5 (0 : Int32)
  · refine Jo_aloadn 0 dX7_copy_112 rfl rfl ?_
    refine Jo_getR fF_7_31 fR_7_31 dX7_copy_113 w_600 (fun a1 => ?_)
    refine Jo_iload 6 dX7_copy_116 rfl ?_
    refine Jo_aloadn 0 dX7_copy_118 rfl rfl ?_
    refine Jo_getR fF_7_26 fR_7_26 dX7_copy_119 w_605 (fun a2 => ?_)
    refine Jo_bipush (v := (24 : Int32)) dX7_copy_122 (by decide) ?_
    refine Jo_iloadn 1 dX7_copy_124 rfl rfl ?_
    refine Jo_imul dX7_copy_125 ?_
    refine Jo_iloadn 2 dX7_copy_126 rfl rfl ?_
    refine Jo_iadd dX7_copy_127 ?_
    refine Jo_iload 6 dX7_copy_128 rfl ?_
    refine Jo_iadd dX7_copy_130 ?_
    refine Jo_iaload dX7_copy_131 (fun x3 => ?_)
    refine Jo_iastore dX7_copy_132 (fun s4 => ?_)
    refine Jo_iinc (v := (l6 + (1 : Int32))) (ls' := [(6, .int (l6 + (1 : Int32))), (0, .ref l0), (1, .int l1), (2, .int l2), (3, .int l3), (4, .int l4), (5, .int l5)]) 6 dX7_copy_133 rfl rfl (by decide) rfl ?_
    refine Jo_goto 105 dX7_copy_136 (by decide) ?_
    refine Jo_sub [1, 2, 3, 4, 5, 6, 0] rfl ?_
    exact h105 s4 l0 l1 l2 l3 l4 l5 (l6 + (1 : Int32))
theorem e_X7_copy_105 (E : jE)  (n : Nat) : ∀ (s : hS) (l0 : Nat) (l1 : Int32) (l2 : Int32) (l3 : Int32) (l4 : Int32) (l5 : Int32) (l6 : Int32) , Jo E M_X7_copy cvI 105 [(0, .ref l0), (1, .int l1), (2, .int l2), (3, .int l3), (4, .int l4), (5, .int l5), (6, .int l6)] [] s ((jL f_X7_copy_b105 (fun _ _ _ _ _ _ _ _ => none) n) l0 l1 l2 l3 l4 l5 l6 s) :=
  jL_ind (P := fun f => ∀ (s : hS) (l0 : Nat) (l1 : Int32) (l2 : Int32) (l3 : Int32) (l4 : Int32) (l5 : Int32) (l6 : Int32) , Jo E M_X7_copy cvI 105 [(0, .ref l0), (1, .int l1), (2, .int l2), (3, .int l3), (4, .int l4), (5, .int l5), (6, .int l6)] [] s (f l0 l1 l2 l3 l4 l5 l6 s)) (fun _ _ _ _ _ _ _ _ => Jo_none) (fun b hb s l0 l1 l2 l3 l4 l5 l6 => b_X7_copy_105 E  b hb s l0 l1 l2 l3 l4 l5 l6) n
def f_X7_copy (s : hS) (a0 : Nat) (i1 : Int32) (i2 : Int32) (i3 : Int32) (i4 : Int32) (i5 : Int32) : Option (Int32 × hS) :=
  (f_X7_isSheet s i1).bind fun p1 =>
  if p1.1 = 0 then
    some ((-1000000001 : Int32), p1.2)
  else
    (f_X7_isSheet p1.2 i3).bind fun p2 =>
    if p2.1 = 0 then
      some ((-1000000001 : Int32), p2.2)
    else
      (gR p2.2 a0 7 24).bind fun a3 =>
      (aI p2.2 a3 10 i1).bind fun x4 =>
      if x4 < 0 then
        some ((-1000000011 : Int32), p2.2)
      else
        (gR p2.2 a0 7 24).bind fun a5 =>
        (aI p2.2 a5 10 i3).bind fun x6 =>
        if 0 ≤ x6 then
          (gR p2.2 a0 7 24).bind fun a7 =>
          (aI p2.2 a7 10 i1).bind fun x8 =>
          (gR p2.2 a0 7 24).bind fun a9 =>
          (aI p2.2 a9 10 i3).bind fun x10 =>
          if x8 = x10 then
            if i2 < 0 then
              some ((-1000000013 : Int32), p2.2)
            else
              if i4 < 0 then
                some ((-1000000013 : Int32), p2.2)
              else
                if i5 < 0 then
                  some ((-1000000013 : Int32), p2.2)
                else
                  (gR p2.2 a0 7 25).bind fun a11 =>
                  (aI p2.2 a11 10 i1).bind fun x12 =>
                  if (x12 - i5) < i2 then
                    some ((-1000000013 : Int32), p2.2)
                  else
                    (gR p2.2 a0 7 25).bind fun a13 =>
                    (aI p2.2 a13 10 i3).bind fun x14 =>
                    if i4 ≤ (x14 - i5) then
                      jL f_X7_copy_b105 (fun _ _ _ _ _ _ _ _ => none) jF a0 i1 i2 i3 i4 i5 (0 : Int32) p2.2
                    else
                      some ((-1000000013 : Int32), p2.2)
          else
            some ((-1000000012 : Int32), p2.2)
        else
          some ((-1000000011 : Int32), p2.2)
theorem b_X7_copy_in (E : jE)  (s : hS) (a0 : Nat) (i1 : Int32) (i2 : Int32) (i3 : Int32) (i4 : Int32) (i5 : Int32)  : Jo E M_X7_copy cvI 0 [(0, .ref a0), (1, .int i1), (2, .int i2), (3, .int i3), (4, .int i4), (5, .int i5)] [] s (f_X7_copy s a0 i1 i2 i3 i4 i5) := by
  unfold f_X7_copy
  refine Jo_iloadn 1 dX7_copy_0 rfl rfl ?_
  refine Jo_callSi (rest := []) [.int i1] yF_X7_isSheet yS_X7_isSheet w_929 rfl rfl ⟨Nat.le_of_ble_eq_true rfl, Nat.le_of_ble_eq_true rfl, Nat.le_of_ble_eq_true rfl⟩ dX7_copy_1 rfl (K_X7_isSheet E s i1) (fun p1 => ?_)
  refine Jo_if_eq 14 dX7_copy_4 (by decide) rfl ?_ ?_
  · refine Jo_ldc dX7_copy_14 w_673 ?_
    exact Jo_iret rfl dX7_copy_16
  · refine Jo_iloadn 3 dX7_copy_7 rfl rfl ?_
    refine Jo_callSi (rest := []) [.int i3] yF_X7_isSheet yS_X7_isSheet w_929 rfl rfl ⟨Nat.le_of_ble_eq_true rfl, Nat.le_of_ble_eq_true rfl, Nat.le_of_ble_eq_true rfl⟩ dX7_copy_8 rfl (K_X7_isSheet E p1.2 i3) (fun p2 => ?_)
    refine Jo_if_ne 17 dX7_copy_11 (by decide) rfl ?_ ?_
    · refine Jo_ldc dX7_copy_14 w_673 ?_
      exact Jo_iret rfl dX7_copy_16
    · refine Jo_aloadn 0 dX7_copy_17 rfl rfl ?_
      refine Jo_getR fF_7_24 fR_7_24 dX7_copy_18 w_607 (fun a3 => ?_)
      refine Jo_iloadn 1 dX7_copy_21 rfl rfl ?_
      refine Jo_iaload dX7_copy_22 (fun x4 => ?_)
      refine Jo_if_lt 35 dX7_copy_23 (by decide) rfl ?_ ?_
      · refine Jo_ldcw dX7_copy_35 w_936 ?_
        exact Jo_iret rfl dX7_copy_38
      · refine Jo_aloadn 0 dX7_copy_26 rfl rfl ?_
        refine Jo_getR fF_7_24 fR_7_24 dX7_copy_27 w_607 (fun a5 => ?_)
        refine Jo_iloadn 3 dX7_copy_30 rfl rfl ?_
        refine Jo_iaload dX7_copy_31 (fun x6 => ?_)
        refine Jo_if_ge 39 dX7_copy_32 (by decide) rfl ?_ ?_
        · refine Jo_aloadn 0 dX7_copy_39 rfl rfl ?_
          refine Jo_getR fF_7_24 fR_7_24 dX7_copy_40 w_607 (fun a7 => ?_)
          refine Jo_iloadn 1 dX7_copy_43 rfl rfl ?_
          refine Jo_iaload dX7_copy_44 (fun x8 => ?_)
          refine Jo_aloadn 0 dX7_copy_45 rfl rfl ?_
          refine Jo_getR fF_7_24 fR_7_24 dX7_copy_46 w_607 (fun a9 => ?_)
          refine Jo_iloadn 3 dX7_copy_49 rfl rfl ?_
          refine Jo_iaload dX7_copy_50 (fun x10 => ?_)
          refine Jo_icmp_eq 57 dX7_copy_51 (by decide) rfl ?_ ?_
          · refine Jo_iloadn 2 dX7_copy_57 rfl rfl ?_
            refine Jo_if_lt 98 dX7_copy_58 (by decide) rfl ?_ ?_
            · refine Jo_ldcw dX7_copy_98 w_935 ?_
              exact Jo_iret rfl dX7_copy_101
            · refine Jo_iload 4 dX7_copy_61 rfl ?_
              refine Jo_if_lt 98 dX7_copy_63 (by decide) rfl ?_ ?_
              · refine Jo_ldcw dX7_copy_98 w_935 ?_
                exact Jo_iret rfl dX7_copy_101
              · refine Jo_iload 5 dX7_copy_66 rfl ?_
                refine Jo_if_lt 98 dX7_copy_68 (by decide) rfl ?_ ?_
                · refine Jo_ldcw dX7_copy_98 w_935 ?_
                  exact Jo_iret rfl dX7_copy_101
                · refine Jo_iloadn 2 dX7_copy_71 rfl rfl ?_
                  refine Jo_aloadn 0 dX7_copy_72 rfl rfl ?_
                  refine Jo_getR fF_7_25 fR_7_25 dX7_copy_73 w_606 (fun a11 => ?_)
                  refine Jo_iloadn 1 dX7_copy_76 rfl rfl ?_
                  refine Jo_iaload dX7_copy_77 (fun x12 => ?_)
                  refine Jo_iload 5 dX7_copy_78 rfl ?_
                  refine Jo_isub dX7_copy_80 ?_
                  refine Jo_icmp_gt 98 dX7_copy_81 (by decide) rfl ?_ ?_
                  · refine Jo_ldcw dX7_copy_98 w_935 ?_
                    exact Jo_iret rfl dX7_copy_101
                  · refine Jo_iload 4 dX7_copy_84 rfl ?_
                    refine Jo_aloadn 0 dX7_copy_86 rfl rfl ?_
                    refine Jo_getR fF_7_25 fR_7_25 dX7_copy_87 w_606 (fun a13 => ?_)
                    refine Jo_iloadn 3 dX7_copy_90 rfl rfl ?_
                    refine Jo_iaload dX7_copy_91 (fun x14 => ?_)
                    refine Jo_iload 5 dX7_copy_92 rfl ?_
                    refine Jo_isub dX7_copy_94 ?_
                    refine Jo_icmp_le 102 dX7_copy_95 (by decide) rfl ?_ ?_
                    · refine Jo_iconst (v := (0 : Int32)) dX7_copy_102 (by decide) ?_
                      refine Jo_istore (ls' := [(6, .int (0 : Int32)), (0, .ref a0), (1, .int i1), (2, .int i2), (3, .int i3), (4, .int i4), (5, .int i5)]) dX7_copy_103 (by decide) rfl ?_
                      refine Jo_sub [1, 2, 3, 4, 5, 6, 0] rfl ?_
                      exact e_X7_copy_105 E jF p2.2 a0 i1 i2 i3 i4 i5 (0 : Int32)
                    · refine Jo_ldcw dX7_copy_98 w_935 ?_
                      exact Jo_iret rfl dX7_copy_101
          · refine Jo_ldc dX7_copy_54 w_785 ?_
            exact Jo_iret rfl dX7_copy_56
        · refine Jo_ldcw dX7_copy_35 w_936 ?_
          exact Jo_iret rfl dX7_copy_38
theorem K_X7_copy (E : jE) (s : hS) (a0 : Nat) (i1 : Int32) (i2 : Int32) (i3 : Int32) (i4 : Int32) (i5 : Int32) : jK E yX7_copy M_X7_copy cvI [.ref a0, .int i1, .int i2, .int i3, .int i4, .int i5] s (f_X7_copy s a0 i1 i2 i3 i4 i5) := jK_of ⟨by decide, rfl, rfl⟩ (Nat.le_of_ble_eq_true rfl) (b_X7_copy_in E s a0 i1 i2 i3 i4 i5)
/-! HeronTalkModel.lay(III)I -/
abbrev M_X7_lay : jM := (RX7, cX7_lay, 6, (some .int), "lay", 2, 43)
theorem yF_X7_lay : yF yX7_lay M_X7_lay 3 := ⟨w_950, w_624, by decide +kernel⟩
theorem yV_X7_lay : Cond.instanceMethod yX7_lay ∈ tbG ∧ Cond.selects yX7_lay.cls yX7_lay yX7_lay ∈ tbG := ⟨w_951, w_952⟩
theorem dX7_lay_0 : dI cX7_lay 0 1 (.iload_n 1) 1 := ⟨by decide +kernel, rfl⟩
theorem dX7_lay_1 : decode cX7_lay 1 = .ok (.invokestatic 286, 3) := by decide +kernel
theorem dX7_lay_4 : decode cX7_lay 4 = .ok (.ifCond .eq 37, 3) := by decide +kernel
theorem dX7_lay_7 : dI cX7_lay 7 8 (.iload_n 2) 1 := ⟨by decide +kernel, rfl⟩
theorem dX7_lay_8 : dI cX7_lay 8 9 (.iconst 0) 1 := ⟨by decide +kernel, rfl⟩
theorem dX7_lay_9 : dI cX7_lay 9 10 (.iconst 3) 1 := ⟨by decide +kernel, rfl⟩
theorem dX7_lay_10 : decode cX7_lay 10 = .ok (.invokestatic 79, 3) := by decide +kernel
theorem dX7_lay_13 : decode cX7_lay 13 = .ok (.ifCond .eq 28, 3) := by decide +kernel
theorem dX7_lay_16 : dI cX7_lay 16 17 (.iload_n 2) 1 := ⟨by decide +kernel, rfl⟩
theorem dX7_lay_17 : dI cX7_lay 17 18 (.iconst 1) 1 := ⟨by decide +kernel, rfl⟩
theorem dX7_lay_18 : decode cX7_lay 18 = .ok (.if_icmp .ne 11, 3) := by decide +kernel
theorem dX7_lay_21 : dI cX7_lay 21 22 (.aload_n 0) 1 := ⟨by decide +kernel, rfl⟩
theorem dX7_lay_22 : dI cX7_lay 22 23 (.iload_n 3) 1 := ⟨by decide +kernel, rfl⟩
theorem dX7_lay_23 : decode cX7_lay 23 = .ok (.invokevirtual 164, 3) := by decide +kernel
theorem dX7_lay_26 : decode cX7_lay 26 = .ok (.ifCond .eq 15, 3) := by decide +kernel
theorem dX7_lay_29 : dI cX7_lay 29 30 (.iload_n 2) 1 := ⟨by decide +kernel, rfl⟩
theorem dX7_lay_30 : dI cX7_lay 30 31 (.iconst 2) 1 := ⟨by decide +kernel, rfl⟩
theorem dX7_lay_31 : decode cX7_lay 31 = .ok (.if_icmp .ne 13, 3) := by decide +kernel
theorem dX7_lay_34 : dI cX7_lay 34 35 (.iload_n 3) 1 := ⟨by decide +kernel, rfl⟩
theorem dX7_lay_35 : decode cX7_lay 35 = .ok (.invokestatic 278, 3) := by decide +kernel
theorem dX7_lay_38 : decode cX7_lay 38 = .ok (.ifCond .ne 6, 3) := by decide +kernel
theorem dX7_lay_41 : dI cX7_lay 41 43 (.ldc 87) 2 := ⟨by decide +kernel, rfl⟩
theorem dX7_lay_43 : dI cX7_lay 43 44 (.ireturn) 1 := ⟨by decide +kernel, rfl⟩
theorem dX7_lay_44 : dI cX7_lay 44 45 (.iload_n 2) 1 := ⟨by decide +kernel, rfl⟩
theorem dX7_lay_45 : dI cX7_lay 45 46 (.iconst 2) 1 := ⟨by decide +kernel, rfl⟩
theorem dX7_lay_46 : decode cX7_lay 46 = .ok (.if_icmp .ne 16, 3) := by decide +kernel
theorem dX7_lay_49 : dI cX7_lay 49 50 (.aload_n 0) 1 := ⟨by decide +kernel, rfl⟩
theorem dX7_lay_50 : dI cX7_lay 50 53 (.getfield 51) 3 := ⟨by decide +kernel, rfl⟩
theorem dX7_lay_53 : dI cX7_lay 53 54 (.iload_n 3) 1 := ⟨by decide +kernel, rfl⟩
theorem dX7_lay_54 : dI cX7_lay 54 55 (.iaload) 1 := ⟨by decide +kernel, rfl⟩
theorem dX7_lay_55 : decode cX7_lay 55 = .ok (.ifCond .ge 7, 3) := by decide +kernel
theorem dX7_lay_58 : dI cX7_lay 58 61 (.ldc_w 282) 3 := ⟨by decide +kernel, rfl⟩
theorem dX7_lay_61 : dI cX7_lay 61 62 (.ireturn) 1 := ⟨by decide +kernel, rfl⟩
theorem dX7_lay_62 : dI cX7_lay 62 63 (.aload_n 0) 1 := ⟨by decide +kernel, rfl⟩
theorem dX7_lay_63 : dI cX7_lay 63 66 (.getfield 60) 3 := ⟨by decide +kernel, rfl⟩
theorem dX7_lay_66 : dI cX7_lay 66 67 (.iload_n 1) 1 := ⟨by decide +kernel, rfl⟩
theorem dX7_lay_67 : dI cX7_lay 67 68 (.iaload) 1 := ⟨by decide +kernel, rfl⟩
theorem dX7_lay_68 : dI cX7_lay 68 70 (.istore 4) 2 := ⟨by decide +kernel, rfl⟩
theorem dX7_lay_70 : dI cX7_lay 70 71 (.aload_n 0) 1 := ⟨by decide +kernel, rfl⟩
theorem dX7_lay_71 : dI cX7_lay 71 74 (.getfield 60) 3 := ⟨by decide +kernel, rfl⟩
theorem dX7_lay_74 : dI cX7_lay 74 75 (.iload_n 1) 1 := ⟨by decide +kernel, rfl⟩
theorem dX7_lay_75 : dI cX7_lay 75 76 (.iload_n 2) 1 := ⟨by decide +kernel, rfl⟩
theorem dX7_lay_76 : dI cX7_lay 76 77 (.iastore) 1 := ⟨by decide +kernel, rfl⟩
theorem dX7_lay_77 : dI cX7_lay 77 78 (.aload_n 0) 1 := ⟨by decide +kernel, rfl⟩
theorem dX7_lay_78 : dI cX7_lay 78 81 (.getfield 63) 3 := ⟨by decide +kernel, rfl⟩
theorem dX7_lay_81 : dI cX7_lay 81 82 (.iload_n 1) 1 := ⟨by decide +kernel, rfl⟩
theorem dX7_lay_82 : dI cX7_lay 82 83 (.iload_n 2) 1 := ⟨by decide +kernel, rfl⟩
theorem dX7_lay_83 : dI cX7_lay 83 84 (.iconst 1) 1 := ⟨by decide +kernel, rfl⟩
theorem dX7_lay_84 : decode cX7_lay 84 = .ok (.if_icmp .ne 17, 3) := by decide +kernel
theorem dX7_lay_87 : dI cX7_lay 87 88 (.aload_n 0) 1 := ⟨by decide +kernel, rfl⟩
theorem dX7_lay_88 : dI cX7_lay 88 91 (.getfield 9) 3 := ⟨by decide +kernel, rfl⟩
theorem dX7_lay_91 : dI cX7_lay 91 93 (.bipush 80) 2 := ⟨by decide +kernel, rfl⟩
theorem dX7_lay_93 : dI cX7_lay 93 94 (.iconst 3) 1 := ⟨by decide +kernel, rfl⟩
theorem dX7_lay_94 : dI cX7_lay 94 95 (.iload_n 3) 1 := ⟨by decide +kernel, rfl⟩
theorem dX7_lay_95 : dI cX7_lay 95 96 (.imul) 1 := ⟨by decide +kernel, rfl⟩
theorem dX7_lay_96 : dI cX7_lay 96 97 (.iadd) 1 := ⟨by decide +kernel, rfl⟩
theorem dX7_lay_97 : dI cX7_lay 97 98 (.iaload) 1 := ⟨by decide +kernel, rfl⟩
theorem dX7_lay_98 : decode cX7_lay 98 = .ok (.goto 18, 3) := by decide +kernel
theorem dX7_lay_101 : dI cX7_lay 101 102 (.iload_n 2) 1 := ⟨by decide +kernel, rfl⟩
theorem dX7_lay_102 : dI cX7_lay 102 103 (.iconst 2) 1 := ⟨by decide +kernel, rfl⟩
theorem dX7_lay_103 : decode cX7_lay 103 = .ok (.if_icmp .ne 12, 3) := by decide +kernel
theorem dX7_lay_106 : dI cX7_lay 106 107 (.aload_n 0) 1 := ⟨by decide +kernel, rfl⟩
theorem dX7_lay_107 : dI cX7_lay 107 110 (.getfield 54) 3 := ⟨by decide +kernel, rfl⟩
theorem dX7_lay_110 : dI cX7_lay 110 111 (.iload_n 3) 1 := ⟨by decide +kernel, rfl⟩
theorem dX7_lay_111 : dI cX7_lay 111 112 (.iaload) 1 := ⟨by decide +kernel, rfl⟩
theorem dX7_lay_112 : decode cX7_lay 112 = .ok (.goto 4, 3) := by decide +kernel
theorem dX7_lay_115 : dI cX7_lay 115 116 (.iload_n 3) 1 := ⟨by decide +kernel, rfl⟩
theorem dX7_lay_116 : dI cX7_lay 116 117 (.iastore) 1 := ⟨by decide +kernel, rfl⟩
theorem dX7_lay_117 : dI cX7_lay 117 118 (.aload_n 0) 1 := ⟨by decide +kernel, rfl⟩
theorem dX7_lay_118 : dI cX7_lay 118 121 (.getfield 66) 3 := ⟨by decide +kernel, rfl⟩
theorem dX7_lay_121 : dI cX7_lay 121 122 (.iload_n 1) 1 := ⟨by decide +kernel, rfl⟩
theorem dX7_lay_122 : dI cX7_lay 122 123 (.iload_n 2) 1 := ⟨by decide +kernel, rfl⟩
theorem dX7_lay_123 : dI cX7_lay 123 124 (.iconst 1) 1 := ⟨by decide +kernel, rfl⟩
theorem dX7_lay_124 : decode cX7_lay 124 = .ok (.if_icmp .ne 36, 3) := by decide +kernel
theorem dX7_lay_127 : dI cX7_lay 127 129 (.bipush 8) 2 := ⟨by decide +kernel, rfl⟩
theorem dX7_lay_129 : dI cX7_lay 129 130 (.aload_n 0) 1 := ⟨by decide +kernel, rfl⟩
theorem dX7_lay_130 : dI cX7_lay 130 133 (.getfield 9) 3 := ⟨by decide +kernel, rfl⟩
theorem dX7_lay_133 : dI cX7_lay 133 135 (.bipush 80) 2 := ⟨by decide +kernel, rfl⟩
theorem dX7_lay_135 : dI cX7_lay 135 136 (.iconst 3) 1 := ⟨by decide +kernel, rfl⟩
theorem dX7_lay_136 : dI cX7_lay 136 137 (.iload_n 3) 1 := ⟨by decide +kernel, rfl⟩
theorem dX7_lay_137 : dI cX7_lay 137 138 (.imul) 1 := ⟨by decide +kernel, rfl⟩
theorem dX7_lay_138 : dI cX7_lay 138 139 (.iadd) 1 := ⟨by decide +kernel, rfl⟩
theorem dX7_lay_139 : dI cX7_lay 139 140 (.iconst 1) 1 := ⟨by decide +kernel, rfl⟩
theorem dX7_lay_140 : dI cX7_lay 140 141 (.iadd) 1 := ⟨by decide +kernel, rfl⟩
theorem dX7_lay_141 : dI cX7_lay 141 142 (.iaload) 1 := ⟨by decide +kernel, rfl⟩
theorem dX7_lay_142 : dI cX7_lay 142 143 (.imul) 1 := ⟨by decide +kernel, rfl⟩
theorem dX7_lay_143 : dI cX7_lay 143 144 (.aload_n 0) 1 := ⟨by decide +kernel, rfl⟩
theorem dX7_lay_144 : dI cX7_lay 144 147 (.getfield 9) 3 := ⟨by decide +kernel, rfl⟩
theorem dX7_lay_147 : dI cX7_lay 147 149 (.bipush 80) 2 := ⟨by decide +kernel, rfl⟩
theorem dX7_lay_149 : dI cX7_lay 149 150 (.iconst 3) 1 := ⟨by decide +kernel, rfl⟩
theorem dX7_lay_150 : dI cX7_lay 150 151 (.iload_n 3) 1 := ⟨by decide +kernel, rfl⟩
theorem dX7_lay_151 : dI cX7_lay 151 152 (.imul) 1 := ⟨by decide +kernel, rfl⟩
theorem dX7_lay_152 : dI cX7_lay 152 153 (.iadd) 1 := ⟨by decide +kernel, rfl⟩
theorem dX7_lay_153 : dI cX7_lay 153 154 (.iconst 2) 1 := ⟨by decide +kernel, rfl⟩
theorem dX7_lay_154 : dI cX7_lay 154 155 (.iadd) 1 := ⟨by decide +kernel, rfl⟩
theorem dX7_lay_155 : dI cX7_lay 155 156 (.iaload) 1 := ⟨by decide +kernel, rfl⟩
theorem dX7_lay_156 : dI cX7_lay 156 157 (.iadd) 1 := ⟨by decide +kernel, rfl⟩
theorem dX7_lay_157 : decode cX7_lay 157 = .ok (.goto 4, 3) := by decide +kernel
theorem dX7_lay_160 : dI cX7_lay 160 161 (.iconst 0) 1 := ⟨by decide +kernel, rfl⟩
theorem dX7_lay_161 : dI cX7_lay 161 162 (.iastore) 1 := ⟨by decide +kernel, rfl⟩
theorem dX7_lay_162 : dI cX7_lay 162 163 (.iconst 0) 1 := ⟨by decide +kernel, rfl⟩
theorem dX7_lay_163 : dI cX7_lay 163 165 (.istore 5) 2 := ⟨by decide +kernel, rfl⟩
theorem dX7_lay_165 : dI cX7_lay 165 167 (.iload 5) 2 := ⟨by decide +kernel, rfl⟩
theorem dX7_lay_167 : dI cX7_lay 167 169 (.bipush 24) 2 := ⟨by decide +kernel, rfl⟩
theorem dX7_lay_169 : decode cX7_lay 169 = .ok (.if_icmp .ge 38, 3) := by decide +kernel
theorem dX7_lay_172 : dI cX7_lay 172 173 (.iload_n 2) 1 := ⟨by decide +kernel, rfl⟩
theorem dX7_lay_173 : dI cX7_lay 173 174 (.iconst 2) 1 := ⟨by decide +kernel, rfl⟩
theorem dX7_lay_174 : decode cX7_lay 174 = .ok (.if_icmp .ne 33, 3) := by decide +kernel
theorem dX7_lay_177 : dI cX7_lay 177 178 (.aload_n 0) 1 := ⟨by decide +kernel, rfl⟩
theorem dX7_lay_178 : dI cX7_lay 178 181 (.getfield 69) 3 := ⟨by decide +kernel, rfl⟩
theorem dX7_lay_181 : dI cX7_lay 181 183 (.bipush 24) 2 := ⟨by decide +kernel, rfl⟩
theorem dX7_lay_183 : dI cX7_lay 183 184 (.iload_n 1) 1 := ⟨by decide +kernel, rfl⟩
theorem dX7_lay_184 : dI cX7_lay 184 185 (.imul) 1 := ⟨by decide +kernel, rfl⟩
theorem dX7_lay_185 : dI cX7_lay 185 187 (.iload 5) 2 := ⟨by decide +kernel, rfl⟩
theorem dX7_lay_187 : dI cX7_lay 187 188 (.iadd) 1 := ⟨by decide +kernel, rfl⟩
theorem dX7_lay_188 : dI cX7_lay 188 189 (.aload_n 0) 1 := ⟨by decide +kernel, rfl⟩
theorem dX7_lay_189 : dI cX7_lay 189 192 (.getfield 57) 3 := ⟨by decide +kernel, rfl⟩
theorem dX7_lay_192 : dI cX7_lay 192 194 (.bipush 24) 2 := ⟨by decide +kernel, rfl⟩
theorem dX7_lay_194 : dI cX7_lay 194 195 (.iload_n 3) 1 := ⟨by decide +kernel, rfl⟩
theorem dX7_lay_195 : dI cX7_lay 195 196 (.imul) 1 := ⟨by decide +kernel, rfl⟩
theorem dX7_lay_196 : dI cX7_lay 196 198 (.iload 5) 2 := ⟨by decide +kernel, rfl⟩
theorem dX7_lay_198 : dI cX7_lay 198 199 (.iadd) 1 := ⟨by decide +kernel, rfl⟩
theorem dX7_lay_199 : dI cX7_lay 199 200 (.iaload) 1 := ⟨by decide +kernel, rfl⟩
theorem dX7_lay_200 : dI cX7_lay 200 201 (.iastore) 1 := ⟨by decide +kernel, rfl⟩
theorem dX7_lay_201 : dI cX7_lay 201 204 (.iinc 5 1) 3 := ⟨by decide +kernel, rfl⟩
theorem dX7_lay_204 : decode cX7_lay 204 = .ok (.goto (-39), 3) := by decide +kernel
theorem dX7_lay_207 : dI cX7_lay 207 209 (.iload 4) 2 := ⟨by decide +kernel, rfl⟩
theorem dX7_lay_209 : dI cX7_lay 209 210 (.ireturn) 1 := ⟨by decide +kernel, rfl⟩
def f_X7_lay_b165 (k165 : Nat → Int32 → Int32 → Int32 → Int32 → Int32 → hS → Option (Int32 × hS)) (l0 : Nat) (l1 : Int32) (l2 : Int32) (l3 : Int32) (l4 : Int32) (l5 : Int32) (s : hS) : Option (Int32 × hS) :=
  if (24 : Int32) ≤ l5 then
    some (l4, s)
  else
    if l2 = (2 : Int32) then
      (gR s l0 7 30).bind fun a1 =>
      (gR s l0 7 26).bind fun a2 =>
      (aI s a2 10 (((24 : Int32) * l3) + l5)).bind fun x3 =>
      (sI s a1 10 (((24 : Int32) * l1) + l5) x3).bind fun s4 =>
      k165 l0 l1 l2 l3 l4 (l5 + (1 : Int32)) s4
    else
      some (l4, s)
theorem b_X7_lay_165 (E : jE) (k165 : Nat → Int32 → Int32 → Int32 → Int32 → Int32 → hS → Option (Int32 × hS)) (h165 : ∀ (s : hS) (l0 : Nat) (l1 : Int32) (l2 : Int32) (l3 : Int32) (l4 : Int32) (l5 : Int32) , Jo E M_X7_lay cvI 165 [(0, .ref l0), (1, .int l1), (2, .int l2), (3, .int l3), (4, .int l4), (5, .int l5)] [] s (k165 l0 l1 l2 l3 l4 l5 s)) (s : hS) (l0 : Nat) (l1 : Int32) (l2 : Int32) (l3 : Int32) (l4 : Int32) (l5 : Int32)  : Jo E M_X7_lay cvI 165 [(0, .ref l0), (1, .int l1), (2, .int l2), (3, .int l3), (4, .int l4), (5, .int l5)] [] s (f_X7_lay_b165 k165 l0 l1 l2 l3 l4 l5 s) := by
  unfold f_X7_lay_b165
  refine Jo_iload 5 dX7_lay_165 rfl ?_
  refine Jo_bipush (v := (24 : Int32)) dX7_lay_167 (by decide) ?_
  refine Jo_icmp_ge 207 dX7_lay_169 (by decide) rfl ?_ ?_
  · refine Jo_iload 4 dX7_lay_207 rfl ?_
    exact Jo_iret rfl dX7_lay_209
  · refine Jo_iloadn 2 dX7_lay_172 rfl rfl ?_
    refine Jo_iconst (v := (2 : Int32)) dX7_lay_173 (by decide) ?_
    refine Jo_icmp_ne 207 dX7_lay_174 (by decide) rfl ?_ ?_
    · refine Jo_aloadn 0 dX7_lay_177 rfl rfl ?_
      refine Jo_getR fF_7_30 fR_7_30 dX7_lay_178 w_601 (fun a1 => ?_)
      refine Jo_bipush (v := (24 : Int32)) dX7_lay_181 (by decide) ?_
      refine Jo_iloadn 1 dX7_lay_183 rfl rfl ?_
      refine Jo_imul dX7_lay_184 ?_
      refine Jo_iload 5 dX7_lay_185 rfl ?_
      refine Jo_iadd dX7_lay_187 ?_
      refine Jo_aloadn 0 dX7_lay_188 rfl rfl ?_
      refine Jo_getR fF_7_26 fR_7_26 dX7_lay_189 w_605 (fun a2 => ?_)
      refine Jo_bipush (v := (24 : Int32)) dX7_lay_192 (by decide) ?_
      refine Jo_iloadn 3 dX7_lay_194 rfl rfl ?_
      refine Jo_imul dX7_lay_195 ?_
      refine Jo_iload 5 dX7_lay_196 rfl ?_
      refine Jo_iadd dX7_lay_198 ?_
      refine Jo_iaload dX7_lay_199 (fun x3 => ?_)
      refine Jo_iastore dX7_lay_200 (fun s4 => ?_)
      refine Jo_iinc (v := (l5 + (1 : Int32))) (ls' := [(5, .int (l5 + (1 : Int32))), (0, .ref l0), (1, .int l1), (2, .int l2), (3, .int l3), (4, .int l4)]) 5 dX7_lay_201 rfl rfl (by decide) rfl ?_
      refine Jo_goto 165 dX7_lay_204 (by decide) ?_
      refine Jo_sub [1, 2, 3, 4, 5, 0] rfl ?_
      exact h165 s4 l0 l1 l2 l3 l4 (l5 + (1 : Int32))
    · refine Jo_iload 4 dX7_lay_207 rfl ?_
      exact Jo_iret rfl dX7_lay_209
theorem e_X7_lay_165 (E : jE)  (n : Nat) : ∀ (s : hS) (l0 : Nat) (l1 : Int32) (l2 : Int32) (l3 : Int32) (l4 : Int32) (l5 : Int32) , Jo E M_X7_lay cvI 165 [(0, .ref l0), (1, .int l1), (2, .int l2), (3, .int l3), (4, .int l4), (5, .int l5)] [] s ((jL f_X7_lay_b165 (fun _ _ _ _ _ _ _ => none) n) l0 l1 l2 l3 l4 l5 s) :=
  jL_ind (P := fun f => ∀ (s : hS) (l0 : Nat) (l1 : Int32) (l2 : Int32) (l3 : Int32) (l4 : Int32) (l5 : Int32) , Jo E M_X7_lay cvI 165 [(0, .ref l0), (1, .int l1), (2, .int l2), (3, .int l3), (4, .int l4), (5, .int l5)] [] s (f l0 l1 l2 l3 l4 l5 s)) (fun _ _ _ _ _ _ _ => Jo_none) (fun b hb s l0 l1 l2 l3 l4 l5 => b_X7_lay_165 E  b hb s l0 l1 l2 l3 l4 l5) n
def f_X7_lay_b161 (l0 : Nat) (l1 : Int32) (l2 : Int32) (l3 : Int32) (l4 : Int32) (t0 : Nat) (t1 : Int32) (t2 : Int32) (s : hS) : Option (Int32 × hS) :=
  (sI s t0 10 t1 t2).bind fun s1 =>
  jL f_X7_lay_b165 (fun _ _ _ _ _ _ _ => none) jF l0 l1 l2 l3 l4 (0 : Int32) s1
theorem b_X7_lay_161 (E : jE)  (s : hS) (l0 : Nat) (l1 : Int32) (l2 : Int32) (l3 : Int32) (l4 : Int32) (t0 : Nat) (t1 : Int32) (t2 : Int32) : Jo E M_X7_lay cvI 161 [(0, .ref l0), (1, .int l1), (2, .int l2), (3, .int l3), (4, .int l4)] [.int t2, .int t1, .ref t0] s (f_X7_lay_b161  l0 l1 l2 l3 l4 t0 t1 t2 s) := by
  unfold f_X7_lay_b161
  refine Jo_iastore dX7_lay_161 (fun s1 => ?_)
  refine Jo_iconst (v := (0 : Int32)) dX7_lay_162 (by decide) ?_
  refine Jo_istore (ls' := [(5, .int (0 : Int32)), (0, .ref l0), (1, .int l1), (2, .int l2), (3, .int l3), (4, .int l4)]) dX7_lay_163 (by decide) rfl ?_
  refine Jo_sub [1, 2, 3, 4, 5, 0] rfl ?_
  exact e_X7_lay_165 E jF s1 l0 l1 l2 l3 l4 (0 : Int32)
def f_X7_lay_b116 (l0 : Nat) (l1 : Int32) (l2 : Int32) (l3 : Int32) (l4 : Int32) (t0 : Nat) (t1 : Int32) (t2 : Int32) (s : hS) : Option (Int32 × hS) :=
  (sI s t0 10 t1 t2).bind fun s1 =>
  (gR s1 l0 7 29).bind fun a2 =>
  if l2 = (1 : Int32) then
    (gR s1 l0 7 0).bind fun a3 =>
    (aI s1 a3 10 (((80 : Int32) + ((3 : Int32) * l3)) + (1 : Int32))).bind fun x4 =>
    (gR s1 l0 7 0).bind fun a5 =>
    (aI s1 a5 10 (((80 : Int32) + ((3 : Int32) * l3)) + (2 : Int32))).bind fun x6 =>
    f_X7_lay_b161 l0 l1 l2 l3 l4 a2 l1 (((8 : Int32) * x4) + x6) s1
  else
    f_X7_lay_b161 l0 l1 l2 l3 l4 a2 l1 (0 : Int32) s1
theorem b_X7_lay_116 (E : jE)  (s : hS) (l0 : Nat) (l1 : Int32) (l2 : Int32) (l3 : Int32) (l4 : Int32) (t0 : Nat) (t1 : Int32) (t2 : Int32) : Jo E M_X7_lay cvI 116 [(0, .ref l0), (1, .int l1), (2, .int l2), (3, .int l3), (4, .int l4)] [.int t2, .int t1, .ref t0] s (f_X7_lay_b116  l0 l1 l2 l3 l4 t0 t1 t2 s) := by
  unfold f_X7_lay_b116
  refine Jo_iastore dX7_lay_116 (fun s1 => ?_)
  refine Jo_aloadn 0 dX7_lay_117 rfl rfl ?_
  refine Jo_getR fF_7_29 fR_7_29 dX7_lay_118 w_602 (fun a2 => ?_)
  refine Jo_iloadn 1 dX7_lay_121 rfl rfl ?_
  refine Jo_iloadn 2 dX7_lay_122 rfl rfl ?_
  refine Jo_iconst (v := (1 : Int32)) dX7_lay_123 (by decide) ?_
  refine Jo_icmp_ne 160 dX7_lay_124 (by decide) rfl ?_ ?_
  · refine Jo_bipush (v := (8 : Int32)) dX7_lay_127 (by decide) ?_
    refine Jo_aloadn 0 dX7_lay_129 rfl rfl ?_
    refine Jo_getR fF_7_0 fR_7_0 dX7_lay_130 w_598 (fun a3 => ?_)
    refine Jo_bipush (v := (80 : Int32)) dX7_lay_133 (by decide) ?_
    refine Jo_iconst (v := (3 : Int32)) dX7_lay_135 (by decide) ?_
    refine Jo_iloadn 3 dX7_lay_136 rfl rfl ?_
    refine Jo_imul dX7_lay_137 ?_
    refine Jo_iadd dX7_lay_138 ?_
    refine Jo_iconst (v := (1 : Int32)) dX7_lay_139 (by decide) ?_
    refine Jo_iadd dX7_lay_140 ?_
    refine Jo_iaload dX7_lay_141 (fun x4 => ?_)
    refine Jo_imul dX7_lay_142 ?_
    refine Jo_aloadn 0 dX7_lay_143 rfl rfl ?_
    refine Jo_getR fF_7_0 fR_7_0 dX7_lay_144 w_598 (fun a5 => ?_)
    refine Jo_bipush (v := (80 : Int32)) dX7_lay_147 (by decide) ?_
    refine Jo_iconst (v := (3 : Int32)) dX7_lay_149 (by decide) ?_
    refine Jo_iloadn 3 dX7_lay_150 rfl rfl ?_
    refine Jo_imul dX7_lay_151 ?_
    refine Jo_iadd dX7_lay_152 ?_
    refine Jo_iconst (v := (2 : Int32)) dX7_lay_153 (by decide) ?_
    refine Jo_iadd dX7_lay_154 ?_
    refine Jo_iaload dX7_lay_155 (fun x6 => ?_)
    refine Jo_iadd dX7_lay_156 ?_
    refine Jo_goto 161 dX7_lay_157 (by decide) ?_
    exact b_X7_lay_161 E s1 l0 l1 l2 l3 l4 a2 l1 (((8 : Int32) * x4) + x6)
  · refine Jo_iconst (v := (0 : Int32)) dX7_lay_160 (by decide) ?_
    exact b_X7_lay_161 E s1 l0 l1 l2 l3 l4 a2 l1 (0 : Int32)
def f_X7_lay_b62 (l0 : Nat) (l1 : Int32) (l2 : Int32) (l3 : Int32) (s : hS) : Option (Int32 × hS) :=
  (gR s l0 7 27).bind fun a1 =>
  (aI s a1 10 l1).bind fun x2 =>
  (gR s l0 7 27).bind fun a3 =>
  (sI s a3 10 l1 l2).bind fun s4 =>
  (gR s4 l0 7 28).bind fun a5 =>
  if l2 = (1 : Int32) then
    (gR s4 l0 7 0).bind fun a8 =>
    (aI s4 a8 10 ((80 : Int32) + ((3 : Int32) * l3))).bind fun x9 =>
    f_X7_lay_b116 l0 l1 l2 l3 x2 a5 l1 x9 s4
  else
    if l2 = (2 : Int32) then
      (gR s4 l0 7 25).bind fun a6 =>
      (aI s4 a6 10 l3).bind fun x7 =>
      f_X7_lay_b116 l0 l1 l2 l3 x2 a5 l1 x7 s4
    else
      f_X7_lay_b116 l0 l1 l2 l3 x2 a5 l1 l3 s4
theorem b_X7_lay_62 (E : jE)  (s : hS) (l0 : Nat) (l1 : Int32) (l2 : Int32) (l3 : Int32)  : Jo E M_X7_lay cvI 62 [(0, .ref l0), (1, .int l1), (2, .int l2), (3, .int l3)] [] s (f_X7_lay_b62  l0 l1 l2 l3 s) := by
  unfold f_X7_lay_b62
  refine Jo_aloadn 0 dX7_lay_62 rfl rfl ?_
  refine Jo_getR fF_7_27 fR_7_27 dX7_lay_63 w_604 (fun a1 => ?_)
  refine Jo_iloadn 1 dX7_lay_66 rfl rfl ?_
  refine Jo_iaload dX7_lay_67 (fun x2 => ?_)
  refine Jo_istore (ls' := [(4, .int x2), (0, .ref l0), (1, .int l1), (2, .int l2), (3, .int l3)]) dX7_lay_68 (by decide) rfl ?_
  refine Jo_aloadn 1 dX7_lay_70 rfl rfl ?_
  refine Jo_getR fF_7_27 fR_7_27 dX7_lay_71 w_604 (fun a3 => ?_)
  refine Jo_iloadn 2 dX7_lay_74 rfl rfl ?_
  refine Jo_iloadn 3 dX7_lay_75 rfl rfl ?_
  refine Jo_iastore dX7_lay_76 (fun s4 => ?_)
  refine Jo_aloadn 1 dX7_lay_77 rfl rfl ?_
  refine Jo_getR fF_7_28 fR_7_28 dX7_lay_78 w_603 (fun a5 => ?_)
  refine Jo_iloadn 2 dX7_lay_81 rfl rfl ?_
  refine Jo_iloadn 3 dX7_lay_82 rfl rfl ?_
  refine Jo_iconst (v := (1 : Int32)) dX7_lay_83 (by decide) ?_
  refine Jo_icmp_ne 101 dX7_lay_84 (by decide) rfl ?_ ?_
  · refine Jo_aloadn 1 dX7_lay_87 rfl rfl ?_
    refine Jo_getR fF_7_0 fR_7_0 dX7_lay_88 w_598 (fun a8 => ?_)
    refine Jo_bipush (v := (80 : Int32)) dX7_lay_91 (by decide) ?_
    refine Jo_iconst (v := (3 : Int32)) dX7_lay_93 (by decide) ?_
    refine Jo_iloadn 4 dX7_lay_94 rfl rfl ?_
    refine Jo_imul dX7_lay_95 ?_
    refine Jo_iadd dX7_lay_96 ?_
    refine Jo_iaload dX7_lay_97 (fun x9 => ?_)
    refine Jo_goto 116 dX7_lay_98 (by decide) ?_
    refine Jo_sub [1, 2, 3, 4, 0] rfl ?_
    exact b_X7_lay_116 E s4 l0 l1 l2 l3 x2 a5 l1 x9
  · refine Jo_iloadn 3 dX7_lay_101 rfl rfl ?_
    refine Jo_iconst (v := (2 : Int32)) dX7_lay_102 (by decide) ?_
    refine Jo_icmp_ne 115 dX7_lay_103 (by decide) rfl ?_ ?_
    · refine Jo_aloadn 1 dX7_lay_106 rfl rfl ?_
      refine Jo_getR fF_7_25 fR_7_25 dX7_lay_107 w_606 (fun a6 => ?_)
      refine Jo_iloadn 4 dX7_lay_110 rfl rfl ?_
      refine Jo_iaload dX7_lay_111 (fun x7 => ?_)
      refine Jo_goto 116 dX7_lay_112 (by decide) ?_
      refine Jo_sub [1, 2, 3, 4, 0] rfl ?_
      exact b_X7_lay_116 E s4 l0 l1 l2 l3 x2 a5 l1 x7
    · refine Jo_iloadn 4 dX7_lay_115 rfl rfl ?_
      refine Jo_sub [1, 2, 3, 4, 0] rfl ?_
      exact b_X7_lay_116 E s4 l0 l1 l2 l3 x2 a5 l1 l3
def f_X7_lay_b44 (l0 : Nat) (l1 : Int32) (l2 : Int32) (l3 : Int32) (s : hS) : Option (Int32 × hS) :=
  if l2 = (2 : Int32) then
    (gR s l0 7 24).bind fun a1 =>
    (aI s a1 10 l3).bind fun x2 =>
    if 0 ≤ x2 then
      f_X7_lay_b62 l0 l1 l2 l3 s
    else
      some ((-1000000011 : Int32), s)
  else
    f_X7_lay_b62 l0 l1 l2 l3 s
theorem b_X7_lay_44 (E : jE)  (s : hS) (l0 : Nat) (l1 : Int32) (l2 : Int32) (l3 : Int32)  : Jo E M_X7_lay cvI 44 [(0, .ref l0), (1, .int l1), (2, .int l2), (3, .int l3)] [] s (f_X7_lay_b44  l0 l1 l2 l3 s) := by
  unfold f_X7_lay_b44
  refine Jo_iloadn 2 dX7_lay_44 rfl rfl ?_
  refine Jo_iconst (v := (2 : Int32)) dX7_lay_45 (by decide) ?_
  refine Jo_icmp_ne 62 dX7_lay_46 (by decide) rfl ?_ ?_
  · refine Jo_aloadn 0 dX7_lay_49 rfl rfl ?_
    refine Jo_getR fF_7_24 fR_7_24 dX7_lay_50 w_607 (fun a1 => ?_)
    refine Jo_iloadn 3 dX7_lay_53 rfl rfl ?_
    refine Jo_iaload dX7_lay_54 (fun x2 => ?_)
    refine Jo_if_ge 62 dX7_lay_55 (by decide) rfl ?_ ?_
    · exact b_X7_lay_62 E s l0 l1 l2 l3
    · refine Jo_ldcw dX7_lay_58 w_936 ?_
      exact Jo_iret rfl dX7_lay_61
  · exact b_X7_lay_62 E s l0 l1 l2 l3
def f_X7_lay_b29 (l0 : Nat) (l1 : Int32) (l2 : Int32) (l3 : Int32) (s : hS) : Option (Int32 × hS) :=
  if l2 = (2 : Int32) then
    (f_X7_isSheet s l3).bind fun p1 =>
    if p1.1 = 0 then
      some ((-1000000001 : Int32), p1.2)
    else
      f_X7_lay_b44 l0 l1 l2 l3 p1.2
  else
    f_X7_lay_b44 l0 l1 l2 l3 s
theorem b_X7_lay_29 (E : jE)  (s : hS) (l0 : Nat) (l1 : Int32) (l2 : Int32) (l3 : Int32)  : Jo E M_X7_lay cvI 29 [(0, .ref l0), (1, .int l1), (2, .int l2), (3, .int l3)] [] s (f_X7_lay_b29  l0 l1 l2 l3 s) := by
  unfold f_X7_lay_b29
  refine Jo_iloadn 2 dX7_lay_29 rfl rfl ?_
  refine Jo_iconst (v := (2 : Int32)) dX7_lay_30 (by decide) ?_
  refine Jo_icmp_ne 44 dX7_lay_31 (by decide) rfl ?_ ?_
  · refine Jo_iloadn 3 dX7_lay_34 rfl rfl ?_
    refine Jo_callSi (rest := []) [.int l3] yF_X7_isSheet yS_X7_isSheet w_929 rfl rfl ⟨Nat.le_of_ble_eq_true rfl, Nat.le_of_ble_eq_true rfl, Nat.le_of_ble_eq_true rfl⟩ dX7_lay_35 rfl (K_X7_isSheet E s l3) (fun p1 => ?_)
    refine Jo_if_ne 44 dX7_lay_38 (by decide) rfl ?_ ?_
    · refine Jo_ldc dX7_lay_41 w_673 ?_
      exact Jo_iret rfl dX7_lay_43
    · exact b_X7_lay_44 E p1.2 l0 l1 l2 l3
  · exact b_X7_lay_44 E s l0 l1 l2 l3
def f_X7_lay (s : hS) (a0 : Nat) (i1 : Int32) (i2 : Int32) (i3 : Int32) : Option (Int32 × hS) :=
  (f_X7_isSlot s i1).bind fun p1 =>
  if p1.1 = 0 then
    some ((-1000000001 : Int32), p1.2)
  else
    (f_X7_in p1.2 i2 (0 : Int32) (3 : Int32)).bind fun p2 =>
    if p2.1 = 0 then
      some ((-1000000001 : Int32), p2.2)
    else
      if i2 = (1 : Int32) then
        (cV p2.2 a0 7 (f_X7_isTalk p2.2 a0 i3)).bind fun p3 =>
        if p3.1 = 0 then
          some ((-1000000001 : Int32), p3.2)
        else
          f_X7_lay_b29 a0 i1 i2 i3 p3.2
      else
        f_X7_lay_b29 a0 i1 i2 i3 p2.2
theorem b_X7_lay_in (E : jE)  (s : hS) (a0 : Nat) (i1 : Int32) (i2 : Int32) (i3 : Int32)  : Jo E M_X7_lay cvI 0 [(0, .ref a0), (1, .int i1), (2, .int i2), (3, .int i3)] [] s (f_X7_lay s a0 i1 i2 i3) := by
  unfold f_X7_lay
  refine Jo_iloadn 1 dX7_lay_0 rfl rfl ?_
  refine Jo_callSi (rest := []) [.int i1] yF_X7_isSlot yS_X7_isSlot w_949 rfl rfl ⟨Nat.le_of_ble_eq_true rfl, Nat.le_of_ble_eq_true rfl, Nat.le_of_ble_eq_true rfl⟩ dX7_lay_1 rfl (K_X7_isSlot E s i1) (fun p1 => ?_)
  refine Jo_if_eq 41 dX7_lay_4 (by decide) rfl ?_ ?_
  · refine Jo_ldc dX7_lay_41 w_673 ?_
    exact Jo_iret rfl dX7_lay_43
  · refine Jo_iloadn 2 dX7_lay_7 rfl rfl ?_
    refine Jo_iconst (v := (0 : Int32)) dX7_lay_8 (by decide) ?_
    refine Jo_iconst (v := (3 : Int32)) dX7_lay_9 (by decide) ?_
    refine Jo_callSi (rest := []) [.int i2, .int (0 : Int32), .int (3 : Int32)] yF_X7_in yS_X7_in w_635 rfl rfl ⟨Nat.le_of_ble_eq_true rfl, Nat.le_of_ble_eq_true rfl, Nat.le_of_ble_eq_true rfl⟩ dX7_lay_10 rfl (K_X7_in E p1.2 i2 (0 : Int32) (3 : Int32)) (fun p2 => ?_)
    refine Jo_if_eq 41 dX7_lay_13 (by decide) rfl ?_ ?_
    · refine Jo_ldc dX7_lay_41 w_673 ?_
      exact Jo_iret rfl dX7_lay_43
    · refine Jo_iloadn 2 dX7_lay_16 rfl rfl ?_
      refine Jo_iconst (v := (1 : Int32)) dX7_lay_17 (by decide) ?_
      refine Jo_icmp_ne 29 dX7_lay_18 (by decide) rfl ?_ ?_
      · refine Jo_aloadn 0 dX7_lay_21 rfl rfl ?_
        refine Jo_iloadn 3 dX7_lay_22 rfl rfl ?_
        refine Jo_callVi (a := a0) (rest := []) [.int i3] cc_7 yF_X7_isTalk yV_X7_isTalk w_779 rfl rfl ⟨Nat.le_of_ble_eq_true rfl, Nat.le_of_ble_eq_true rfl, Nat.le_of_ble_eq_true rfl⟩ dX7_lay_23 rfl (K_X7_isTalk E p2.2 a0 i3) (fun p3 => ?_)
        refine Jo_if_eq 41 dX7_lay_26 (by decide) rfl ?_ ?_
        · refine Jo_ldc dX7_lay_41 w_673 ?_
          exact Jo_iret rfl dX7_lay_43
        · exact b_X7_lay_29 E p3.2 a0 i1 i2 i3
      · exact b_X7_lay_29 E p2.2 a0 i1 i2 i3
theorem K_X7_lay (E : jE) (s : hS) (a0 : Nat) (i1 : Int32) (i2 : Int32) (i3 : Int32) : jK E yX7_lay M_X7_lay cvI [.ref a0, .int i1, .int i2, .int i3] s (f_X7_lay s a0 i1 i2 i3) := jK_of ⟨by decide, rfl, rfl⟩ (Nat.le_of_ble_eq_true rfl) (b_X7_lay_in E s a0 i1 i2 i3)
