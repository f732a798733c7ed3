/-! HeronTalkModel.goes(III)Z -/
abbrev M_X7_goes : jM := (RX7, cX7_goes, 7, (some .boolean), "goes", 7, 167)
theorem yF_X7_goes : yF yX7_goes M_X7_goes 3 := ⟨w_796, w_624, by decide +kernel⟩
theorem yV_X7_goes : Cond.instanceMethod yX7_goes ∈ tbG ∧ Cond.selects yX7_goes.cls yX7_goes yX7_goes ∈ tbG := ⟨w_797, w_798⟩
theorem dX7_goes_0 : dI cX7_goes 0 1 (.aload_n 0) 1 := ⟨by decide +kernel, rfl⟩
theorem dX7_goes_1 : dI cX7_goes 1 2 (.iload_n 1) 1 := ⟨by decide +kernel, rfl⟩
theorem dX7_goes_2 : dI cX7_goes 2 3 (.iload_n 2) 1 := ⟨by decide +kernel, rfl⟩
theorem dX7_goes_3 : dI cX7_goes 3 4 (.iload_n 3) 1 := ⟨by decide +kernel, rfl⟩
theorem dX7_goes_4 : decode cX7_goes 4 = .ok (.invokevirtual 158, 3) := by decide +kernel
theorem dX7_goes_7 : dI cX7_goes 7 9 (.istore 4) 2 := ⟨by decide +kernel, rfl⟩
theorem dX7_goes_9 : dI cX7_goes 9 10 (.aload_n 0) 1 := ⟨by decide +kernel, rfl⟩
theorem dX7_goes_10 : dI cX7_goes 10 11 (.iload_n 1) 1 := ⟨by decide +kernel, rfl⟩
theorem dX7_goes_11 : dI cX7_goes 11 12 (.iload_n 2) 1 := ⟨by decide +kernel, rfl⟩
theorem dX7_goes_12 : dI cX7_goes 12 13 (.iload_n 3) 1 := ⟨by decide +kernel, rfl⟩
theorem dX7_goes_13 : decode cX7_goes 13 = .ok (.invokevirtual 161, 3) := by decide +kernel
theorem dX7_goes_16 : dI cX7_goes 16 18 (.istore 5) 2 := ⟨by decide +kernel, rfl⟩
theorem dX7_goes_18 : dI cX7_goes 18 20 (.iload 5) 2 := ⟨by decide +kernel, rfl⟩
theorem dX7_goes_20 : decode cX7_goes 20 = .ok (.ifCond .lt 13, 3) := by decide +kernel
theorem dX7_goes_23 : dI cX7_goes 23 25 (.iload 4) 2 := ⟨by decide +kernel, rfl⟩
theorem dX7_goes_25 : decode cX7_goes 25 = .ok (.ifCond .ge 10, 3) := by decide +kernel
theorem dX7_goes_28 : dI cX7_goes 28 29 (.iload_n 1) 1 := ⟨by decide +kernel, rfl⟩
theorem dX7_goes_29 : dI cX7_goes 29 30 (.iconst 4) 1 := ⟨by decide +kernel, rfl⟩
theorem dX7_goes_30 : decode cX7_goes 30 = .ok (.if_icmp .eq 5, 3) := by decide +kernel
theorem dX7_goes_33 : dI cX7_goes 33 34 (.iconst 0) 1 := ⟨by decide +kernel, rfl⟩
theorem dX7_goes_34 : dI cX7_goes 34 35 (.ireturn) 1 := ⟨by decide +kernel, rfl⟩
theorem dX7_goes_35 : dI cX7_goes 35 36 (.aload_n 0) 1 := ⟨by decide +kernel, rfl⟩
theorem dX7_goes_36 : dI cX7_goes 36 37 (.iload_n 3) 1 := ⟨by decide +kernel, rfl⟩
theorem dX7_goes_37 : dI cX7_goes 37 39 (.iload 4) 2 := ⟨by decide +kernel, rfl⟩
theorem dX7_goes_39 : decode cX7_goes 39 = .ok (.invokestatic 180, 3) := by decide +kernel
theorem dX7_goes_42 : decode cX7_goes 42 = .ok (.invokevirtual 125, 3) := by decide +kernel
theorem dX7_goes_45 : dI cX7_goes 45 46 (.aload_n 0) 1 := ⟨by decide +kernel, rfl⟩
theorem dX7_goes_46 : dI cX7_goes 46 47 (.iload_n 2) 1 := ⟨by decide +kernel, rfl⟩
theorem dX7_goes_47 : dI cX7_goes 47 49 (.iload 5) 2 := ⟨by decide +kernel, rfl⟩
theorem dX7_goes_49 : decode cX7_goes 49 = .ok (.invokestatic 180, 3) := by decide +kernel
theorem dX7_goes_52 : decode cX7_goes 52 = .ok (.invokevirtual 125, 3) := by decide +kernel
theorem dX7_goes_55 : dI cX7_goes 55 56 (.iload_n 1) 1 := ⟨by decide +kernel, rfl⟩
theorem dX7_goes_56 : dI cX7_goes 56 57 (.iconst 3) 1 := ⟨by decide +kernel, rfl⟩
theorem dX7_goes_57 : decode cX7_goes 57 = .ok (.if_icmp .ne 22, 3) := by decide +kernel
theorem dX7_goes_60 : dI cX7_goes 60 61 (.aload_n 0) 1 := ⟨by decide +kernel, rfl⟩
theorem dX7_goes_61 : dI cX7_goes 61 62 (.iload_n 3) 1 := ⟨by decide +kernel, rfl⟩
theorem dX7_goes_62 : dI cX7_goes 62 63 (.iconst 1) 1 := ⟨by decide +kernel, rfl⟩
theorem dX7_goes_63 : dI cX7_goes 63 64 (.iadd) 1 := ⟨by decide +kernel, rfl⟩
theorem dX7_goes_64 : dI cX7_goes 64 65 (.aload_n 0) 1 := ⟨by decide +kernel, rfl⟩
theorem dX7_goes_65 : dI cX7_goes 65 68 (.getfield 9) 3 := ⟨by decide +kernel, rfl⟩
theorem dX7_goes_68 : dI cX7_goes 68 69 (.iconst 2) 1 := ⟨by decide +kernel, rfl⟩
theorem dX7_goes_69 : dI cX7_goes 69 70 (.iaload) 1 := ⟨by decide +kernel, rfl⟩
theorem dX7_goes_70 : dI cX7_goes 70 71 (.irem) 1 := ⟨by decide +kernel, rfl⟩
theorem dX7_goes_71 : dI cX7_goes 71 73 (.iload 4) 2 := ⟨by decide +kernel, rfl⟩
theorem dX7_goes_73 : decode cX7_goes 73 = .ok (.invokestatic 180, 3) := by decide +kernel
theorem dX7_goes_76 : decode cX7_goes 76 = .ok (.invokevirtual 125, 3) := by decide +kernel
theorem dX7_goes_79 : dI cX7_goes 79 80 (.iload_n 1) 1 := ⟨by decide +kernel, rfl⟩
theorem dX7_goes_80 : dI cX7_goes 80 81 (.iconst 5) 1 := ⟨by decide +kernel, rfl⟩
theorem dX7_goes_81 : decode cX7_goes 81 = .ok (.if_icmp .ne 30, 3) := by decide +kernel
theorem dX7_goes_84 : dI cX7_goes 84 85 (.aload_n 0) 1 := ⟨by decide +kernel, rfl⟩
theorem dX7_goes_85 : dI cX7_goes 85 86 (.iload_n 2) 1 := ⟨by decide +kernel, rfl⟩
theorem dX7_goes_86 : decode cX7_goes 86 = .ok (.invokevirtual 83, 3) := by decide +kernel
theorem dX7_goes_89 : dI cX7_goes 89 90 (.aload_n 0) 1 := ⟨by decide +kernel, rfl⟩
theorem dX7_goes_90 : dI cX7_goes 90 91 (.iload_n 3) 1 := ⟨by decide +kernel, rfl⟩
theorem dX7_goes_91 : decode cX7_goes 91 = .ok (.invokevirtual 83, 3) := by decide +kernel
theorem dX7_goes_94 : dI cX7_goes 94 95 (.ior) 1 := ⟨by decide +kernel, rfl⟩
theorem dX7_goes_95 : dI cX7_goes 95 97 (.istore 6) 2 := ⟨by decide +kernel, rfl⟩
theorem dX7_goes_97 : dI cX7_goes 97 98 (.aload_n 0) 1 := ⟨by decide +kernel, rfl⟩
theorem dX7_goes_98 : dI cX7_goes 98 99 (.iload_n 2) 1 := ⟨by decide +kernel, rfl⟩
theorem dX7_goes_99 : dI cX7_goes 99 101 (.iload 6) 2 := ⟨by decide +kernel, rfl⟩
theorem dX7_goes_101 : decode cX7_goes 101 = .ok (.invokevirtual 125, 3) := by decide +kernel
theorem dX7_goes_104 : dI cX7_goes 104 105 (.aload_n 0) 1 := ⟨by decide +kernel, rfl⟩
theorem dX7_goes_105 : dI cX7_goes 105 106 (.iload_n 3) 1 := ⟨by decide +kernel, rfl⟩
theorem dX7_goes_106 : dI cX7_goes 106 108 (.iload 6) 2 := ⟨by decide +kernel, rfl⟩
theorem dX7_goes_108 : decode cX7_goes 108 = .ok (.invokevirtual 125, 3) := by decide +kernel
theorem dX7_goes_111 : dI cX7_goes 111 112 (.aload_n 0) 1 := ⟨by decide +kernel, rfl⟩
theorem dX7_goes_112 : dI cX7_goes 112 115 (.getfield 9) 3 := ⟨by decide +kernel, rfl⟩
theorem dX7_goes_115 : dI cX7_goes 115 117 (.bipush 6) 2 := ⟨by decide +kernel, rfl⟩
theorem dX7_goes_117 : dI cX7_goes 117 118 (.dup2) 1 := ⟨by decide +kernel, rfl⟩
theorem dX7_goes_118 : dI cX7_goes 118 119 (.iaload) 1 := ⟨by decide +kernel, rfl⟩
theorem dX7_goes_119 : dI cX7_goes 119 120 (.iconst 1) 1 := ⟨by decide +kernel, rfl⟩
theorem dX7_goes_120 : dI cX7_goes 120 121 (.iadd) 1 := ⟨by decide +kernel, rfl⟩
theorem dX7_goes_121 : dI cX7_goes 121 122 (.iastore) 1 := ⟨by decide +kernel, rfl⟩
theorem dX7_goes_122 : dI cX7_goes 122 123 (.iconst 1) 1 := ⟨by decide +kernel, rfl⟩
theorem dX7_goes_123 : dI cX7_goes 123 124 (.ireturn) 1 := ⟨by decide +kernel, rfl⟩
def f_X7_goes_b111 (l0 : Nat) (s : hS) : Option (Int32 × hS) :=
  (gR s l0 7 0).bind fun a1 =>
  (aI s a1 10 (6 : Int32)).bind fun x2 =>
  (sI s a1 10 (6 : Int32) (x2 + (1 : Int32))).bind fun s3 =>
  some ((1 : Int32), s3)
theorem b_X7_goes_111 (E : jE)  (s : hS) (l0 : Nat)  : Jo E M_X7_goes cvI 111 [(0, .ref l0)] [] s (f_X7_goes_b111  l0 s) := by
  unfold f_X7_goes_b111
  refine Jo_aloadn 0 dX7_goes_111 rfl rfl ?_
  refine Jo_getR fF_7_0 fR_7_0 dX7_goes_112 w_598 (fun a1 => ?_)
  refine Jo_bipush (v := (6 : Int32)) dX7_goes_115 (by decide) ?_
  refine Jo_dup2 dX7_goes_117 rfl rfl ?_
  refine Jo_iaload dX7_goes_118 (fun x2 => ?_)
  refine Jo_iconst (v := (1 : Int32)) dX7_goes_119 (by decide) ?_
  refine Jo_iadd dX7_goes_120 ?_
  refine Jo_iastore dX7_goes_121 (fun s3 => ?_)
  refine Jo_iconst (v := (1 : Int32)) dX7_goes_122 (by decide) ?_
  exact Jo_zret1 rfl dX7_goes_123
def f_X7_goes_b79 (l0 : Nat) (l1 : Int32) (l2 : Int32) (l3 : Int32) (s : hS) : Option (Int32 × hS) :=
  if l1 = (5 : Int32) then
    (cV s l0 7 (f_X7_knownTo s l0 l2)).bind fun p1 =>
    (cV p1.2 l0 7 (f_X7_knownTo p1.2 l0 l3)).bind fun p2 =>
    nmv ((p1.1 ||| p2.1)) fun x3 =>
    (cV p2.2 l0 7 (f_X7_learns p2.2 l0 l2 x3)).bind fun p4 =>
    (cV p4.2 l0 7 (f_X7_learns p4.2 l0 l3 x3)).bind fun p5 =>
    f_X7_goes_b111 l0 p5.2
  else
    f_X7_goes_b111 l0 s
theorem b_X7_goes_79 (E : jE)  (s : hS) (l0 : Nat) (l1 : Int32) (l2 : Int32) (l3 : Int32)  : Jo E M_X7_goes cvI 79 [(0, .ref l0), (1, .int l1), (2, .int l2), (3, .int l3)] [] s (f_X7_goes_b79  l0 l1 l2 l3 s) := by
  unfold f_X7_goes_b79
  refine Jo_iloadn 1 dX7_goes_79 rfl rfl ?_
  refine Jo_iconst (v := (5 : Int32)) dX7_goes_80 (by decide) ?_
  refine Jo_icmp_ne 111 dX7_goes_81 (by decide) rfl ?_ ?_
  · refine Jo_aloadn 0 dX7_goes_84 rfl rfl ?_
    refine Jo_iloadn 2 dX7_goes_85 rfl rfl ?_
    refine Jo_callVi (a := l0) (rest := []) [.int l2] cc_7 yF_X7_knownTo yV_X7_knownTo w_665 rfl rfl ⟨Nat.le_of_ble_eq_true rfl, Nat.le_of_ble_eq_true rfl, Nat.le_of_ble_eq_true rfl⟩ dX7_goes_86 rfl (K_X7_knownTo E s l0 l2) (fun p1 => ?_)
    refine Jo_aloadn 0 dX7_goes_89 rfl rfl ?_
    refine Jo_iloadn 3 dX7_goes_90 rfl rfl ?_
    refine Jo_callVi (a := l0) (rest := [.int p1.1]) [.int l3] cc_7 yF_X7_knownTo yV_X7_knownTo w_665 rfl rfl ⟨Nat.le_of_ble_eq_true rfl, Nat.le_of_ble_eq_true rfl, Nat.le_of_ble_eq_true rfl⟩ dX7_goes_91 rfl (K_X7_knownTo E p1.2 l0 l3) (fun p2 => ?_)
    refine Jo_ior dX7_goes_94 ?_
    refine Jo_nm (fun x3 => ?_)
    refine Jo_istore (ls' := [(6, .int x3), (0, .ref l0), (1, .int l1), (2, .int l2), (3, .int l3)]) dX7_goes_95 (by decide) rfl ?_
    refine Jo_aloadn 1 dX7_goes_97 rfl rfl ?_
    refine Jo_iloadn 3 dX7_goes_98 rfl rfl ?_
    refine Jo_iload 0 dX7_goes_99 rfl ?_
    refine Jo_callVv (a := l0) (rest := []) [.int l2, .int x3] cc_7 yF_X7_learns yV_X7_learns w_708 rfl rfl ⟨Nat.le_of_ble_eq_true rfl, Nat.le_of_ble_eq_true rfl, Nat.le_of_ble_eq_true rfl⟩ dX7_goes_101 rfl (K_X7_learns E p2.2 l0 l2 x3) (fun p4 => ?_)
    refine Jo_aloadn 1 dX7_goes_104 rfl rfl ?_
    refine Jo_iloadn 4 dX7_goes_105 rfl rfl ?_
    refine Jo_iload 0 dX7_goes_106 rfl ?_
    refine Jo_callVv (a := l0) (rest := []) [.int l3, .int x3] cc_7 yF_X7_learns yV_X7_learns w_708 rfl rfl ⟨Nat.le_of_ble_eq_true rfl, Nat.le_of_ble_eq_true rfl, Nat.le_of_ble_eq_true rfl⟩ dX7_goes_108 rfl (K_X7_learns E p4.2 l0 l3 x3) (fun p5 => ?_)
    refine Jo_sub [1] rfl ?_
    exact b_X7_goes_111 E p5.2 l0
  · refine Jo_sub [0] rfl ?_
    exact b_X7_goes_111 E s l0
def f_X7_goes_b35 (l0 : Nat) (l1 : Int32) (l2 : Int32) (l3 : Int32) (l4 : Int32) (l5 : Int32) (s : hS) : Option (Int32 × hS) :=
  (f_X7_asBit s l4).bind fun p1 =>
  (cV p1.2 l0 7 (f_X7_learns p1.2 l0 l3 p1.1)).bind fun p2 =>
  (f_X7_asBit p2.2 l5).bind fun p3 =>
  (cV p3.2 l0 7 (f_X7_learns p3.2 l0 l2 p3.1)).bind fun p4 =>
  if l1 = (3 : Int32) then
    (gR p4.2 l0 7 0).bind fun a5 =>
    (aI p4.2 a5 10 (2 : Int32)).bind fun x6 =>
    if x6 = 0 then none else
    (f_X7_asBit p4.2 l4).bind fun p7 =>
    (cV p7.2 l0 7 (f_X7_learns p7.2 l0 ((l3 + (1 : Int32)) - (l3 + (1 : Int32)) / x6 * x6) p7.1)).bind fun p8 =>
    f_X7_goes_b79 l0 l1 l2 l3 p8.2
  else
    f_X7_goes_b79 l0 l1 l2 l3 p4.2
theorem b_X7_goes_35 (E : jE)  (s : hS) (l0 : Nat) (l1 : Int32) (l2 : Int32) (l3 : Int32) (l4 : Int32) (l5 : Int32)  : Jo E M_X7_goes cvI 35 [(0, .ref l0), (1, .int l1), (2, .int l2), (3, .int l3), (4, .int l4), (5, .int l5)] [] s (f_X7_goes_b35  l0 l1 l2 l3 l4 l5 s) := by
  unfold f_X7_goes_b35
  refine Jo_aloadn 0 dX7_goes_35 rfl rfl ?_
  refine Jo_iloadn 3 dX7_goes_36 rfl rfl ?_
  refine Jo_iload 4 dX7_goes_37 rfl ?_
  refine Jo_callSi (rest := [.int l3, .ref l0]) [.int l4] yF_X7_asBit yS_X7_asBit w_795 rfl rfl ⟨Nat.le_of_ble_eq_true rfl, Nat.le_of_ble_eq_true rfl, Nat.le_of_ble_eq_true rfl⟩ dX7_goes_39 rfl (K_X7_asBit E s l4) (fun p1 => ?_)
  refine Jo_callVv (a := l0) (rest := []) [.int l3, .int p1.1] cc_7 yF_X7_learns yV_X7_learns w_708 rfl rfl ⟨Nat.le_of_ble_eq_true rfl, Nat.le_of_ble_eq_true rfl, Nat.le_of_ble_eq_true rfl⟩ dX7_goes_42 rfl (K_X7_learns E p1.2 l0 l3 p1.1) (fun p2 => ?_)
  refine Jo_aloadn 0 dX7_goes_45 rfl rfl ?_
  refine Jo_iloadn 2 dX7_goes_46 rfl rfl ?_
  refine Jo_iload 5 dX7_goes_47 rfl ?_
  refine Jo_callSi (rest := [.int l2, .ref l0]) [.int l5] yF_X7_asBit yS_X7_asBit w_795 rfl rfl ⟨Nat.le_of_ble_eq_true rfl, Nat.le_of_ble_eq_true rfl, Nat.le_of_ble_eq_true rfl⟩ dX7_goes_49 rfl (K_X7_asBit E p2.2 l5) (fun p3 => ?_)
  refine Jo_callVv (a := l0) (rest := []) [.int l2, .int p3.1] cc_7 yF_X7_learns yV_X7_learns w_708 rfl rfl ⟨Nat.le_of_ble_eq_true rfl, Nat.le_of_ble_eq_true rfl, Nat.le_of_ble_eq_true rfl⟩ dX7_goes_52 rfl (K_X7_learns E p3.2 l0 l2 p3.1) (fun p4 => ?_)
  refine Jo_iloadn 1 dX7_goes_55 rfl rfl ?_
  refine Jo_iconst (v := (3 : Int32)) dX7_goes_56 (by decide) ?_
  refine Jo_icmp_ne 79 dX7_goes_57 (by decide) rfl ?_ ?_
  · refine Jo_aloadn 0 dX7_goes_60 rfl rfl ?_
    refine Jo_iloadn 3 dX7_goes_61 rfl rfl ?_
    refine Jo_iconst (v := (1 : Int32)) dX7_goes_62 (by decide) ?_
    refine Jo_iadd dX7_goes_63 ?_
    refine Jo_aloadn 0 dX7_goes_64 rfl rfl ?_
    refine Jo_getR fF_7_0 fR_7_0 dX7_goes_65 w_598 (fun a5 => ?_)
    refine Jo_iconst (v := (2 : Int32)) dX7_goes_68 (by decide) ?_
    refine Jo_iaload dX7_goes_69 (fun x6 => ?_)
    refine Jo_irem dX7_goes_70 ?_
    refine Jo_iload 4 dX7_goes_71 rfl ?_
    refine Jo_callSi (rest := [.int ((l3 + (1 : Int32)) - (l3 + (1 : Int32)) / x6 * x6), .ref l0]) [.int l4] yF_X7_asBit yS_X7_asBit w_795 rfl rfl ⟨Nat.le_of_ble_eq_true rfl, Nat.le_of_ble_eq_true rfl, Nat.le_of_ble_eq_true rfl⟩ dX7_goes_73 rfl (K_X7_asBit E p4.2 l4) (fun p7 => ?_)
    refine Jo_callVv (a := l0) (rest := []) [.int ((l3 + (1 : Int32)) - (l3 + (1 : Int32)) / x6 * x6), .int p7.1] cc_7 yF_X7_learns yV_X7_learns w_708 rfl rfl ⟨Nat.le_of_ble_eq_true rfl, Nat.le_of_ble_eq_true rfl, Nat.le_of_ble_eq_true rfl⟩ dX7_goes_76 rfl (K_X7_learns E p7.2 l0 ((l3 + (1 : Int32)) - (l3 + (1 : Int32)) / x6 * x6) p7.1) (fun p8 => ?_)
    refine Jo_sub [0, 1, 2, 3] rfl ?_
    exact b_X7_goes_79 E p8.2 l0 l1 l2 l3
  · refine Jo_sub [0, 1, 2, 3] rfl ?_
    exact b_X7_goes_79 E p4.2 l0 l1 l2 l3
def f_X7_goes (s : hS) (a0 : Nat) (i1 : Int32) (i2 : Int32) (i3 : Int32) : Option (Int32 × hS) :=
  (cV s a0 7 (f_X7_givenBy s a0 i1 i2 i3)).bind fun p1 =>
  (cV p1.2 a0 7 (f_X7_gotBy p1.2 a0 i1 i2 i3)).bind fun p2 =>
  if p2.1 < 0 then
    some ((0 : Int32), p2.2)
  else
    if 0 ≤ p1.1 then
      f_X7_goes_b35 a0 i1 i2 i3 p1.1 p2.1 p2.2
    else
      if i1 = (4 : Int32) then
        f_X7_goes_b35 a0 i1 i2 i3 p1.1 p2.1 p2.2
      else
        some ((0 : Int32), p2.2)
theorem b_X7_goes_in (E : jE)  (s : hS) (a0 : Nat) (i1 : Int32) (i2 : Int32) (i3 : Int32)  : Jo E M_X7_goes cvI 0 [(0, .ref a0), (1, .int i1), (2, .int i2), (3, .int i3)] [] s (f_X7_goes s a0 i1 i2 i3) := by
  unfold f_X7_goes
  refine Jo_aloadn 0 dX7_goes_0 rfl rfl ?_
  refine Jo_iloadn 1 dX7_goes_1 rfl rfl ?_
  refine Jo_iloadn 2 dX7_goes_2 rfl rfl ?_
  refine Jo_iloadn 3 dX7_goes_3 rfl rfl ?_
  refine Jo_callVi (a := a0) (rest := []) [.int i1, .int i2, .int i3] cc_7 yF_X7_givenBy yV_X7_givenBy w_765 rfl rfl ⟨Nat.le_of_ble_eq_true rfl, Nat.le_of_ble_eq_true rfl, Nat.le_of_ble_eq_true rfl⟩ dX7_goes_4 rfl (K_X7_givenBy E s a0 i1 i2 i3) (fun p1 => ?_)
  refine Jo_istore (ls' := [(4, .int p1.1), (0, .ref a0), (1, .int i1), (2, .int i2), (3, .int i3)]) dX7_goes_7 (by decide) rfl ?_
  refine Jo_aloadn 1 dX7_goes_9 rfl rfl ?_
  refine Jo_iloadn 2 dX7_goes_10 rfl rfl ?_
  refine Jo_iloadn 3 dX7_goes_11 rfl rfl ?_
  refine Jo_iloadn 4 dX7_goes_12 rfl rfl ?_
  refine Jo_callVi (a := a0) (rest := []) [.int i1, .int i2, .int i3] cc_7 yF_X7_gotBy yV_X7_gotBy w_769 rfl rfl ⟨Nat.le_of_ble_eq_true rfl, Nat.le_of_ble_eq_true rfl, Nat.le_of_ble_eq_true rfl⟩ dX7_goes_13 rfl (K_X7_gotBy E p1.2 a0 i1 i2 i3) (fun p2 => ?_)
  refine Jo_istore (ls' := [(5, .int p2.1), (4, .int p1.1), (0, .ref a0), (1, .int i1), (2, .int i2), (3, .int i3)]) dX7_goes_16 (by decide) rfl ?_
  refine Jo_iload 0 dX7_goes_18 rfl ?_
  refine Jo_if_lt 33 dX7_goes_20 (by decide) rfl ?_ ?_
  · refine Jo_iconst (v := (0 : Int32)) dX7_goes_33 (by decide) ?_
    exact Jo_zret0 rfl dX7_goes_34
  · refine Jo_iload 1 dX7_goes_23 rfl ?_
    refine Jo_if_ge 35 dX7_goes_25 (by decide) rfl ?_ ?_
    · refine Jo_sub [2, 3, 4, 5, 1, 0] rfl ?_
      exact b_X7_goes_35 E p2.2 a0 i1 i2 i3 p1.1 p2.1
    · refine Jo_iloadn 3 dX7_goes_28 rfl rfl ?_
      refine Jo_iconst (v := (4 : Int32)) dX7_goes_29 (by decide) ?_
      refine Jo_icmp_eq 35 dX7_goes_30 (by decide) rfl ?_ ?_
      · refine Jo_sub [2, 3, 4, 5, 1, 0] rfl ?_
        exact b_X7_goes_35 E p2.2 a0 i1 i2 i3 p1.1 p2.1
      · refine Jo_iconst (v := (0 : Int32)) dX7_goes_33 (by decide) ?_
        exact Jo_zret0 rfl dX7_goes_34
theorem K_X7_goes (E : jE) (s : hS) (a0 : Nat) (i1 : Int32) (i2 : Int32) (i3 : Int32) : jK E yX7_goes M_X7_goes cvI [.ref a0, .int i1, .int i2, .int i3] s (f_X7_goes s a0 i1 i2 i3) := jK_of ⟨by decide, rfl, rfl⟩ (Nat.le_of_ble_eq_true rfl) (b_X7_goes_in E s a0 i1 i2 i3)
/-! HeronTalkModel.goesOn(I)Z -/
abbrev M_X7_goesOn : jM := (RX7, cX7_goesOn, 2, (some .boolean), "goesOn", 8, 193)
theorem yF_X7_goesOn : yF yX7_goesOn M_X7_goesOn 1 := ⟨w_800, w_624, by decide +kernel⟩
theorem yV_X7_goesOn : Cond.instanceMethod yX7_goesOn ∈ tbG ∧ Cond.selects yX7_goesOn.cls yX7_goesOn yX7_goesOn ∈ tbG := ⟨w_801, w_802⟩
theorem dX7_goesOn_0 : dI cX7_goesOn 0 1 (.aload_n 0) 1 := ⟨by decide +kernel, rfl⟩
theorem dX7_goesOn_1 : dI cX7_goesOn 1 2 (.aload_n 0) 1 := ⟨by decide +kernel, rfl⟩
theorem dX7_goesOn_2 : dI cX7_goesOn 2 5 (.getfield 9) 3 := ⟨by decide +kernel, rfl⟩
theorem dX7_goesOn_5 : dI cX7_goesOn 5 7 (.bipush 80) 2 := ⟨by decide +kernel, rfl⟩
theorem dX7_goesOn_7 : dI cX7_goesOn 7 8 (.iconst 3) 1 := ⟨by decide +kernel, rfl⟩
theorem dX7_goesOn_8 : dI cX7_goesOn 8 9 (.iload_n 1) 1 := ⟨by decide +kernel, rfl⟩
theorem dX7_goesOn_9 : dI cX7_goesOn 9 10 (.imul) 1 := ⟨by decide +kernel, rfl⟩
theorem dX7_goesOn_10 : dI cX7_goesOn 10 11 (.iadd) 1 := ⟨by decide +kernel, rfl⟩
theorem dX7_goesOn_11 : dI cX7_goesOn 11 12 (.iaload) 1 := ⟨by decide +kernel, rfl⟩
theorem dX7_goesOn_12 : dI cX7_goesOn 12 13 (.aload_n 0) 1 := ⟨by decide +kernel, rfl⟩
theorem dX7_goesOn_13 : dI cX7_goesOn 13 16 (.getfield 9) 3 := ⟨by decide +kernel, rfl⟩
theorem dX7_goesOn_16 : dI cX7_goesOn 16 18 (.bipush 80) 2 := ⟨by decide +kernel, rfl⟩
theorem dX7_goesOn_18 : dI cX7_goesOn 18 19 (.iconst 3) 1 := ⟨by decide +kernel, rfl⟩
theorem dX7_goesOn_19 : dI cX7_goesOn 19 20 (.iload_n 1) 1 := ⟨by decide +kernel, rfl⟩
theorem dX7_goesOn_20 : dI cX7_goesOn 20 21 (.imul) 1 := ⟨by decide +kernel, rfl⟩
theorem dX7_goesOn_21 : dI cX7_goesOn 21 22 (.iadd) 1 := ⟨by decide +kernel, rfl⟩
theorem dX7_goesOn_22 : dI cX7_goesOn 22 23 (.iconst 1) 1 := ⟨by decide +kernel, rfl⟩
theorem dX7_goesOn_23 : dI cX7_goesOn 23 24 (.iadd) 1 := ⟨by decide +kernel, rfl⟩
theorem dX7_goesOn_24 : dI cX7_goesOn 24 25 (.iaload) 1 := ⟨by decide +kernel, rfl⟩
theorem dX7_goesOn_25 : dI cX7_goesOn 25 26 (.aload_n 0) 1 := ⟨by decide +kernel, rfl⟩
theorem dX7_goesOn_26 : dI cX7_goesOn 26 29 (.getfield 9) 3 := ⟨by decide +kernel, rfl⟩
theorem dX7_goesOn_29 : dI cX7_goesOn 29 31 (.bipush 80) 2 := ⟨by decide +kernel, rfl⟩
theorem dX7_goesOn_31 : dI cX7_goesOn 31 32 (.iconst 3) 1 := ⟨by decide +kernel, rfl⟩
theorem dX7_goesOn_32 : dI cX7_goesOn 32 33 (.iload_n 1) 1 := ⟨by decide +kernel, rfl⟩
theorem dX7_goesOn_33 : dI cX7_goesOn 33 34 (.imul) 1 := ⟨by decide +kernel, rfl⟩
theorem dX7_goesOn_34 : dI cX7_goesOn 34 35 (.iadd) 1 := ⟨by decide +kernel, rfl⟩
theorem dX7_goesOn_35 : dI cX7_goesOn 35 36 (.iconst 2) 1 := ⟨by decide +kernel, rfl⟩
theorem dX7_goesOn_36 : dI cX7_goesOn 36 37 (.iadd) 1 := ⟨by decide +kernel, rfl⟩
theorem dX7_goesOn_37 : dI cX7_goesOn 37 38 (.iaload) 1 := ⟨by decide +kernel, rfl⟩
theorem dX7_goesOn_38 : decode cX7_goesOn 38 = .ok (.invokevirtual 183, 3) := by decide +kernel
theorem dX7_goesOn_41 : dI cX7_goesOn 41 42 (.ireturn) 1 := ⟨by decide +kernel, rfl⟩
def f_X7_goesOn (s : hS) (a0 : Nat) (i1 : Int32) : Option (Int32 × hS) :=
  (gR s a0 7 0).bind fun a1 =>
  (aI s a1 10 ((80 : Int32) + ((3 : Int32) * i1))).bind fun x2 =>
  (gR s a0 7 0).bind fun a3 =>
  (aI s a3 10 (((80 : Int32) + ((3 : Int32) * i1)) + (1 : Int32))).bind fun x4 =>
  (gR s a0 7 0).bind fun a5 =>
  (aI s a5 10 (((80 : Int32) + ((3 : Int32) * i1)) + (2 : Int32))).bind fun x6 =>
  (cV s a0 7 (f_X7_goes s a0 x2 x4 x6)).bind fun p7 =>
  if p7.1 = 0 ∨ p7.1 = 1 then some (p7.1, p7.2) else none
theorem b_X7_goesOn_in (E : jE)  (s : hS) (a0 : Nat) (i1 : Int32)  : Jo E M_X7_goesOn cvI 0 [(0, .ref a0), (1, .int i1)] [] s (f_X7_goesOn s a0 i1) := by
  unfold f_X7_goesOn
  refine Jo_aloadn 0 dX7_goesOn_0 rfl rfl ?_
  refine Jo_aloadn 0 dX7_goesOn_1 rfl rfl ?_
  refine Jo_getR fF_7_0 fR_7_0 dX7_goesOn_2 w_598 (fun a1 => ?_)
  refine Jo_bipush (v := (80 : Int32)) dX7_goesOn_5 (by decide) ?_
  refine Jo_iconst (v := (3 : Int32)) dX7_goesOn_7 (by decide) ?_
  refine Jo_iloadn 1 dX7_goesOn_8 rfl rfl ?_
  refine Jo_imul dX7_goesOn_9 ?_
  refine Jo_iadd dX7_goesOn_10 ?_
  refine Jo_iaload dX7_goesOn_11 (fun x2 => ?_)
  refine Jo_aloadn 0 dX7_goesOn_12 rfl rfl ?_
  refine Jo_getR fF_7_0 fR_7_0 dX7_goesOn_13 w_598 (fun a3 => ?_)
  refine Jo_bipush (v := (80 : Int32)) dX7_goesOn_16 (by decide) ?_
  refine Jo_iconst (v := (3 : Int32)) dX7_goesOn_18 (by decide) ?_
  refine Jo_iloadn 1 dX7_goesOn_19 rfl rfl ?_
  refine Jo_imul dX7_goesOn_20 ?_
  refine Jo_iadd dX7_goesOn_21 ?_
  refine Jo_iconst (v := (1 : Int32)) dX7_goesOn_22 (by decide) ?_
  refine Jo_iadd dX7_goesOn_23 ?_
  refine Jo_iaload dX7_goesOn_24 (fun x4 => ?_)
  refine Jo_aloadn 0 dX7_goesOn_25 rfl rfl ?_
  refine Jo_getR fF_7_0 fR_7_0 dX7_goesOn_26 w_598 (fun a5 => ?_)
  refine Jo_bipush (v := (80 : Int32)) dX7_goesOn_29 (by decide) ?_
  refine Jo_iconst (v := (3 : Int32)) dX7_goesOn_31 (by decide) ?_
  refine Jo_iloadn 1 dX7_goesOn_32 rfl rfl ?_
  refine Jo_imul dX7_goesOn_33 ?_
  refine Jo_iadd dX7_goesOn_34 ?_
  refine Jo_iconst (v := (2 : Int32)) dX7_goesOn_35 (by decide) ?_
  refine Jo_iadd dX7_goesOn_36 ?_
  refine Jo_iaload dX7_goesOn_37 (fun x6 => ?_)
  refine Jo_callVi (a := a0) (rest := []) [.int x2, .int x4, .int x6] cc_7 yF_X7_goes yV_X7_goes w_799 rfl rfl ⟨Nat.le_of_ble_eq_true rfl, Nat.le_of_ble_eq_true rfl, Nat.le_of_ble_eq_true rfl⟩ dX7_goesOn_38 rfl (K_X7_goes E s a0 x2 x4 x6) (fun p7 => ?_)
  exact Jo_zret rfl dX7_goesOn_41
theorem K_X7_goesOn (E : jE) (s : hS) (a0 : Nat) (i1 : Int32) : jK E yX7_goesOn M_X7_goesOn cvI [.ref a0, .int i1] s (f_X7_goesOn s a0 i1) := jK_of ⟨by decide, rfl, rfl⟩ (Nat.le_of_ble_eq_true rfl) (b_X7_goesOn_in E s a0 i1)
/-! HeronTalkModel.say(I)I -/
abbrev M_X7_say : jM := (RX7, cX7_say, 2, (some .int), "say", 9, 214)
theorem yF_X7_say : yF yX7_say M_X7_say 1 := ⟨w_804, w_624, by decide +kernel⟩
theorem yV_X7_say : Cond.instanceMethod yX7_say ∈ tbG ∧ Cond.selects yX7_say.cls yX7_say yX7_say ∈ tbG := ⟨w_805, w_806⟩
theorem dX7_say_0 : dI cX7_say 0 1 (.aload_n 0) 1 := ⟨by decide +kernel, rfl⟩
theorem dX7_say_1 : dI cX7_say 1 2 (.iload_n 1) 1 := ⟨by decide +kernel, rfl⟩
theorem dX7_say_2 : decode cX7_say 2 = .ok (.invokevirtual 164, 3) := by decide +kernel
theorem dX7_say_5 : decode cX7_say 5 = .ok (.ifCond .ne 6, 3) := by decide +kernel
theorem dX7_say_8 : dI cX7_say 8 10 (.ldc 87) 2 := ⟨by decide +kernel, rfl⟩
theorem dX7_say_10 : dI cX7_say 10 11 (.ireturn) 1 := ⟨by decide +kernel, rfl⟩
theorem dX7_say_11 : dI cX7_say 11 12 (.aload_n 0) 1 := ⟨by decide +kernel, rfl⟩
theorem dX7_say_12 : dI cX7_say 12 13 (.iload_n 1) 1 := ⟨by decide +kernel, rfl⟩
theorem dX7_say_13 : decode cX7_say 13 = .ok (.invokevirtual 186, 3) := by decide +kernel
theorem dX7_say_16 : decode cX7_say 16 = .ok (.ifCond .eq 7, 3) := by decide +kernel
theorem dX7_say_19 : dI cX7_say 19 20 (.iconst 1) 1 := ⟨by decide +kernel, rfl⟩
theorem dX7_say_20 : decode cX7_say 20 = .ok (.goto 4, 3) := by decide +kernel
theorem dX7_say_23 : dI cX7_say 23 24 (.iconst 0) 1 := ⟨by decide +kernel, rfl⟩
theorem dX7_say_24 : dI cX7_say 24 25 (.ireturn) 1 := ⟨by decide +kernel, rfl⟩
def f_X7_say (s : hS) (a0 : Nat) (i1 : Int32) : Option (Int32 × hS) :=
  (cV s a0 7 (f_X7_isTalk s a0 i1)).bind fun p1 =>
  if p1.1 = 0 then
    some ((-1000000001 : Int32), p1.2)
  else
    (cV p1.2 a0 7 (f_X7_goesOn p1.2 a0 i1)).bind fun p2 =>
    if p2.1 = 0 then
      some ((0 : Int32), p2.2)
    else
      some ((1 : Int32), p2.2)
theorem b_X7_say_in (E : jE)  (s : hS) (a0 : Nat) (i1 : Int32)  : Jo E M_X7_say cvI 0 [(0, .ref a0), (1, .int i1)] [] s (f_X7_say s a0 i1) := by
  unfold f_X7_say
  refine Jo_aloadn 0 dX7_say_0 rfl rfl ?_
  refine Jo_iloadn 1 dX7_say_1 rfl rfl ?_
  refine Jo_callVi (a := a0) (rest := []) [.int i1] cc_7 yF_X7_isTalk yV_X7_isTalk w_779 rfl rfl ⟨Nat.le_of_ble_eq_true rfl, Nat.le_of_ble_eq_true rfl, Nat.le_of_ble_eq_true rfl⟩ dX7_say_2 rfl (K_X7_isTalk E s a0 i1) (fun p1 => ?_)
  refine Jo_if_ne 11 dX7_say_5 (by decide) rfl ?_ ?_
  · refine Jo_ldc dX7_say_8 w_673 ?_
    exact Jo_iret rfl dX7_say_10
  · refine Jo_aloadn 0 dX7_say_11 rfl rfl ?_
    refine Jo_iloadn 1 dX7_say_12 rfl rfl ?_
    refine Jo_callVi (a := a0) (rest := []) [.int i1] cc_7 yF_X7_goesOn yV_X7_goesOn w_803 rfl rfl ⟨Nat.le_of_ble_eq_true rfl, Nat.le_of_ble_eq_true rfl, Nat.le_of_ble_eq_true rfl⟩ dX7_say_13 rfl (K_X7_goesOn E p1.2 a0 i1) (fun p2 => ?_)
    refine Jo_if_eq 23 dX7_say_16 (by decide) rfl ?_ ?_
    · refine Jo_iconst (v := (0 : Int32)) dX7_say_23 (by decide) ?_
      exact Jo_iret rfl dX7_say_24
    · refine Jo_iconst (v := (1 : Int32)) dX7_say_19 (by decide) ?_
      refine Jo_goto 24 dX7_say_20 (by decide) ?_
      exact Jo_iret rfl dX7_say_24
theorem K_X7_say (E : jE) (s : hS) (a0 : Nat) (i1 : Int32) : jK E yX7_say M_X7_say cvI [.ref a0, .int i1] s (f_X7_say s a0 i1) := jK_of ⟨by decide, rfl, rfl⟩ (Nat.le_of_ble_eq_true rfl) (b_X7_say_in E s a0 i1)
/-! HeronTalkModel.aRound()I -/
abbrev M_X7_aRound : jM := (RX7, cX7_aRound, 3, (some .int), "aRound", 9, 214)
theorem yF_X7_aRound : yF yX7_aRound M_X7_aRound 0 := ⟨w_807, w_624, by decide +kernel⟩
theorem yV_X7_aRound : Cond.instanceMethod yX7_aRound ∈ tbG ∧ Cond.selects yX7_aRound.cls yX7_aRound yX7_aRound ∈ tbG := ⟨w_808, w_809⟩
theorem dX7_aRound_0 : dI cX7_aRound 0 1 (.iconst 0) 1 := ⟨by decide +kernel, rfl⟩
theorem dX7_aRound_1 : dI cX7_aRound 1 2 (.istore_n 1) 1 := ⟨by decide +kernel, rfl⟩
theorem dX7_aRound_2 : dI cX7_aRound 2 3 (.iconst 0) 1 := ⟨by decide +kernel, rfl⟩
theorem dX7_aRound_3 : dI cX7_aRound 3 4 (.istore_n 2) 1 := ⟨by decide +kernel, rfl⟩
theorem dX7_aRound_4 : dI cX7_aRound 4 5 (.iload_n 2) 1 := ⟨by decide +kernel, rfl⟩
theorem dX7_aRound_5 : dI cX7_aRound 5 6 (.aload_n 0) 1 := ⟨by decide +kernel, rfl⟩
theorem dX7_aRound_6 : dI cX7_aRound 6 9 (.getfield 9) 3 := ⟨by decide +kernel, rfl⟩
theorem dX7_aRound_9 : dI cX7_aRound 9 10 (.iconst 3) 1 := ⟨by decide +kernel, rfl⟩
theorem dX7_aRound_10 : dI cX7_aRound 10 11 (.iaload) 1 := ⟨by decide +kernel, rfl⟩
theorem dX7_aRound_11 : decode cX7_aRound 11 = .ok (.if_icmp .ge 25, 3) := by decide +kernel
theorem dX7_aRound_14 : dI cX7_aRound 14 15 (.iload_n 1) 1 := ⟨by decide +kernel, rfl⟩
theorem dX7_aRound_15 : dI cX7_aRound 15 16 (.aload_n 0) 1 := ⟨by decide +kernel, rfl⟩
theorem dX7_aRound_16 : dI cX7_aRound 16 17 (.iload_n 2) 1 := ⟨by decide +kernel, rfl⟩
theorem dX7_aRound_17 : decode cX7_aRound 17 = .ok (.invokevirtual 186, 3) := by decide +kernel
theorem dX7_aRound_20 : decode cX7_aRound 20 = .ok (.ifCond .eq 7, 3) := by decide +kernel
theorem dX7_aRound_23 : dI cX7_aRound 23 24 (.iconst 1) 1 := ⟨by decide +kernel, rfl⟩
theorem dX7_aRound_24 : decode cX7_aRound 24 = .ok (.goto 4, 3) := by decide +kernel
theorem dX7_aRound_27 : dI cX7_aRound 27 28 (.iconst 0) 1 := ⟨by decide +kernel, rfl⟩
theorem dX7_aRound_28 : dI cX7_aRound 28 29 (.iadd) 1 := ⟨by decide +kernel, rfl⟩
theorem dX7_aRound_29 : dI cX7_aRound 29 30 (.istore_n 1) 1 := ⟨by decide +kernel, rfl⟩
theorem dX7_aRound_30 : dI cX7_aRound 30 33 (.iinc 2 1) 3 := ⟨by decide +kernel, rfl⟩
theorem dX7_aRound_33 : decode cX7_aRound 33 = .ok (.goto (-29), 3) := by decide +kernel
theorem dX7_aRound_36 : dI cX7_aRound 36 37 (.aload_n 0) 1 := ⟨by decide +kernel, rfl⟩
theorem dX7_aRound_37 : dI cX7_aRound 37 40 (.getfield 9) 3 := ⟨by decide +kernel, rfl⟩
theorem dX7_aRound_40 : dI cX7_aRound 40 41 (.iconst 5) 1 := ⟨by decide +kernel, rfl⟩
theorem dX7_aRound_41 : dI cX7_aRound 41 42 (.dup2) 1 := ⟨by decide +kernel, rfl⟩
theorem dX7_aRound_42 : dI cX7_aRound 42 43 (.iaload) 1 := ⟨by decide +kernel, rfl⟩
theorem dX7_aRound_43 : dI cX7_aRound 43 44 (.iconst 1) 1 := ⟨by decide +kernel, rfl⟩
theorem dX7_aRound_44 : dI cX7_aRound 44 45 (.iadd) 1 := ⟨by decide +kernel, rfl⟩
theorem dX7_aRound_45 : dI cX7_aRound 45 46 (.iastore) 1 := ⟨by decide +kernel, rfl⟩
theorem dX7_aRound_46 : dI cX7_aRound 46 47 (.iload_n 1) 1 := ⟨by decide +kernel, rfl⟩
theorem dX7_aRound_47 : dI cX7_aRound 47 48 (.ireturn) 1 := ⟨by decide +kernel, rfl⟩
def f_X7_aRound_b28 (k4 : Nat → Int32 → Int32 → hS → Option (Int32 × hS)) (l0 : Nat) (l2 : Int32) (t0 : Int32) (t1 : Int32) (s : hS) : Option (Int32 × hS) :=
  nmv ((t0 + t1)) fun x1 =>
  k4 l0 x1 (l2 + (1 : Int32)) s
theorem b_X7_aRound_28 (E : jE) (k4 : Nat → Int32 → Int32 → hS → Option (Int32 × hS)) (h4 : ∀ (s : hS) (l0 : Nat) (l1 : Int32) (l2 : Int32) , Jo E M_X7_aRound cvI 4 [(0, .ref l0), (1, .int l1), (2, .int l2)] [] s (k4 l0 l1 l2 s)) (s : hS) (l0 : Nat) (l2 : Int32) (t0 : Int32) (t1 : Int32) : Jo E M_X7_aRound cvI 28 [(0, .ref l0), (2, .int l2)] [.int t1, .int t0] s (f_X7_aRound_b28 k4 l0 l2 t0 t1 s) := by
  unfold f_X7_aRound_b28
  refine Jo_iadd dX7_aRound_28 ?_
  refine Jo_nm (fun x1 => ?_)
  refine Jo_istoren (ls' := [(1, .int x1), (0, .ref l0), (2, .int l2)]) dX7_aRound_29 rfl (by decide) rfl ?_
  refine Jo_iinc (v := (l2 + (1 : Int32))) (ls' := [(2, .int (l2 + (1 : Int32))), (1, .int x1), (0, .ref l0)]) 2 dX7_aRound_30 rfl rfl (by decide) rfl ?_
  refine Jo_goto 4 dX7_aRound_33 (by decide) ?_
  refine Jo_sub [2, 1, 0] rfl ?_
  exact h4 s l0 x1 (l2 + (1 : Int32))
def f_X7_aRound_b4 (k4 : Nat → Int32 → Int32 → hS → Option (Int32 × hS)) (l0 : Nat) (l1 : Int32) (l2 : Int32) (s : hS) : Option (Int32 × hS) :=
  (gR s l0 7 0).bind fun a1 =>
  (aI s a1 10 (3 : Int32)).bind fun x2 =>
  if x2 ≤ l2 then
    (gR s l0 7 0).bind fun a3 =>
    (aI s a3 10 (5 : Int32)).bind fun x4 =>
    (sI s a3 10 (5 : Int32) (x4 + (1 : Int32))).bind fun s5 =>
    some (l1, s5)
  else
    (cV s l0 7 (f_X7_goesOn s l0 l2)).bind fun p6 =>
    if p6.1 = 0 then
      f_X7_aRound_b28 k4 l0 l2 l1 (0 : Int32) p6.2
    else
      f_X7_aRound_b28 k4 l0 l2 l1 (1 : Int32) p6.2
theorem b_X7_aRound_4 (E : jE) (k4 : Nat → Int32 → Int32 → hS → Option (Int32 × hS)) (h4 : ∀ (s : hS) (l0 : Nat) (l1 : Int32) (l2 : Int32) , Jo E M_X7_aRound cvI 4 [(0, .ref l0), (1, .int l1), (2, .int l2)] [] s (k4 l0 l1 l2 s)) (s : hS) (l0 : Nat) (l1 : Int32) (l2 : Int32)  : Jo E M_X7_aRound cvI 4 [(0, .ref l0), (1, .int l1), (2, .int l2)] [] s (f_X7_aRound_b4 k4 l0 l1 l2 s) := by
  unfold f_X7_aRound_b4
  refine Jo_iloadn 2 dX7_aRound_4 rfl rfl ?_
  refine Jo_aloadn 0 dX7_aRound_5 rfl rfl ?_
  refine Jo_getR fF_7_0 fR_7_0 dX7_aRound_6 w_598 (fun a1 => ?_)
  refine Jo_iconst (v := (3 : Int32)) dX7_aRound_9 (by decide) ?_
  refine Jo_iaload dX7_aRound_10 (fun x2 => ?_)
  refine Jo_icmp_ge 36 dX7_aRound_11 (by decide) rfl ?_ ?_
  · refine Jo_aloadn 0 dX7_aRound_36 rfl rfl ?_
    refine Jo_getR fF_7_0 fR_7_0 dX7_aRound_37 w_598 (fun a3 => ?_)
    refine Jo_iconst (v := (5 : Int32)) dX7_aRound_40 (by decide) ?_
    refine Jo_dup2 dX7_aRound_41 rfl rfl ?_
    refine Jo_iaload dX7_aRound_42 (fun x4 => ?_)
    refine Jo_iconst (v := (1 : Int32)) dX7_aRound_43 (by decide) ?_
    refine Jo_iadd dX7_aRound_44 ?_
    refine Jo_iastore dX7_aRound_45 (fun s5 => ?_)
    refine Jo_iloadn 1 dX7_aRound_46 rfl rfl ?_
    exact Jo_iret rfl dX7_aRound_47
  · refine Jo_iloadn 1 dX7_aRound_14 rfl rfl ?_
    refine Jo_aloadn 0 dX7_aRound_15 rfl rfl ?_
    refine Jo_iloadn 2 dX7_aRound_16 rfl rfl ?_
    refine Jo_callVi (a := l0) (rest := [.int l1]) [.int l2] cc_7 yF_X7_goesOn yV_X7_goesOn w_803 rfl rfl ⟨Nat.le_of_ble_eq_true rfl, Nat.le_of_ble_eq_true rfl, Nat.le_of_ble_eq_true rfl⟩ dX7_aRound_17 rfl (K_X7_goesOn E s l0 l2) (fun p6 => ?_)
    refine Jo_if_eq 27 dX7_aRound_20 (by decide) rfl ?_ ?_
    · refine Jo_iconst (v := (0 : Int32)) dX7_aRound_27 (by decide) ?_
      refine Jo_sub [0, 2] rfl ?_
      exact b_X7_aRound_28 E k4 h4 p6.2 l0 l2 l1 (0 : Int32)
    · refine Jo_iconst (v := (1 : Int32)) dX7_aRound_23 (by decide) ?_
      refine Jo_goto 28 dX7_aRound_24 (by decide) ?_
      refine Jo_sub [0, 2] rfl ?_
      exact b_X7_aRound_28 E k4 h4 p6.2 l0 l2 l1 (1 : Int32)
theorem e_X7_aRound_4 (E : jE)  (n : Nat) : ∀ (s : hS) (l0 : Nat) (l1 : Int32) (l2 : Int32) , Jo E M_X7_aRound cvI 4 [(0, .ref l0), (1, .int l1), (2, .int l2)] [] s ((jL f_X7_aRound_b4 (fun _ _ _ _ => none) n) l0 l1 l2 s) :=
  jL_ind (P := fun f => ∀ (s : hS) (l0 : Nat) (l1 : Int32) (l2 : Int32) , Jo E M_X7_aRound cvI 4 [(0, .ref l0), (1, .int l1), (2, .int l2)] [] s (f l0 l1 l2 s)) (fun _ _ _ _ => Jo_none) (fun b hb s l0 l1 l2 => b_X7_aRound_4 E  b hb s l0 l1 l2) n
def f_X7_aRound (s : hS) (a0 : Nat) : Option (Int32 × hS) :=
  jL f_X7_aRound_b4 (fun _ _ _ _ => none) jF a0 (0 : Int32) (0 : Int32) s
theorem b_X7_aRound_in (E : jE)  (s : hS) (a0 : Nat)  : Jo E M_X7_aRound cvI 0 [(0, .ref a0)] [] s (f_X7_aRound s a0) := by
  unfold f_X7_aRound
  refine Jo_iconst (v := (0 : Int32)) dX7_aRound_0 (by decide) ?_
  refine Jo_istoren (ls' := [(1, .int (0 : Int32)), (0, .ref a0)]) dX7_aRound_1 rfl (by decide) rfl ?_
  refine Jo_iconst (v := (0 : Int32)) dX7_aRound_2 (by decide) ?_
  refine Jo_istoren (ls' := [(2, .int (0 : Int32)), (1, .int (0 : Int32)), (0, .ref a0)]) dX7_aRound_3 rfl (by decide) rfl ?_
  refine Jo_sub [2, 1, 0] rfl ?_
  exact e_X7_aRound_4 E jF s a0 (0 : Int32) (0 : Int32)
theorem K_X7_aRound (E : jE) (s : hS) (a0 : Nat) : jK E yX7_aRound M_X7_aRound cvI [.ref a0] s (f_X7_aRound s a0) := jK_of ⟨by decide, rfl, rfl⟩ (Nat.le_of_ble_eq_true rfl) (b_X7_aRound_in E s a0)
/-! HeronTalkModel.round()I -/
abbrev M_X7_round : jM := (RX7, cX7_round, 1, (some .int), "round", 10, 236)
theorem yF_X7_round : yF yX7_round M_X7_round 0 := ⟨w_812, w_624, by decide +kernel⟩
theorem yV_X7_round : Cond.instanceMethod yX7_round ∈ tbG ∧ Cond.selects yX7_round.cls yX7_round yX7_round ∈ tbG := ⟨w_813, w_814⟩
theorem dX7_round_0 : dI cX7_round 0 1 (.aload_n 0) 1 := ⟨by decide +kernel, rfl⟩
theorem dX7_round_1 : dI cX7_round 1 4 (.getfield 9) 3 := ⟨by decide +kernel, rfl⟩
theorem dX7_round_4 : dI cX7_round 4 5 (.iconst 5) 1 := ⟨by decide +kernel, rfl⟩
theorem dX7_round_5 : dI cX7_round 5 6 (.iaload) 1 := ⟨by decide +kernel, rfl⟩
theorem dX7_round_6 : dI cX7_round 6 9 (.sipush 999) 3 := ⟨by decide +kernel, rfl⟩
theorem dX7_round_9 : decode cX7_round 9 = .ok (.if_icmp .ne 8, 3) := by decide +kernel
theorem dX7_round_12 : dI cX7_round 12 14 (.ldc 189) 2 := ⟨by decide +kernel, rfl⟩
theorem dX7_round_14 : decode cX7_round 14 = .ok (.goto 7, 3) := by decide +kernel
theorem dX7_round_17 : dI cX7_round 17 18 (.aload_n 0) 1 := ⟨by decide +kernel, rfl⟩
theorem dX7_round_18 : decode cX7_round 18 = .ok (.invokevirtual 190, 3) := by decide +kernel
theorem dX7_round_21 : dI cX7_round 21 22 (.ireturn) 1 := ⟨by decide +kernel, rfl⟩
def f_X7_round (s : hS) (a0 : Nat) : Option (Int32 × hS) :=
  (gR s a0 7 0).bind fun a1 =>
  (aI s a1 10 (5 : Int32)).bind fun x2 =>
  if x2 = (999 : Int32) then
    some ((-1000000002 : Int32), s)
  else
    (cV s a0 7 (f_X7_aRound s a0)).bind fun p3 =>
    some (p3.1, p3.2)
theorem b_X7_round_in (E : jE)  (s : hS) (a0 : Nat)  : Jo E M_X7_round cvI 0 [(0, .ref a0)] [] s (f_X7_round s a0) := by
  unfold f_X7_round
  refine Jo_aloadn 0 dX7_round_0 rfl rfl ?_
  refine Jo_getR fF_7_0 fR_7_0 dX7_round_1 w_598 (fun a1 => ?_)
  refine Jo_iconst (v := (5 : Int32)) dX7_round_4 (by decide) ?_
  refine Jo_iaload dX7_round_5 (fun x2 => ?_)
  refine Jo_sipush (v := (999 : Int32)) dX7_round_6 (by decide) ?_
  refine Jo_icmp_ne 17 dX7_round_9 (by decide) rfl ?_ ?_
  · refine Jo_ldc dX7_round_12 w_811 ?_
    refine Jo_goto 21 dX7_round_14 (by decide) ?_
    exact Jo_iret rfl dX7_round_21
  · refine Jo_aloadn 0 dX7_round_17 rfl rfl ?_
    refine Jo_callVi (a := a0) (rest := []) [] cc_7 yF_X7_aRound yV_X7_aRound w_810 rfl rfl ⟨Nat.le_of_ble_eq_true rfl, Nat.le_of_ble_eq_true rfl, Nat.le_of_ble_eq_true rfl⟩ dX7_round_18 rfl (K_X7_aRound E s a0) (fun p3 => ?_)
    exact Jo_iret rfl dX7_round_21
theorem K_X7_round (E : jE) (s : hS) (a0 : Nat) : jK E yX7_round M_X7_round cvI [.ref a0] s (f_X7_round s a0) := jK_of ⟨by decide, rfl, rfl⟩ (Nat.le_of_ble_eq_true rfl) (b_X7_round_in E s a0)
/-! HeronTalkModel.market()I -/
abbrev M_X7_market : jM := (RX7, cX7_market, 3, (some .int), "market", 10, 236)
theorem yF_X7_market : yF yX7_market M_X7_market 0 := ⟨w_815, w_624, by decide +kernel⟩
theorem yV_X7_market : Cond.instanceMethod yX7_market ∈ tbG ∧ Cond.selects yX7_market.cls yX7_market yX7_market ∈ tbG := ⟨w_816, w_817⟩
theorem dX7_market_0 : dI cX7_market 0 1 (.iconst 0) 1 := ⟨by decide +kernel, rfl⟩
theorem dX7_market_1 : dI cX7_market 1 2 (.istore_n 1) 1 := ⟨by decide +kernel, rfl⟩
theorem dX7_market_2 : dI cX7_market 2 3 (.iconst 1) 1 := ⟨by decide +kernel, rfl⟩
theorem dX7_market_3 : dI cX7_market 3 4 (.istore_n 2) 1 := ⟨by decide +kernel, rfl⟩
theorem dX7_market_4 : dI cX7_market 4 5 (.iload_n 2) 1 := ⟨by decide +kernel, rfl⟩
theorem dX7_market_5 : decode cX7_market 5 = .ok (.ifCond .eq 34, 3) := by decide +kernel
theorem dX7_market_8 : dI cX7_market 8 9 (.aload_n 0) 1 := ⟨by decide +kernel, rfl⟩
theorem dX7_market_9 : dI cX7_market 9 12 (.getfield 9) 3 := ⟨by decide +kernel, rfl⟩
theorem dX7_market_12 : dI cX7_market 12 13 (.iconst 5) 1 := ⟨by decide +kernel, rfl⟩
theorem dX7_market_13 : dI cX7_market 13 14 (.iaload) 1 := ⟨by decide +kernel, rfl⟩
theorem dX7_market_14 : dI cX7_market 14 17 (.sipush 999) 3 := ⟨by decide +kernel, rfl⟩
theorem dX7_market_17 : decode cX7_market 17 = .ok (.if_icmp .ge 22, 3) := by decide +kernel
theorem dX7_market_20 : dI cX7_market 20 21 (.aload_n 0) 1 := ⟨by decide +kernel, rfl⟩
theorem dX7_market_21 : decode cX7_market 21 = .ok (.invokevirtual 190, 3) := by decide +kernel
theorem dX7_market_24 : decode cX7_market 24 = .ok (.ifCond .le 7, 3) := by decide +kernel
theorem dX7_market_27 : dI cX7_market 27 28 (.iconst 1) 1 := ⟨by decide +kernel, rfl⟩
theorem dX7_market_28 : decode cX7_market 28 = .ok (.goto 4, 3) := by decide +kernel
theorem dX7_market_31 : dI cX7_market 31 32 (.iconst 0) 1 := ⟨by decide +kernel, rfl⟩
theorem dX7_market_32 : dI cX7_market 32 33 (.istore_n 2) 1 := ⟨by decide +kernel, rfl⟩
theorem dX7_market_33 : dI cX7_market 33 36 (.iinc 1 1) 3 := ⟨by decide +kernel, rfl⟩
theorem dX7_market_36 : decode cX7_market 36 = .ok (.goto (-32), 3) := by decide +kernel
theorem dX7_market_39 : dI cX7_market 39 40 (.iload_n 1) 1 := ⟨by decide +kernel, rfl⟩
theorem dX7_market_40 : dI cX7_market 40 41 (.ireturn) 1 := ⟨by decide +kernel, rfl⟩
def f_X7_market_b32 (k4 : Nat → Int32 → Int32 → hS → Option (Int32 × hS)) (l0 : Nat) (l1 : Int32) (t0 : Int32) (s : hS) : Option (Int32 × hS) :=
  k4 l0 (l1 + (1 : Int32)) t0 s
theorem b_X7_market_32 (E : jE) (k4 : Nat → Int32 → Int32 → hS → Option (Int32 × hS)) (h4 : ∀ (s : hS) (l0 : Nat) (l1 : Int32) (l2 : Int32) , Jo E M_X7_market cvI 4 [(0, .ref l0), (1, .int l1), (2, .int l2)] [] s (k4 l0 l1 l2 s)) (s : hS) (l0 : Nat) (l1 : Int32) (t0 : Int32) : Jo E M_X7_market cvI 32 [(0, .ref l0), (1, .int l1)] [.int t0] s (f_X7_market_b32 k4 l0 l1 t0 s) := by
  unfold f_X7_market_b32
  refine Jo_istoren (ls' := [(2, .int t0), (0, .ref l0), (1, .int l1)]) dX7_market_32 rfl (by decide) rfl ?_
  refine Jo_iinc (v := (l1 + (1 : Int32))) (ls' := [(1, .int (l1 + (1 : Int32))), (2, .int t0), (0, .ref l0)]) 2 dX7_market_33 rfl rfl (by decide) rfl ?_
  refine Jo_goto 4 dX7_market_36 (by decide) ?_
  refine Jo_sub [2, 0, 1] rfl ?_
  exact h4 s l0 (l1 + (1 : Int32)) t0
def f_X7_market_b4 (k4 : Nat → Int32 → Int32 → hS → Option (Int32 × hS)) (l0 : Nat) (l1 : Int32) (l2 : Int32) (s : hS) : Option (Int32 × hS) :=
  if l2 = 0 then
    some (l1, s)
  else
    (gR s l0 7 0).bind fun a1 =>
    (aI s a1 10 (5 : Int32)).bind fun x2 =>
    if (999 : Int32) ≤ x2 then
      some (l1, s)
    else
      (cV s l0 7 (f_X7_aRound s l0)).bind fun p3 =>
      if p3.1 ≤ 0 then
        f_X7_market_b32 k4 l0 l1 (0 : Int32) p3.2
      else
        f_X7_market_b32 k4 l0 l1 (1 : Int32) p3.2
theorem b_X7_market_4 (E : jE) (k4 : Nat → Int32 → Int32 → hS → Option (Int32 × hS)) (h4 : ∀ (s : hS) (l0 : Nat) (l1 : Int32) (l2 : Int32) , Jo E M_X7_market cvI 4 [(0, .ref l0), (1, .int l1), (2, .int l2)] [] s (k4 l0 l1 l2 s)) (s : hS) (l0 : Nat) (l1 : Int32) (l2 : Int32)  : Jo E M_X7_market cvI 4 [(0, .ref l0), (1, .int l1), (2, .int l2)] [] s (f_X7_market_b4 k4 l0 l1 l2 s) := by
  unfold f_X7_market_b4
  refine Jo_iloadn 2 dX7_market_4 rfl rfl ?_
  refine Jo_if_eq 39 dX7_market_5 (by decide) rfl ?_ ?_
  · refine Jo_iloadn 1 dX7_market_39 rfl rfl ?_
    exact Jo_iret rfl dX7_market_40
  · refine Jo_aloadn 0 dX7_market_8 rfl rfl ?_
    refine Jo_getR fF_7_0 fR_7_0 dX7_market_9 w_598 (fun a1 => ?_)
    refine Jo_iconst (v := (5 : Int32)) dX7_market_12 (by decide) ?_
    refine Jo_iaload dX7_market_13 (fun x2 => ?_)
    refine Jo_sipush (v := (999 : Int32)) dX7_market_14 (by decide) ?_
    refine Jo_icmp_ge 39 dX7_market_17 (by decide) rfl ?_ ?_
    · refine Jo_iloadn 1 dX7_market_39 rfl rfl ?_
      exact Jo_iret rfl dX7_market_40
    · refine Jo_aloadn 0 dX7_market_20 rfl rfl ?_
      refine Jo_callVi (a := l0) (rest := []) [] cc_7 yF_X7_aRound yV_X7_aRound w_810 rfl rfl ⟨Nat.le_of_ble_eq_true rfl, Nat.le_of_ble_eq_true rfl, Nat.le_of_ble_eq_true rfl⟩ dX7_market_21 rfl (K_X7_aRound E s l0) (fun p3 => ?_)
      refine Jo_if_le 31 dX7_market_24 (by decide) rfl ?_ ?_
      · refine Jo_iconst (v := (0 : Int32)) dX7_market_31 (by decide) ?_
        refine Jo_sub [0, 1] rfl ?_
        exact b_X7_market_32 E k4 h4 p3.2 l0 l1 (0 : Int32)
      · refine Jo_iconst (v := (1 : Int32)) dX7_market_27 (by decide) ?_
        refine Jo_goto 32 dX7_market_28 (by decide) ?_
        refine Jo_sub [0, 1] rfl ?_
        exact b_X7_market_32 E k4 h4 p3.2 l0 l1 (1 : Int32)
theorem e_X7_market_4 (E : jE)  (n : Nat) : ∀ (s : hS) (l0 : Nat) (l1 : Int32) (l2 : Int32) , Jo E M_X7_market cvI 4 [(0, .ref l0), (1, .int l1), (2, .int l2)] [] s ((jL f_X7_market_b4 (fun _ _ _ _ => none) n) l0 l1 l2 s) :=
  jL_ind (P := fun f => ∀ (s : hS) (l0 : Nat) (l1 : Int32) (l2 : Int32) , Jo E M_X7_market cvI 4 [(0, .ref l0), (1, .int l1), (2, .int l2)] [] s (f l0 l1 l2 s)) (fun _ _ _ _ => Jo_none) (fun b hb s l0 l1 l2 => b_X7_market_4 E  b hb s l0 l1 l2) n
def f_X7_market (s : hS) (a0 : Nat) : Option (Int32 × hS) :=
  jL f_X7_market_b4 (fun _ _ _ _ => none) jF a0 (0 : Int32) (1 : Int32) s
theorem b_X7_market_in (E : jE)  (s : hS) (a0 : Nat)  : Jo E M_X7_market cvI 0 [(0, .ref a0)] [] s (f_X7_market s a0) := by
  unfold f_X7_market
  refine Jo_iconst (v := (0 : Int32)) dX7_market_0 (by decide) ?_
  refine Jo_istoren (ls' := [(1, .int (0 : Int32)), (0, .ref a0)]) dX7_market_1 rfl (by decide) rfl ?_
  refine Jo_iconst (v := (1 : Int32)) dX7_market_2 (by decide) ?_
  refine Jo_istoren (ls' := [(2, .int (1 : Int32)), (1, .int (0 : Int32)), (0, .ref a0)]) dX7_market_3 rfl (by decide) rfl ?_
  refine Jo_sub [2, 1, 0] rfl ?_
  exact e_X7_market_4 E jF s a0 (0 : Int32) (1 : Int32)
theorem K_X7_market (E : jE) (s : hS) (a0 : Nat) : jK E yX7_market M_X7_market cvI [.ref a0] s (f_X7_market s a0) := jK_of ⟨by decide, rfl, rfl⟩ (Nat.le_of_ble_eq_true rfl) (b_X7_market_in E s a0)
/-! HeronTalkModel.richest()I -/
abbrev M_X7_richest : jM := (RX7, cX7_richest, 3, (some .int), "richest", 3, 66)
theorem yF_X7_richest : yF yX7_richest M_X7_richest 0 := ⟨w_818, w_624, by decide +kernel⟩
theorem yV_X7_richest : Cond.instanceMethod yX7_richest ∈ tbG ∧ Cond.selects yX7_richest.cls yX7_richest yX7_richest ∈ tbG := ⟨w_819, w_820⟩
theorem dX7_richest_0 : dI cX7_richest 0 1 (.iconst (-1)) 1 := ⟨by decide +kernel, rfl⟩
theorem dX7_richest_1 : dI cX7_richest 1 2 (.istore_n 1) 1 := ⟨by decide +kernel, rfl⟩
theorem dX7_richest_2 : dI cX7_richest 2 3 (.iconst 0) 1 := ⟨by decide +kernel, rfl⟩
theorem dX7_richest_3 : dI cX7_richest 3 4 (.istore_n 2) 1 := ⟨by decide +kernel, rfl⟩
theorem dX7_richest_4 : dI cX7_richest 4 5 (.iload_n 2) 1 := ⟨by decide +kernel, rfl⟩
theorem dX7_richest_5 : dI cX7_richest 5 6 (.aload_n 0) 1 := ⟨by decide +kernel, rfl⟩
theorem dX7_richest_6 : dI cX7_richest 6 9 (.getfield 9) 3 := ⟨by decide +kernel, rfl⟩
theorem dX7_richest_9 : dI cX7_richest 9 10 (.iconst 2) 1 := ⟨by decide +kernel, rfl⟩
theorem dX7_richest_10 : dI cX7_richest 10 11 (.iaload) 1 := ⟨by decide +kernel, rfl⟩
theorem dX7_richest_11 : decode cX7_richest 11 = .ok (.if_icmp .ge 32, 3) := by decide +kernel
theorem dX7_richest_14 : dI cX7_richest 14 15 (.iload_n 1) 1 := ⟨by decide +kernel, rfl⟩
theorem dX7_richest_15 : decode cX7_richest 15 = .ok (.ifCond .lt 16, 3) := by decide +kernel
theorem dX7_richest_18 : dI cX7_richest 18 19 (.aload_n 0) 1 := ⟨by decide +kernel, rfl⟩
theorem dX7_richest_19 : dI cX7_richest 19 20 (.iload_n 2) 1 := ⟨by decide +kernel, rfl⟩
theorem dX7_richest_20 : decode cX7_richest 20 = .ok (.invokevirtual 119, 3) := by decide +kernel
theorem dX7_richest_23 : dI cX7_richest 23 24 (.aload_n 0) 1 := ⟨by decide +kernel, rfl⟩
theorem dX7_richest_24 : dI cX7_richest 24 25 (.iload_n 1) 1 := ⟨by decide +kernel, rfl⟩
theorem dX7_richest_25 : decode cX7_richest 25 = .ok (.invokevirtual 119, 3) := by decide +kernel
theorem dX7_richest_28 : decode cX7_richest 28 = .ok (.if_icmp .le 7, 3) := by decide +kernel
theorem dX7_richest_31 : dI cX7_richest 31 32 (.iload_n 2) 1 := ⟨by decide +kernel, rfl⟩
theorem dX7_richest_32 : decode cX7_richest 32 = .ok (.goto 4, 3) := by decide +kernel
theorem dX7_richest_35 : dI cX7_richest 35 36 (.iload_n 1) 1 := ⟨by decide +kernel, rfl⟩
theorem dX7_richest_36 : dI cX7_richest 36 37 (.istore_n 1) 1 := ⟨by decide +kernel, rfl⟩
theorem dX7_richest_37 : dI cX7_richest 37 40 (.iinc 2 1) 3 := ⟨by decide +kernel, rfl⟩
theorem dX7_richest_40 : decode cX7_richest 40 = .ok (.goto (-36), 3) := by decide +kernel
theorem dX7_richest_43 : dI cX7_richest 43 44 (.iload_n 1) 1 := ⟨by decide +kernel, rfl⟩
theorem dX7_richest_44 : decode cX7_richest 44 = .ok (.invokestatic 167, 3) := by decide +kernel
theorem dX7_richest_47 : dI cX7_richest 47 48 (.ireturn) 1 := ⟨by decide +kernel, rfl⟩
def f_X7_richest_b36 (k4 : Nat → Int32 → Int32 → hS → Option (Int32 × hS)) (l0 : Nat) (l2 : Int32) (t0 : Int32) (s : hS) : Option (Int32 × hS) :=
  k4 l0 t0 (l2 + (1 : Int32)) s
theorem b_X7_richest_36 (E : jE) (k4 : Nat → Int32 → Int32 → hS → Option (Int32 × hS)) (h4 : ∀ (s : hS) (l0 : Nat) (l1 : Int32) (l2 : Int32) , Jo E M_X7_richest cvI 4 [(0, .ref l0), (1, .int l1), (2, .int l2)] [] s (k4 l0 l1 l2 s)) (s : hS) (l0 : Nat) (l2 : Int32) (t0 : Int32) : Jo E M_X7_richest cvI 36 [(0, .ref l0), (2, .int l2)] [.int t0] s (f_X7_richest_b36 k4 l0 l2 t0 s) := by
  unfold f_X7_richest_b36
  refine Jo_istoren (ls' := [(1, .int t0), (0, .ref l0), (2, .int l2)]) dX7_richest_36 rfl (by decide) rfl ?_
  refine Jo_iinc (v := (l2 + (1 : Int32))) (ls' := [(2, .int (l2 + (1 : Int32))), (1, .int t0), (0, .ref l0)]) 2 dX7_richest_37 rfl rfl (by decide) rfl ?_
  refine Jo_goto 4 dX7_richest_40 (by decide) ?_
  refine Jo_sub [2, 1, 0] rfl ?_
  exact h4 s l0 t0 (l2 + (1 : Int32))
def f_X7_richest_b31 (k4 : Nat → Int32 → Int32 → hS → Option (Int32 × hS)) (l0 : Nat) (l2 : Int32) (s : hS) : Option (Int32 × hS) :=
  f_X7_richest_b36 k4 l0 l2 l2 s
theorem b_X7_richest_31 (E : jE) (k4 : Nat → Int32 → Int32 → hS → Option (Int32 × hS)) (h4 : ∀ (s : hS) (l0 : Nat) (l1 : Int32) (l2 : Int32) , Jo E M_X7_richest cvI 4 [(0, .ref l0), (1, .int l1), (2, .int l2)] [] s (k4 l0 l1 l2 s)) (s : hS) (l0 : Nat) (l2 : Int32)  : Jo E M_X7_richest cvI 31 [(0, .ref l0), (2, .int l2)] [] s (f_X7_richest_b31 k4 l0 l2 s) := by
  unfold f_X7_richest_b31
  refine Jo_iloadn 1 dX7_richest_31 rfl rfl ?_
  refine Jo_goto 36 dX7_richest_32 (by decide) ?_
  exact b_X7_richest_36 E k4 h4 s l0 l2 l2
def f_X7_richest_b4 (k4 : Nat → Int32 → Int32 → hS → Option (Int32 × hS)) (l0 : Nat) (l1 : Int32) (l2 : Int32) (s : hS) : Option (Int32 × hS) :=
  (gR s l0 7 0).bind fun a1 =>
  (aI s a1 10 (2 : Int32)).bind fun x2 =>
  if x2 ≤ l2 then
    (f_X7_told0 s l1).bind fun p3 =>
    some (p3.1, p3.2)
  else
    if l1 < 0 then
      f_X7_richest_b31 k4 l0 l2 s
    else
      (cV s l0 7 (f_X7_richesOf s l0 l2)).bind fun p4 =>
      (cV p4.2 l0 7 (f_X7_richesOf p4.2 l0 l1)).bind fun p5 =>
      if p4.1 ≤ p5.1 then
        f_X7_richest_b36 k4 l0 l2 l1 p5.2
      else
        f_X7_richest_b31 k4 l0 l2 p5.2
theorem b_X7_richest_4 (E : jE) (k4 : Nat → Int32 → Int32 → hS → Option (Int32 × hS)) (h4 : ∀ (s : hS) (l0 : Nat) (l1 : Int32) (l2 : Int32) , Jo E M_X7_richest cvI 4 [(0, .ref l0), (1, .int l1), (2, .int l2)] [] s (k4 l0 l1 l2 s)) (s : hS) (l0 : Nat) (l1 : Int32) (l2 : Int32)  : Jo E M_X7_richest cvI 4 [(0, .ref l0), (1, .int l1), (2, .int l2)] [] s (f_X7_richest_b4 k4 l0 l1 l2 s) := by
  unfold f_X7_richest_b4
  refine Jo_iloadn 2 dX7_richest_4 rfl rfl ?_
  refine Jo_aloadn 0 dX7_richest_5 rfl rfl ?_
  refine Jo_getR fF_7_0 fR_7_0 dX7_richest_6 w_598 (fun a1 => ?_)
  refine Jo_iconst (v := (2 : Int32)) dX7_richest_9 (by decide) ?_
  refine Jo_iaload dX7_richest_10 (fun x2 => ?_)
  refine Jo_icmp_ge 43 dX7_richest_11 (by decide) rfl ?_ ?_
  · refine Jo_iloadn 1 dX7_richest_43 rfl rfl ?_
    refine Jo_callSi (rest := []) [.int l1] yF_X7_told0 yS_X7_told0 w_776 rfl rfl ⟨Nat.le_of_ble_eq_true rfl, Nat.le_of_ble_eq_true rfl, Nat.le_of_ble_eq_true rfl⟩ dX7_richest_44 rfl (K_X7_told0 E s l1) (fun p3 => ?_)
    exact Jo_iret rfl dX7_richest_47
  · refine Jo_iloadn 1 dX7_richest_14 rfl rfl ?_
    refine Jo_if_lt 31 dX7_richest_15 (by decide) rfl ?_ ?_
    · refine Jo_sub [0, 2] rfl ?_
      exact b_X7_richest_31 E k4 h4 s l0 l2
    · refine Jo_aloadn 0 dX7_richest_18 rfl rfl ?_
      refine Jo_iloadn 2 dX7_richest_19 rfl rfl ?_
      refine Jo_callVi (a := l0) (rest := []) [.int l2] cc_7 yF_X7_richesOf yV_X7_richesOf w_703 rfl rfl ⟨Nat.le_of_ble_eq_true rfl, Nat.le_of_ble_eq_true rfl, Nat.le_of_ble_eq_true rfl⟩ dX7_richest_20 rfl (K_X7_richesOf E s l0 l2) (fun p4 => ?_)
      refine Jo_aloadn 0 dX7_richest_23 rfl rfl ?_
      refine Jo_iloadn 1 dX7_richest_24 rfl rfl ?_
      refine Jo_callVi (a := l0) (rest := [.int p4.1]) [.int l1] cc_7 yF_X7_richesOf yV_X7_richesOf w_703 rfl rfl ⟨Nat.le_of_ble_eq_true rfl, Nat.le_of_ble_eq_true rfl, Nat.le_of_ble_eq_true rfl⟩ dX7_richest_25 rfl (K_X7_richesOf E p4.2 l0 l1) (fun p5 => ?_)
      refine Jo_icmp_le 35 dX7_richest_28 (by decide) rfl ?_ ?_
      · refine Jo_iloadn 1 dX7_richest_35 rfl rfl ?_
        refine Jo_sub [0, 2] rfl ?_
        exact b_X7_richest_36 E k4 h4 p5.2 l0 l2 l1
      · refine Jo_sub [0, 2] rfl ?_
        exact b_X7_richest_31 E k4 h4 p5.2 l0 l2
theorem e_X7_richest_4 (E : jE)  (n : Nat) : ∀ (s : hS) (l0 : Nat) (l1 : Int32) (l2 : Int32) , Jo E M_X7_richest cvI 4 [(0, .ref l0), (1, .int l1), (2, .int l2)] [] s ((jL f_X7_richest_b4 (fun _ _ _ _ => none) n) l0 l1 l2 s) :=
  jL_ind (P := fun f => ∀ (s : hS) (l0 : Nat) (l1 : Int32) (l2 : Int32) , Jo E M_X7_richest cvI 4 [(0, .ref l0), (1, .int l1), (2, .int l2)] [] s (f l0 l1 l2 s)) (fun _ _ _ _ => Jo_none) (fun b hb s l0 l1 l2 => b_X7_richest_4 E  b hb s l0 l1 l2) n
def f_X7_richest (s : hS) (a0 : Nat) : Option (Int32 × hS) :=
  jL f_X7_richest_b4 (fun _ _ _ _ => none) jF a0 (-1 : Int32) (0 : Int32) s
theorem b_X7_richest_in (E : jE)  (s : hS) (a0 : Nat)  : Jo E M_X7_richest cvI 0 [(0, .ref a0)] [] s (f_X7_richest s a0) := by
  unfold f_X7_richest
  refine Jo_iconst (v := (-1 : Int32)) dX7_richest_0 (by decide) ?_
  refine Jo_istoren (ls' := [(1, .int (-1 : Int32)), (0, .ref a0)]) dX7_richest_1 rfl (by decide) rfl ?_
  refine Jo_iconst (v := (0 : Int32)) dX7_richest_2 (by decide) ?_
  refine Jo_istoren (ls' := [(2, .int (0 : Int32)), (1, .int (-1 : Int32)), (0, .ref a0)]) dX7_richest_3 rfl (by decide) rfl ?_
  refine Jo_sub [2, 1, 0] rfl ?_
  exact e_X7_richest_4 E jF s a0 (-1 : Int32) (0 : Int32)
theorem K_X7_richest (E : jE) (s : hS) (a0 : Nat) : jK E yX7_richest M_X7_richest cvI [.ref a0] s (f_X7_richest s a0) := jK_of ⟨by decide, rfl, rfl⟩ (Nat.le_of_ble_eq_true rfl) (b_X7_richest_in E s a0)
/-! HeronTalkModel.keepsAhead(I)V -/
abbrev M_X7_keepsAhead : jM := (RX7, cX7_keepsAhead, 3, (none : Option Jvm.ClassFile.FieldType), "keepsAhead", 0, 0)
theorem yF_X7_keepsAhead : yF yX7_keepsAhead M_X7_keepsAhead 1 := ⟨w_821, w_624, by decide +kernel⟩
theorem yV_X7_keepsAhead : Cond.instanceMethod yX7_keepsAhead ∈ tbG ∧ Cond.selects yX7_keepsAhead.cls yX7_keepsAhead yX7_keepsAhead ∈ tbG := ⟨w_822, w_823⟩
theorem dX7_keepsAhead_0 : dI cX7_keepsAhead 0 1 (.iconst 0) 1 := ⟨by decide +kernel, rfl⟩
theorem dX7_keepsAhead_1 : dI cX7_keepsAhead 1 2 (.istore_n 2) 1 := ⟨by decide +kernel, rfl⟩
theorem dX7_keepsAhead_2 : dI cX7_keepsAhead 2 3 (.iload_n 2) 1 := ⟨by decide +kernel, rfl⟩
theorem dX7_keepsAhead_3 : dI cX7_keepsAhead 3 5 (.bipush 8) 2 := ⟨by decide +kernel, rfl⟩
theorem dX7_keepsAhead_5 : decode cX7_keepsAhead 5 = .ok (.if_icmp .ge 31, 3) := by decide +kernel
theorem dX7_keepsAhead_8 : dI cX7_keepsAhead 8 9 (.aload_n 0) 1 := ⟨by decide +kernel, rfl⟩
theorem dX7_keepsAhead_9 : dI cX7_keepsAhead 9 12 (.getfield 19) 3 := ⟨by decide +kernel, rfl⟩
theorem dX7_keepsAhead_12 : dI cX7_keepsAhead 12 14 (.bipush 8) 2 := ⟨by decide +kernel, rfl⟩
theorem dX7_keepsAhead_14 : dI cX7_keepsAhead 14 15 (.iload_n 1) 1 := ⟨by decide +kernel, rfl⟩
theorem dX7_keepsAhead_15 : dI cX7_keepsAhead 15 16 (.imul) 1 := ⟨by decide +kernel, rfl⟩
theorem dX7_keepsAhead_16 : dI cX7_keepsAhead 16 17 (.iload_n 2) 1 := ⟨by decide +kernel, rfl⟩
theorem dX7_keepsAhead_17 : dI cX7_keepsAhead 17 18 (.iadd) 1 := ⟨by decide +kernel, rfl⟩
theorem dX7_keepsAhead_18 : dI cX7_keepsAhead 18 19 (.aload_n 0) 1 := ⟨by decide +kernel, rfl⟩
theorem dX7_keepsAhead_19 : dI cX7_keepsAhead 19 22 (.getfield 9) 3 := ⟨by decide +kernel, rfl⟩
theorem dX7_keepsAhead_22 : dI cX7_keepsAhead 22 24 (.bipush 40) 2 := ⟨by decide +kernel, rfl⟩
theorem dX7_keepsAhead_24 : dI cX7_keepsAhead 24 25 (.iconst 2) 1 := ⟨by decide +kernel, rfl⟩
theorem dX7_keepsAhead_25 : dI cX7_keepsAhead 25 26 (.iload_n 2) 1 := ⟨by decide +kernel, rfl⟩
theorem dX7_keepsAhead_26 : dI cX7_keepsAhead 26 27 (.imul) 1 := ⟨by decide +kernel, rfl⟩
theorem dX7_keepsAhead_27 : dI cX7_keepsAhead 27 28 (.iadd) 1 := ⟨by decide +kernel, rfl⟩
theorem dX7_keepsAhead_28 : dI cX7_keepsAhead 28 29 (.iaload) 1 := ⟨by decide +kernel, rfl⟩
theorem dX7_keepsAhead_29 : dI cX7_keepsAhead 29 30 (.iastore) 1 := ⟨by decide +kernel, rfl⟩
theorem dX7_keepsAhead_30 : dI cX7_keepsAhead 30 33 (.iinc 2 1) 3 := ⟨by decide +kernel, rfl⟩
theorem dX7_keepsAhead_33 : decode cX7_keepsAhead 33 = .ok (.goto (-31), 3) := by decide +kernel
theorem dX7_keepsAhead_36 : dI cX7_keepsAhead 36 37 (.return_) 1 := ⟨by decide +kernel, rfl⟩
def f_X7_keepsAhead_b2 (k2 : Nat → Int32 → Int32 → hS → Option (Unit × hS)) (l0 : Nat) (l1 : Int32) (l2 : Int32) (s : hS) : Option (Unit × hS) :=
  if (8 : Int32) ≤ l2 then
    some ((), s)
  else
    (gR s l0 7 4).bind fun a1 =>
    (gR s l0 7 0).bind fun a2 =>
    (aI s a2 10 ((40 : Int32) + ((2 : Int32) * l2))).bind fun x3 =>
    (sI s a1 10 (((8 : Int32) * l1) + l2) x3).bind fun s4 =>
    k2 l0 l1 (l2 + (1 : Int32)) s4
theorem b_X7_keepsAhead_2 (E : jE) (k2 : Nat → Int32 → Int32 → hS → Option (Unit × hS)) (h2 : ∀ (s : hS) (l0 : Nat) (l1 : Int32) (l2 : Int32) , Jo E M_X7_keepsAhead cvV 2 [(0, .ref l0), (1, .int l1), (2, .int l2)] [] s (k2 l0 l1 l2 s)) (s : hS) (l0 : Nat) (l1 : Int32) (l2 : Int32)  : Jo E M_X7_keepsAhead cvV 2 [(0, .ref l0), (1, .int l1), (2, .int l2)] [] s (f_X7_keepsAhead_b2 k2 l0 l1 l2 s) := by
  unfold f_X7_keepsAhead_b2
  refine Jo_iloadn 2 dX7_keepsAhead_2 rfl rfl ?_
  refine Jo_bipush (v := (8 : Int32)) dX7_keepsAhead_3 (by decide) ?_
  refine Jo_icmp_ge 36 dX7_keepsAhead_5 (by decide) rfl ?_ ?_
  · exact Jo_vret rfl dX7_keepsAhead_36
  · refine Jo_aloadn 0 dX7_keepsAhead_8 rfl rfl ?_
    refine Jo_getR fF_7_4 fR_7_4 dX7_keepsAhead_9 w_619 (fun a1 => ?_)
    refine Jo_bipush (v := (8 : Int32)) dX7_keepsAhead_12 (by decide) ?_
    refine Jo_iloadn 1 dX7_keepsAhead_14 rfl rfl ?_
    refine Jo_imul dX7_keepsAhead_15 ?_
    refine Jo_iloadn 2 dX7_keepsAhead_16 rfl rfl ?_
    refine Jo_iadd dX7_keepsAhead_17 ?_
    refine Jo_aloadn 0 dX7_keepsAhead_18 rfl rfl ?_
    refine Jo_getR fF_7_0 fR_7_0 dX7_keepsAhead_19 w_598 (fun a2 => ?_)
    refine Jo_bipush (v := (40 : Int32)) dX7_keepsAhead_22 (by decide) ?_
    refine Jo_iconst (v := (2 : Int32)) dX7_keepsAhead_24 (by decide) ?_
    refine Jo_iloadn 2 dX7_keepsAhead_25 rfl rfl ?_
    refine Jo_imul dX7_keepsAhead_26 ?_
    refine Jo_iadd dX7_keepsAhead_27 ?_
    refine Jo_iaload dX7_keepsAhead_28 (fun x3 => ?_)
    refine Jo_iastore dX7_keepsAhead_29 (fun s4 => ?_)
    refine Jo_iinc (v := (l2 + (1 : Int32))) (ls' := [(2, .int (l2 + (1 : Int32))), (0, .ref l0), (1, .int l1)]) 2 dX7_keepsAhead_30 rfl rfl (by decide) rfl ?_
    refine Jo_goto 2 dX7_keepsAhead_33 (by decide) ?_
    refine Jo_sub [1, 2, 0] rfl ?_
    exact h2 s4 l0 l1 (l2 + (1 : Int32))
theorem e_X7_keepsAhead_2 (E : jE)  (n : Nat) : ∀ (s : hS) (l0 : Nat) (l1 : Int32) (l2 : Int32) , Jo E M_X7_keepsAhead cvV 2 [(0, .ref l0), (1, .int l1), (2, .int l2)] [] s ((jL f_X7_keepsAhead_b2 (fun _ _ _ _ => none) n) l0 l1 l2 s) :=
  jL_ind (P := fun f => ∀ (s : hS) (l0 : Nat) (l1 : Int32) (l2 : Int32) , Jo E M_X7_keepsAhead cvV 2 [(0, .ref l0), (1, .int l1), (2, .int l2)] [] s (f l0 l1 l2 s)) (fun _ _ _ _ => Jo_none) (fun b hb s l0 l1 l2 => b_X7_keepsAhead_2 E  b hb s l0 l1 l2) n
def f_X7_keepsAhead (s : hS) (a0 : Nat) (i1 : Int32) : Option (Unit × hS) :=
  jL f_X7_keepsAhead_b2 (fun _ _ _ _ => none) jF a0 i1 (0 : Int32) s
theorem b_X7_keepsAhead_in (E : jE)  (s : hS) (a0 : Nat) (i1 : Int32)  : Jo E M_X7_keepsAhead cvV 0 [(0, .ref a0), (1, .int i1)] [] s (f_X7_keepsAhead s a0 i1) := by
  unfold f_X7_keepsAhead
  refine Jo_iconst (v := (0 : Int32)) dX7_keepsAhead_0 (by decide) ?_
  refine Jo_istoren (ls' := [(2, .int (0 : Int32)), (0, .ref a0), (1, .int i1)]) dX7_keepsAhead_1 rfl (by decide) rfl ?_
  refine Jo_sub [1, 2, 0] rfl ?_
  exact e_X7_keepsAhead_2 E jF s a0 i1 (0 : Int32)
theorem K_X7_keepsAhead (E : jE) (s : hS) (a0 : Nat) (i1 : Int32) : jK E yX7_keepsAhead M_X7_keepsAhead cvV [.ref a0, .int i1] s (f_X7_keepsAhead s a0 i1) := jK_of ⟨by decide, rfl, rfl⟩ (Nat.le_of_ble_eq_true rfl) (b_X7_keepsAhead_in E s a0 i1)
/-! HeronTalkModel.putsBack(I)V -/
abbrev M_X7_putsBack : jM := (RX7, cX7_putsBack, 3, (none : Option Jvm.ClassFile.FieldType), "putsBack", 0, 0)
theorem yF_X7_putsBack : yF yX7_putsBack M_X7_putsBack 1 := ⟨w_824, w_624, by decide +kernel⟩
theorem yV_X7_putsBack : Cond.instanceMethod yX7_putsBack ∈ tbG ∧ Cond.selects yX7_putsBack.cls yX7_putsBack yX7_putsBack ∈ tbG := ⟨w_825, w_826⟩
theorem dX7_putsBack_0 : dI cX7_putsBack 0 1 (.iconst 0) 1 := ⟨by decide +kernel, rfl⟩
theorem dX7_putsBack_1 : dI cX7_putsBack 1 2 (.istore_n 2) 1 := ⟨by decide +kernel, rfl⟩
theorem dX7_putsBack_2 : dI cX7_putsBack 2 3 (.iload_n 2) 1 := ⟨by decide +kernel, rfl⟩
theorem dX7_putsBack_3 : dI cX7_putsBack 3 5 (.bipush 8) 2 := ⟨by decide +kernel, rfl⟩
theorem dX7_putsBack_5 : decode cX7_putsBack 5 = .ok (.if_icmp .ge 31, 3) := by decide +kernel
theorem dX7_putsBack_8 : dI cX7_putsBack 8 9 (.aload_n 0) 1 := ⟨by decide +kernel, rfl⟩
theorem dX7_putsBack_9 : dI cX7_putsBack 9 12 (.getfield 9) 3 := ⟨by decide +kernel, rfl⟩
theorem dX7_putsBack_12 : dI cX7_putsBack 12 14 (.bipush 40) 2 := ⟨by decide +kernel, rfl⟩
theorem dX7_putsBack_14 : dI cX7_putsBack 14 15 (.iconst 2) 1 := ⟨by decide +kernel, rfl⟩
theorem dX7_putsBack_15 : dI cX7_putsBack 15 16 (.iload_n 2) 1 := ⟨by decide +kernel, rfl⟩
theorem dX7_putsBack_16 : dI cX7_putsBack 16 17 (.imul) 1 := ⟨by decide +kernel, rfl⟩
theorem dX7_putsBack_17 : dI cX7_putsBack 17 18 (.iadd) 1 := ⟨by decide +kernel, rfl⟩
theorem dX7_putsBack_18 : dI cX7_putsBack 18 19 (.aload_n 0) 1 := ⟨by decide +kernel, rfl⟩
theorem dX7_putsBack_19 : dI cX7_putsBack 19 22 (.getfield 19) 3 := ⟨by decide +kernel, rfl⟩
theorem dX7_putsBack_22 : dI cX7_putsBack 22 24 (.bipush 8) 2 := ⟨by decide +kernel, rfl⟩
theorem dX7_putsBack_24 : dI cX7_putsBack 24 25 (.iload_n 1) 1 := ⟨by decide +kernel, rfl⟩
theorem dX7_putsBack_25 : dI cX7_putsBack 25 26 (.imul) 1 := ⟨by decide +kernel, rfl⟩
theorem dX7_putsBack_26 : dI cX7_putsBack 26 27 (.iload_n 2) 1 := ⟨by decide +kernel, rfl⟩
theorem dX7_putsBack_27 : dI cX7_putsBack 27 28 (.iadd) 1 := ⟨by decide +kernel, rfl⟩
theorem dX7_putsBack_28 : dI cX7_putsBack 28 29 (.iaload) 1 := ⟨by decide +kernel, rfl⟩
theorem dX7_putsBack_29 : dI cX7_putsBack 29 30 (.iastore) 1 := ⟨by decide +kernel, rfl⟩
theorem dX7_putsBack_30 : dI cX7_putsBack 30 33 (.iinc 2 1) 3 := ⟨by decide +kernel, rfl⟩
theorem dX7_putsBack_33 : decode cX7_putsBack 33 = .ok (.goto (-31), 3) := by decide +kernel
theorem dX7_putsBack_36 : dI cX7_putsBack 36 37 (.return_) 1 := ⟨by decide +kernel, rfl⟩
def f_X7_putsBack_b2 (k2 : Nat → Int32 → Int32 → hS → Option (Unit × hS)) (l0 : Nat) (l1 : Int32) (l2 : Int32) (s : hS) : Option (Unit × hS) :=
  if (8 : Int32) ≤ l2 then
    some ((), s)
  else
    (gR s l0 7 0).bind fun a1 =>
    (gR s l0 7 4).bind fun a2 =>
    (aI s a2 10 (((8 : Int32) * l1) + l2)).bind fun x3 =>
    (sI s a1 10 ((40 : Int32) + ((2 : Int32) * l2)) x3).bind fun s4 =>
    k2 l0 l1 (l2 + (1 : Int32)) s4
theorem b_X7_putsBack_2 (E : jE) (k2 : Nat → Int32 → Int32 → hS → Option (Unit × hS)) (h2 : ∀ (s : hS) (l0 : Nat) (l1 : Int32) (l2 : Int32) , Jo E M_X7_putsBack cvV 2 [(0, .ref l0), (1, .int l1), (2, .int l2)] [] s (k2 l0 l1 l2 s)) (s : hS) (l0 : Nat) (l1 : Int32) (l2 : Int32)  : Jo E M_X7_putsBack cvV 2 [(0, .ref l0), (1, .int l1), (2, .int l2)] [] s (f_X7_putsBack_b2 k2 l0 l1 l2 s) := by
  unfold f_X7_putsBack_b2
  refine Jo_iloadn 2 dX7_putsBack_2 rfl rfl ?_
  refine Jo_bipush (v := (8 : Int32)) dX7_putsBack_3 (by decide) ?_
  refine Jo_icmp_ge 36 dX7_putsBack_5 (by decide) rfl ?_ ?_
  · exact Jo_vret rfl dX7_putsBack_36
  · refine Jo_aloadn 0 dX7_putsBack_8 rfl rfl ?_
    refine Jo_getR fF_7_0 fR_7_0 dX7_putsBack_9 w_598 (fun a1 => ?_)
    refine Jo_bipush (v := (40 : Int32)) dX7_putsBack_12 (by decide) ?_
    refine Jo_iconst (v := (2 : Int32)) dX7_putsBack_14 (by decide) ?_
    refine Jo_iloadn 2 dX7_putsBack_15 rfl rfl ?_
    refine Jo_imul dX7_putsBack_16 ?_
    refine Jo_iadd dX7_putsBack_17 ?_
    refine Jo_aloadn 0 dX7_putsBack_18 rfl rfl ?_
    refine Jo_getR fF_7_4 fR_7_4 dX7_putsBack_19 w_619 (fun a2 => ?_)
    refine Jo_bipush (v := (8 : Int32)) dX7_putsBack_22 (by decide) ?_
    refine Jo_iloadn 1 dX7_putsBack_24 rfl rfl ?_
    refine Jo_imul dX7_putsBack_25 ?_
    refine Jo_iloadn 2 dX7_putsBack_26 rfl rfl ?_
    refine Jo_iadd dX7_putsBack_27 ?_
    refine Jo_iaload dX7_putsBack_28 (fun x3 => ?_)
    refine Jo_iastore dX7_putsBack_29 (fun s4 => ?_)
    refine Jo_iinc (v := (l2 + (1 : Int32))) (ls' := [(2, .int (l2 + (1 : Int32))), (0, .ref l0), (1, .int l1)]) 2 dX7_putsBack_30 rfl rfl (by decide) rfl ?_
    refine Jo_goto 2 dX7_putsBack_33 (by decide) ?_
    refine Jo_sub [1, 2, 0] rfl ?_
    exact h2 s4 l0 l1 (l2 + (1 : Int32))
theorem e_X7_putsBack_2 (E : jE)  (n : Nat) : ∀ (s : hS) (l0 : Nat) (l1 : Int32) (l2 : Int32) , Jo E M_X7_putsBack cvV 2 [(0, .ref l0), (1, .int l1), (2, .int l2)] [] s ((jL f_X7_putsBack_b2 (fun _ _ _ _ => none) n) l0 l1 l2 s) :=
  jL_ind (P := fun f => ∀ (s : hS) (l0 : Nat) (l1 : Int32) (l2 : Int32) , Jo E M_X7_putsBack cvV 2 [(0, .ref l0), (1, .int l1), (2, .int l2)] [] s (f l0 l1 l2 s)) (fun _ _ _ _ => Jo_none) (fun b hb s l0 l1 l2 => b_X7_putsBack_2 E  b hb s l0 l1 l2) n
def f_X7_putsBack (s : hS) (a0 : Nat) (i1 : Int32) : Option (Unit × hS) :=
  jL f_X7_putsBack_b2 (fun _ _ _ _ => none) jF a0 i1 (0 : Int32) s
theorem b_X7_putsBack_in (E : jE)  (s : hS) (a0 : Nat) (i1 : Int32)  : Jo E M_X7_putsBack cvV 0 [(0, .ref a0), (1, .int i1)] [] s (f_X7_putsBack s a0 i1) := by
  unfold f_X7_putsBack
  refine Jo_iconst (v := (0 : Int32)) dX7_putsBack_0 (by decide) ?_
  refine Jo_istoren (ls' := [(2, .int (0 : Int32)), (0, .ref a0), (1, .int i1)]) dX7_putsBack_1 rfl (by decide) rfl ?_
  refine Jo_sub [1, 2, 0] rfl ?_
  exact e_X7_putsBack_2 E jF s a0 i1 (0 : Int32)
theorem K_X7_putsBack (E : jE) (s : hS) (a0 : Nat) (i1 : Int32) : jK E yX7_putsBack M_X7_putsBack cvV [.ref a0, .int i1] s (f_X7_putsBack s a0 i1) := jK_of ⟨by decide, rfl, rfl⟩ (Nat.le_of_ble_eq_true rfl) (b_X7_putsBack_in E s a0 i1)
