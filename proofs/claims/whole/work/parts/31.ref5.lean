/-! HeronTalkModel.worthBy(III)I -/
abbrev M_X7_worthBy : jM := (RX7, cX7_worthBy, 7, (some .int), "worthBy", 7, 167)
theorem yF_X7_worthBy : yF yX7_worthBy M_X7_worthBy 3 := ⟨w_773, w_624, by decide +kernel⟩
theorem yV_X7_worthBy : Cond.instanceMethod yX7_worthBy ∈ tbG ∧ Cond.selects yX7_worthBy.cls yX7_worthBy yX7_worthBy ∈ tbG := ⟨w_774, w_775⟩
theorem dX7_worthBy_0 : dI cX7_worthBy 0 1 (.aload_n 0) 1 := ⟨by decide +kernel, rfl⟩
theorem dX7_worthBy_1 : dI cX7_worthBy 1 2 (.iload_n 1) 1 := ⟨by decide +kernel, rfl⟩
theorem dX7_worthBy_2 : dI cX7_worthBy 2 3 (.iload_n 2) 1 := ⟨by decide +kernel, rfl⟩
theorem dX7_worthBy_3 : dI cX7_worthBy 3 4 (.iload_n 3) 1 := ⟨by decide +kernel, rfl⟩
theorem dX7_worthBy_4 : decode cX7_worthBy 4 = .ok (.invokevirtual 158, 3) := by decide +kernel
theorem dX7_worthBy_7 : dI cX7_worthBy 7 9 (.istore 4) 2 := ⟨by decide +kernel, rfl⟩
theorem dX7_worthBy_9 : dI cX7_worthBy 9 10 (.aload_n 0) 1 := ⟨by decide +kernel, rfl⟩
theorem dX7_worthBy_10 : dI cX7_worthBy 10 11 (.iload_n 1) 1 := ⟨by decide +kernel, rfl⟩
theorem dX7_worthBy_11 : dI cX7_worthBy 11 12 (.iload_n 2) 1 := ⟨by decide +kernel, rfl⟩
theorem dX7_worthBy_12 : dI cX7_worthBy 12 13 (.iload_n 3) 1 := ⟨by decide +kernel, rfl⟩
theorem dX7_worthBy_13 : decode cX7_worthBy 13 = .ok (.invokevirtual 161, 3) := by decide +kernel
theorem dX7_worthBy_16 : dI cX7_worthBy 16 18 (.istore 5) 2 := ⟨by decide +kernel, rfl⟩
theorem dX7_worthBy_18 : dI cX7_worthBy 18 20 (.iload 5) 2 := ⟨by decide +kernel, rfl⟩
theorem dX7_worthBy_20 : decode cX7_worthBy 20 = .ok (.ifCond .ge 7, 3) := by decide +kernel
theorem dX7_worthBy_23 : dI cX7_worthBy 23 24 (.iconst 0) 1 := ⟨by decide +kernel, rfl⟩
theorem dX7_worthBy_24 : decode cX7_worthBy 24 = .ok (.goto 10, 3) := by decide +kernel
theorem dX7_worthBy_27 : dI cX7_worthBy 27 28 (.aload_n 0) 1 := ⟨by decide +kernel, rfl⟩
theorem dX7_worthBy_28 : dI cX7_worthBy 28 30 (.iload 5) 2 := ⟨by decide +kernel, rfl⟩
theorem dX7_worthBy_30 : dI cX7_worthBy 30 31 (.iload_n 2) 1 := ⟨by decide +kernel, rfl⟩
theorem dX7_worthBy_31 : decode cX7_worthBy 31 = .ok (.invokevirtual 142, 3) := by decide +kernel
theorem dX7_worthBy_34 : dI cX7_worthBy 34 36 (.iload 4) 2 := ⟨by decide +kernel, rfl⟩
theorem dX7_worthBy_36 : decode cX7_worthBy 36 = .ok (.ifCond .ge 7, 3) := by decide +kernel
theorem dX7_worthBy_39 : dI cX7_worthBy 39 40 (.iconst 0) 1 := ⟨by decide +kernel, rfl⟩
theorem dX7_worthBy_40 : decode cX7_worthBy 40 = .ok (.goto 10, 3) := by decide +kernel
theorem dX7_worthBy_43 : dI cX7_worthBy 43 44 (.aload_n 0) 1 := ⟨by decide +kernel, rfl⟩
theorem dX7_worthBy_44 : dI cX7_worthBy 44 46 (.iload 4) 2 := ⟨by decide +kernel, rfl⟩
theorem dX7_worthBy_46 : dI cX7_worthBy 46 47 (.iload_n 3) 1 := ⟨by decide +kernel, rfl⟩
theorem dX7_worthBy_47 : decode cX7_worthBy 47 = .ok (.invokevirtual 142, 3) := by decide +kernel
theorem dX7_worthBy_50 : dI cX7_worthBy 50 51 (.isub) 1 := ⟨by decide +kernel, rfl⟩
theorem dX7_worthBy_51 : dI cX7_worthBy 51 53 (.istore 6) 2 := ⟨by decide +kernel, rfl⟩
theorem dX7_worthBy_53 : dI cX7_worthBy 53 54 (.iload_n 1) 1 := ⟨by decide +kernel, rfl⟩
theorem dX7_worthBy_54 : decode cX7_worthBy 54 = .ok (.tableswitch 76 1 5 #[34, 40, 45, 53, 58], 34) := by decide +kernel
theorem dX7_worthBy_88 : dI cX7_worthBy 88 90 (.iload 6) 2 := ⟨by decide +kernel, rfl⟩
theorem dX7_worthBy_90 : dI cX7_worthBy 90 92 (.bipush 10) 2 := ⟨by decide +kernel, rfl⟩
theorem dX7_worthBy_92 : dI cX7_worthBy 92 93 (.iadd) 1 := ⟨by decide +kernel, rfl⟩
theorem dX7_worthBy_93 : dI cX7_worthBy 93 94 (.ireturn) 1 := ⟨by decide +kernel, rfl⟩
theorem dX7_worthBy_94 : dI cX7_worthBy 94 96 (.iload 6) 2 := ⟨by decide +kernel, rfl⟩
theorem dX7_worthBy_96 : dI cX7_worthBy 96 97 (.iconst 5) 1 := ⟨by decide +kernel, rfl⟩
theorem dX7_worthBy_97 : dI cX7_worthBy 97 98 (.isub) 1 := ⟨by decide +kernel, rfl⟩
theorem dX7_worthBy_98 : dI cX7_worthBy 98 99 (.ireturn) 1 := ⟨by decide +kernel, rfl⟩
theorem dX7_worthBy_99 : dI cX7_worthBy 99 100 (.iconst 2) 1 := ⟨by decide +kernel, rfl⟩
theorem dX7_worthBy_100 : dI cX7_worthBy 100 102 (.iload 6) 2 := ⟨by decide +kernel, rfl⟩
theorem dX7_worthBy_102 : dI cX7_worthBy 102 104 (.bipush 10) 2 := ⟨by decide +kernel, rfl⟩
theorem dX7_worthBy_104 : dI cX7_worthBy 104 105 (.iadd) 1 := ⟨by decide +kernel, rfl⟩
theorem dX7_worthBy_105 : dI cX7_worthBy 105 106 (.imul) 1 := ⟨by decide +kernel, rfl⟩
theorem dX7_worthBy_106 : dI cX7_worthBy 106 107 (.ireturn) 1 := ⟨by decide +kernel, rfl⟩
theorem dX7_worthBy_107 : dI cX7_worthBy 107 109 (.iload 6) 2 := ⟨by decide +kernel, rfl⟩
theorem dX7_worthBy_109 : dI cX7_worthBy 109 110 (.iconst 2) 1 := ⟨by decide +kernel, rfl⟩
theorem dX7_worthBy_110 : dI cX7_worthBy 110 111 (.isub) 1 := ⟨by decide +kernel, rfl⟩
theorem dX7_worthBy_111 : dI cX7_worthBy 111 112 (.ireturn) 1 := ⟨by decide +kernel, rfl⟩
theorem dX7_worthBy_112 : dI cX7_worthBy 112 113 (.aload_n 0) 1 := ⟨by decide +kernel, rfl⟩
theorem dX7_worthBy_113 : dI cX7_worthBy 113 114 (.iload_n 2) 1 := ⟨by decide +kernel, rfl⟩
theorem dX7_worthBy_114 : decode cX7_worthBy 114 = .ok (.invokevirtual 83, 3) := by decide +kernel
theorem dX7_worthBy_117 : decode cX7_worthBy 117 = .ok (.invokestatic 132, 3) := by decide +kernel
theorem dX7_worthBy_120 : dI cX7_worthBy 120 121 (.aload_n 0) 1 := ⟨by decide +kernel, rfl⟩
theorem dX7_worthBy_121 : dI cX7_worthBy 121 122 (.iload_n 3) 1 := ⟨by decide +kernel, rfl⟩
theorem dX7_worthBy_122 : decode cX7_worthBy 122 = .ok (.invokevirtual 83, 3) := by decide +kernel
theorem dX7_worthBy_125 : decode cX7_worthBy 125 = .ok (.invokestatic 132, 3) := by decide +kernel
theorem dX7_worthBy_128 : dI cX7_worthBy 128 129 (.iadd) 1 := ⟨by decide +kernel, rfl⟩
theorem dX7_worthBy_129 : dI cX7_worthBy 129 130 (.ireturn) 1 := ⟨by decide +kernel, rfl⟩
theorem dX7_worthBy_130 : dI cX7_worthBy 130 132 (.iload 6) 2 := ⟨by decide +kernel, rfl⟩
theorem dX7_worthBy_132 : dI cX7_worthBy 132 133 (.ireturn) 1 := ⟨by decide +kernel, rfl⟩
def f_X7_worthBy_b50 (l0 : Nat) (l1 : Int32) (l2 : Int32) (l3 : Int32) (t0 : Int32) (t1 : Int32) (s : hS) : Option (Int32 × hS) :=
  nmv ((t0 - t1)) fun x1 =>
  if l1 = (1 : Int32) then
    some ((x1 + (10 : Int32)), s)
  else
  if l1 = (2 : Int32) then
    some ((x1 - (5 : Int32)), s)
  else
  if l1 = (3 : Int32) then
    some (((2 : Int32) * (x1 + (10 : Int32))), s)
  else
  if l1 = (4 : Int32) then
    some ((x1 - (2 : Int32)), s)
  else
  if l1 = (5 : Int32) then
    (cV s l0 7 (f_X7_knownTo s l0 l2)).bind fun p7 =>
    (f_X7_bitsOf p7.2 p7.1).bind fun p8 =>
    (cV p8.2 l0 7 (f_X7_knownTo p8.2 l0 l3)).bind fun p9 =>
    (f_X7_bitsOf p9.2 p9.1).bind fun p10 =>
    some ((p8.1 + p10.1), p10.2)
  else
  some (x1, s)
theorem b_X7_worthBy_50 (E : jE)  (s : hS) (l0 : Nat) (l1 : Int32) (l2 : Int32) (l3 : Int32) (t0 : Int32) (t1 : Int32) : Jo E M_X7_worthBy cvI 50 [(0, .ref l0), (1, .int l1), (2, .int l2), (3, .int l3)] [.int t1, .int t0] s (f_X7_worthBy_b50  l0 l1 l2 l3 t0 t1 s) := by
  unfold f_X7_worthBy_b50
  refine Jo_isub dX7_worthBy_50 ?_
  refine Jo_nm (fun x1 => ?_)
  refine Jo_istore (ls' := [(6, .int x1), (0, .ref l0), (1, .int l1), (2, .int l2), (3, .int l3)]) dX7_worthBy_51 (by decide) rfl ?_
  refine Jo_iloadn 2 dX7_worthBy_53 rfl rfl ?_
  refine Jo_case ?_ (fun g2 => ?_)
  · refine Jo_tabIn (off := 34) 88 dX7_worthBy_54 (by decide) (by decide) (by decide) (by decide) ?_
    refine Jo_iload 0 dX7_worthBy_88 rfl ?_
    refine Jo_bipush (v := (10 : Int32)) dX7_worthBy_90 (by decide) ?_
    refine Jo_iadd dX7_worthBy_92 ?_
    exact Jo_iret rfl dX7_worthBy_93
  refine Jo_case ?_ (fun g3 => ?_)
  · refine Jo_tabIn (off := 40) 94 dX7_worthBy_54 (by decide) (by decide) (by decide) (by decide) ?_
    refine Jo_iload 0 dX7_worthBy_94 rfl ?_
    refine Jo_iconst (v := (5 : Int32)) dX7_worthBy_96 (by decide) ?_
    refine Jo_isub dX7_worthBy_97 ?_
    exact Jo_iret rfl dX7_worthBy_98
  refine Jo_case ?_ (fun g4 => ?_)
  · refine Jo_tabIn (off := 45) 99 dX7_worthBy_54 (by decide) (by decide) (by decide) (by decide) ?_
    refine Jo_iconst (v := (2 : Int32)) dX7_worthBy_99 (by decide) ?_
    refine Jo_iload 0 dX7_worthBy_100 rfl ?_
    refine Jo_bipush (v := (10 : Int32)) dX7_worthBy_102 (by decide) ?_
    refine Jo_iadd dX7_worthBy_104 ?_
    refine Jo_imul dX7_worthBy_105 ?_
    exact Jo_iret rfl dX7_worthBy_106
  refine Jo_case ?_ (fun g5 => ?_)
  · refine Jo_tabIn (off := 53) 107 dX7_worthBy_54 (by decide) (by decide) (by decide) (by decide) ?_
    refine Jo_iload 0 dX7_worthBy_107 rfl ?_
    refine Jo_iconst (v := (2 : Int32)) dX7_worthBy_109 (by decide) ?_
    refine Jo_isub dX7_worthBy_110 ?_
    exact Jo_iret rfl dX7_worthBy_111
  refine Jo_case ?_ (fun g6 => ?_)
  · refine Jo_tabIn (off := 58) 112 dX7_worthBy_54 (by decide) (by decide) (by decide) (by decide) ?_
    refine Jo_aloadn 1 dX7_worthBy_112 rfl rfl ?_
    refine Jo_iloadn 3 dX7_worthBy_113 rfl rfl ?_
    refine Jo_callVi (a := l0) (rest := []) [.int l2] cc_7 yF_X7_knownTo yV_X7_knownTo w_665 rfl rfl ⟨Nat.le_of_ble_eq_true rfl, Nat.le_of_ble_eq_true rfl, Nat.le_of_ble_eq_true rfl⟩ dX7_worthBy_114 rfl (K_X7_knownTo E s l0 l2) (fun p7 => ?_)
    refine Jo_callSi (rest := []) [.int p7.1] yF_X7_bitsOf yS_X7_bitsOf w_727 rfl rfl ⟨Nat.le_of_ble_eq_true rfl, Nat.le_of_ble_eq_true rfl, Nat.le_of_ble_eq_true rfl⟩ dX7_worthBy_117 rfl (K_X7_bitsOf E p7.2 p7.1) (fun p8 => ?_)
    refine Jo_aloadn 1 dX7_worthBy_120 rfl rfl ?_
    refine Jo_iloadn 4 dX7_worthBy_121 rfl rfl ?_
    refine Jo_callVi (a := l0) (rest := [.int p8.1]) [.int l3] cc_7 yF_X7_knownTo yV_X7_knownTo w_665 rfl rfl ⟨Nat.le_of_ble_eq_true rfl, Nat.le_of_ble_eq_true rfl, Nat.le_of_ble_eq_true rfl⟩ dX7_worthBy_122 rfl (K_X7_knownTo E p8.2 l0 l3) (fun p9 => ?_)
    refine Jo_callSi (rest := [.int p8.1]) [.int p9.1] yF_X7_bitsOf yS_X7_bitsOf w_727 rfl rfl ⟨Nat.le_of_ble_eq_true rfl, Nat.le_of_ble_eq_true rfl, Nat.le_of_ble_eq_true rfl⟩ dX7_worthBy_125 rfl (K_X7_bitsOf E p9.2 p9.1) (fun p10 => ?_)
    refine Jo_iadd dX7_worthBy_128 ?_
    exact Jo_iret rfl dX7_worthBy_129
  refine Jo_tabOut 130 dX7_worthBy_54 (by have qg2 := i32ne 1 (by decide) g2; have qg3 := i32ne 2 (by decide) g3; have qg4 := i32ne 3 (by decide) g4; have qg5 := i32ne 4 (by decide) g5; have qg6 := i32ne 5 (by decide) g6; omega) (by decide) ?_
  refine Jo_iload 0 dX7_worthBy_130 rfl ?_
  exact Jo_iret rfl dX7_worthBy_132
def f_X7_worthBy_b34 (l0 : Nat) (l1 : Int32) (l2 : Int32) (l3 : Int32) (l4 : Int32) (t0 : Int32) (s : hS) : Option (Int32 × hS) :=
  if 0 ≤ l4 then
    (cV s l0 7 (f_X7_priceOf s l0 l4 l3)).bind fun p1 =>
    f_X7_worthBy_b50 l0 l1 l2 l3 t0 p1.1 p1.2
  else
    f_X7_worthBy_b50 l0 l1 l2 l3 t0 (0 : Int32) s
theorem b_X7_worthBy_34 (E : jE)  (s : hS) (l0 : Nat) (l1 : Int32) (l2 : Int32) (l3 : Int32) (l4 : Int32) (t0 : Int32) : Jo E M_X7_worthBy cvI 34 [(0, .ref l0), (1, .int l1), (2, .int l2), (3, .int l3), (4, .int l4)] [.int t0] s (f_X7_worthBy_b34  l0 l1 l2 l3 l4 t0 s) := by
  unfold f_X7_worthBy_b34
  refine Jo_iload 4 dX7_worthBy_34 rfl ?_
  refine Jo_if_ge 43 dX7_worthBy_36 (by decide) rfl ?_ ?_
  · refine Jo_aloadn 0 dX7_worthBy_43 rfl rfl ?_
    refine Jo_iload 4 dX7_worthBy_44 rfl ?_
    refine Jo_iloadn 3 dX7_worthBy_46 rfl rfl ?_
    refine Jo_callVi (a := l0) (rest := [.int t0]) [.int l4, .int l3] cc_7 yF_X7_priceOf yV_X7_priceOf w_732 rfl rfl ⟨Nat.le_of_ble_eq_true rfl, Nat.le_of_ble_eq_true rfl, Nat.le_of_ble_eq_true rfl⟩ dX7_worthBy_47 rfl (K_X7_priceOf E s l0 l4 l3) (fun p1 => ?_)
    refine Jo_sub [0, 1, 2, 3] rfl ?_
    exact b_X7_worthBy_50 E p1.2 l0 l1 l2 l3 t0 p1.1
  · refine Jo_iconst (v := (0 : Int32)) dX7_worthBy_39 (by decide) ?_
    refine Jo_goto 50 dX7_worthBy_40 (by decide) ?_
    refine Jo_sub [0, 1, 2, 3] rfl ?_
    exact b_X7_worthBy_50 E s l0 l1 l2 l3 t0 (0 : Int32)
def f_X7_worthBy (s : hS) (a0 : Nat) (i1 : Int32) (i2 : Int32) (i3 : Int32) : Option (Int32 × hS) :=
  (cV s a0 7 (f_X7_givenBy s a0 i1 i2 i3)).bind fun p1 =>
  (cV p1.2 a0 7 (f_X7_gotBy p1.2 a0 i1 i2 i3)).bind fun p2 =>
  if 0 ≤ p2.1 then
    (cV p2.2 a0 7 (f_X7_priceOf p2.2 a0 p2.1 i2)).bind fun p3 =>
    f_X7_worthBy_b34 a0 i1 i2 i3 p1.1 p3.1 p3.2
  else
    f_X7_worthBy_b34 a0 i1 i2 i3 p1.1 (0 : Int32) p2.2
theorem b_X7_worthBy_in (E : jE)  (s : hS) (a0 : Nat) (i1 : Int32) (i2 : Int32) (i3 : Int32)  : Jo E M_X7_worthBy cvI 0 [(0, .ref a0), (1, .int i1), (2, .int i2), (3, .int i3)] [] s (f_X7_worthBy s a0 i1 i2 i3) := by
  unfold f_X7_worthBy
  refine Jo_aloadn 0 dX7_worthBy_0 rfl rfl ?_
  refine Jo_iloadn 1 dX7_worthBy_1 rfl rfl ?_
  refine Jo_iloadn 2 dX7_worthBy_2 rfl rfl ?_
  refine Jo_iloadn 3 dX7_worthBy_3 rfl rfl ?_
  refine Jo_callVi (a := a0) (rest := []) [.int i1, .int i2, .int i3] cc_7 yF_X7_givenBy yV_X7_givenBy w_765 rfl rfl ⟨Nat.le_of_ble_eq_true rfl, Nat.le_of_ble_eq_true rfl, Nat.le_of_ble_eq_true rfl⟩ dX7_worthBy_4 rfl (K_X7_givenBy E s a0 i1 i2 i3) (fun p1 => ?_)
  refine Jo_istore (ls' := [(4, .int p1.1), (0, .ref a0), (1, .int i1), (2, .int i2), (3, .int i3)]) dX7_worthBy_7 (by decide) rfl ?_
  refine Jo_aloadn 1 dX7_worthBy_9 rfl rfl ?_
  refine Jo_iloadn 2 dX7_worthBy_10 rfl rfl ?_
  refine Jo_iloadn 3 dX7_worthBy_11 rfl rfl ?_
  refine Jo_iloadn 4 dX7_worthBy_12 rfl rfl ?_
  refine Jo_callVi (a := a0) (rest := []) [.int i1, .int i2, .int i3] cc_7 yF_X7_gotBy yV_X7_gotBy w_769 rfl rfl ⟨Nat.le_of_ble_eq_true rfl, Nat.le_of_ble_eq_true rfl, Nat.le_of_ble_eq_true rfl⟩ dX7_worthBy_13 rfl (K_X7_gotBy E p1.2 a0 i1 i2 i3) (fun p2 => ?_)
  refine Jo_istore (ls' := [(5, .int p2.1), (4, .int p1.1), (0, .ref a0), (1, .int i1), (2, .int i2), (3, .int i3)]) dX7_worthBy_16 (by decide) rfl ?_
  refine Jo_iload 0 dX7_worthBy_18 rfl ?_
  refine Jo_if_ge 27 dX7_worthBy_20 (by decide) rfl ?_ ?_
  · refine Jo_aloadn 2 dX7_worthBy_27 rfl rfl ?_
    refine Jo_iload 0 dX7_worthBy_28 rfl ?_
    refine Jo_iloadn 4 dX7_worthBy_30 rfl rfl ?_
    refine Jo_callVi (a := a0) (rest := []) [.int p2.1, .int i2] cc_7 yF_X7_priceOf yV_X7_priceOf w_732 rfl rfl ⟨Nat.le_of_ble_eq_true rfl, Nat.le_of_ble_eq_true rfl, Nat.le_of_ble_eq_true rfl⟩ dX7_worthBy_31 rfl (K_X7_priceOf E p2.2 a0 p2.1 i2) (fun p3 => ?_)
    refine Jo_sub [2, 3, 4, 5, 1] rfl ?_
    exact b_X7_worthBy_34 E p3.2 a0 i1 i2 i3 p1.1 p3.1
  · refine Jo_iconst (v := (0 : Int32)) dX7_worthBy_23 (by decide) ?_
    refine Jo_goto 34 dX7_worthBy_24 (by decide) ?_
    refine Jo_sub [2, 3, 4, 5, 1] rfl ?_
    exact b_X7_worthBy_34 E p2.2 a0 i1 i2 i3 p1.1 (0 : Int32)
theorem K_X7_worthBy (E : jE) (s : hS) (a0 : Nat) (i1 : Int32) (i2 : Int32) (i3 : Int32) : jK E yX7_worthBy M_X7_worthBy cvI [.ref a0, .int i1, .int i2, .int i3] s (f_X7_worthBy s a0 i1 i2 i3) := jK_of ⟨by decide, rfl, rfl⟩ (Nat.le_of_ble_eq_true rfl) (b_X7_worthBy_in E s a0 i1 i2 i3)
/-! HeronTalkModel.told(II)I -/
abbrev M_X7_told : jM := (RX7, cX7_told, 4, (some .int), "told", 8, 193)
theorem yF_X7_told : yF yX7_told M_X7_told 2 := ⟨w_780, w_624, by decide +kernel⟩
theorem yV_X7_told : Cond.instanceMethod yX7_told ∈ tbG ∧ Cond.selects yX7_told.cls yX7_told yX7_told ∈ tbG := ⟨w_781, w_782⟩
theorem dX7_told_0 : dI cX7_told 0 1 (.aload_n 0) 1 := ⟨by decide +kernel, rfl⟩
theorem dX7_told_1 : dI cX7_told 1 2 (.iload_n 1) 1 := ⟨by decide +kernel, rfl⟩
theorem dX7_told_2 : decode cX7_told 2 = .ok (.invokevirtual 164, 3) := by decide +kernel
theorem dX7_told_5 : decode cX7_told 5 = .ok (.ifCond .eq 13, 3) := by decide +kernel
theorem dX7_told_8 : dI cX7_told 8 9 (.iload_n 2) 1 := ⟨by decide +kernel, rfl⟩
theorem dX7_told_9 : dI cX7_told 9 10 (.iconst 0) 1 := ⟨by decide +kernel, rfl⟩
theorem dX7_told_10 : dI cX7_told 10 12 (.bipush 6) 2 := ⟨by decide +kernel, rfl⟩
theorem dX7_told_12 : decode cX7_told 12 = .ok (.invokestatic 79, 3) := by decide +kernel
theorem dX7_told_15 : decode cX7_told 15 = .ok (.ifCond .ne 6, 3) := by decide +kernel
theorem dX7_told_18 : dI cX7_told 18 20 (.ldc 87) 2 := ⟨by decide +kernel, rfl⟩
theorem dX7_told_20 : dI cX7_told 20 21 (.ireturn) 1 := ⟨by decide +kernel, rfl⟩
theorem dX7_told_21 : dI cX7_told 21 23 (.bipush 80) 2 := ⟨by decide +kernel, rfl⟩
theorem dX7_told_23 : dI cX7_told 23 24 (.iconst 3) 1 := ⟨by decide +kernel, rfl⟩
theorem dX7_told_24 : dI cX7_told 24 25 (.iload_n 1) 1 := ⟨by decide +kernel, rfl⟩
theorem dX7_told_25 : dI cX7_told 25 26 (.imul) 1 := ⟨by decide +kernel, rfl⟩
theorem dX7_told_26 : dI cX7_told 26 27 (.iadd) 1 := ⟨by decide +kernel, rfl⟩
theorem dX7_told_27 : dI cX7_told 27 28 (.istore_n 3) 1 := ⟨by decide +kernel, rfl⟩
theorem dX7_told_28 : dI cX7_told 28 29 (.iload_n 2) 1 := ⟨by decide +kernel, rfl⟩
theorem dX7_told_29 : decode cX7_told 29 = .ok (.tableswitch 153 3 6 #[31, 61, 91, 126], 31) := by decide +kernel
theorem dX7_told_60 : dI cX7_told 60 61 (.aload_n 0) 1 := ⟨by decide +kernel, rfl⟩
theorem dX7_told_61 : dI cX7_told 61 62 (.aload_n 0) 1 := ⟨by decide +kernel, rfl⟩
theorem dX7_told_62 : dI cX7_told 62 65 (.getfield 9) 3 := ⟨by decide +kernel, rfl⟩
theorem dX7_told_65 : dI cX7_told 65 66 (.iload_n 3) 1 := ⟨by decide +kernel, rfl⟩
theorem dX7_told_66 : dI cX7_told 66 67 (.iaload) 1 := ⟨by decide +kernel, rfl⟩
theorem dX7_told_67 : dI cX7_told 67 68 (.aload_n 0) 1 := ⟨by decide +kernel, rfl⟩
theorem dX7_told_68 : dI cX7_told 68 71 (.getfield 9) 3 := ⟨by decide +kernel, rfl⟩
theorem dX7_told_71 : dI cX7_told 71 72 (.iload_n 3) 1 := ⟨by decide +kernel, rfl⟩
theorem dX7_told_72 : dI cX7_told 72 73 (.iconst 1) 1 := ⟨by decide +kernel, rfl⟩
theorem dX7_told_73 : dI cX7_told 73 74 (.iadd) 1 := ⟨by decide +kernel, rfl⟩
theorem dX7_told_74 : dI cX7_told 74 75 (.iaload) 1 := ⟨by decide +kernel, rfl⟩
theorem dX7_told_75 : dI cX7_told 75 76 (.aload_n 0) 1 := ⟨by decide +kernel, rfl⟩
theorem dX7_told_76 : dI cX7_told 76 79 (.getfield 9) 3 := ⟨by decide +kernel, rfl⟩
theorem dX7_told_79 : dI cX7_told 79 80 (.iload_n 3) 1 := ⟨by decide +kernel, rfl⟩
theorem dX7_told_80 : dI cX7_told 80 81 (.iconst 2) 1 := ⟨by decide +kernel, rfl⟩
theorem dX7_told_81 : dI cX7_told 81 82 (.iadd) 1 := ⟨by decide +kernel, rfl⟩
theorem dX7_told_82 : dI cX7_told 82 83 (.iaload) 1 := ⟨by decide +kernel, rfl⟩
theorem dX7_told_83 : decode cX7_told 83 = .ok (.invokevirtual 158, 3) := by decide +kernel
theorem dX7_told_86 : decode cX7_told 86 = .ok (.invokestatic 167, 3) := by decide +kernel
theorem dX7_told_89 : dI cX7_told 89 90 (.ireturn) 1 := ⟨by decide +kernel, rfl⟩
theorem dX7_told_90 : dI cX7_told 90 91 (.aload_n 0) 1 := ⟨by decide +kernel, rfl⟩
theorem dX7_told_91 : dI cX7_told 91 92 (.aload_n 0) 1 := ⟨by decide +kernel, rfl⟩
theorem dX7_told_92 : dI cX7_told 92 95 (.getfield 9) 3 := ⟨by decide +kernel, rfl⟩
theorem dX7_told_95 : dI cX7_told 95 96 (.iload_n 3) 1 := ⟨by decide +kernel, rfl⟩
theorem dX7_told_96 : dI cX7_told 96 97 (.iaload) 1 := ⟨by decide +kernel, rfl⟩
theorem dX7_told_97 : dI cX7_told 97 98 (.aload_n 0) 1 := ⟨by decide +kernel, rfl⟩
theorem dX7_told_98 : dI cX7_told 98 101 (.getfield 9) 3 := ⟨by decide +kernel, rfl⟩
theorem dX7_told_101 : dI cX7_told 101 102 (.iload_n 3) 1 := ⟨by decide +kernel, rfl⟩
theorem dX7_told_102 : dI cX7_told 102 103 (.iconst 1) 1 := ⟨by decide +kernel, rfl⟩
theorem dX7_told_103 : dI cX7_told 103 104 (.iadd) 1 := ⟨by decide +kernel, rfl⟩
theorem dX7_told_104 : dI cX7_told 104 105 (.iaload) 1 := ⟨by decide +kernel, rfl⟩
theorem dX7_told_105 : dI cX7_told 105 106 (.aload_n 0) 1 := ⟨by decide +kernel, rfl⟩
theorem dX7_told_106 : dI cX7_told 106 109 (.getfield 9) 3 := ⟨by decide +kernel, rfl⟩
theorem dX7_told_109 : dI cX7_told 109 110 (.iload_n 3) 1 := ⟨by decide +kernel, rfl⟩
theorem dX7_told_110 : dI cX7_told 110 111 (.iconst 2) 1 := ⟨by decide +kernel, rfl⟩
theorem dX7_told_111 : dI cX7_told 111 112 (.iadd) 1 := ⟨by decide +kernel, rfl⟩
theorem dX7_told_112 : dI cX7_told 112 113 (.iaload) 1 := ⟨by decide +kernel, rfl⟩
theorem dX7_told_113 : decode cX7_told 113 = .ok (.invokevirtual 161, 3) := by decide +kernel
theorem dX7_told_116 : decode cX7_told 116 = .ok (.invokestatic 167, 3) := by decide +kernel
theorem dX7_told_119 : dI cX7_told 119 120 (.ireturn) 1 := ⟨by decide +kernel, rfl⟩
theorem dX7_told_120 : dI cX7_told 120 121 (.aload_n 0) 1 := ⟨by decide +kernel, rfl⟩
theorem dX7_told_121 : dI cX7_told 121 122 (.aload_n 0) 1 := ⟨by decide +kernel, rfl⟩
theorem dX7_told_122 : dI cX7_told 122 125 (.getfield 9) 3 := ⟨by decide +kernel, rfl⟩
theorem dX7_told_125 : dI cX7_told 125 126 (.iload_n 3) 1 := ⟨by decide +kernel, rfl⟩
theorem dX7_told_126 : dI cX7_told 126 127 (.iaload) 1 := ⟨by decide +kernel, rfl⟩
theorem dX7_told_127 : dI cX7_told 127 128 (.aload_n 0) 1 := ⟨by decide +kernel, rfl⟩
theorem dX7_told_128 : dI cX7_told 128 131 (.getfield 9) 3 := ⟨by decide +kernel, rfl⟩
theorem dX7_told_131 : dI cX7_told 131 132 (.iload_n 3) 1 := ⟨by decide +kernel, rfl⟩
theorem dX7_told_132 : dI cX7_told 132 133 (.iconst 1) 1 := ⟨by decide +kernel, rfl⟩
theorem dX7_told_133 : dI cX7_told 133 134 (.iadd) 1 := ⟨by decide +kernel, rfl⟩
theorem dX7_told_134 : dI cX7_told 134 135 (.iaload) 1 := ⟨by decide +kernel, rfl⟩
theorem dX7_told_135 : dI cX7_told 135 136 (.aload_n 0) 1 := ⟨by decide +kernel, rfl⟩
theorem dX7_told_136 : dI cX7_told 136 139 (.getfield 9) 3 := ⟨by decide +kernel, rfl⟩
theorem dX7_told_139 : dI cX7_told 139 140 (.iload_n 3) 1 := ⟨by decide +kernel, rfl⟩
theorem dX7_told_140 : dI cX7_told 140 141 (.iconst 2) 1 := ⟨by decide +kernel, rfl⟩
theorem dX7_told_141 : dI cX7_told 141 142 (.iadd) 1 := ⟨by decide +kernel, rfl⟩
theorem dX7_told_142 : dI cX7_told 142 143 (.iaload) 1 := ⟨by decide +kernel, rfl⟩
theorem dX7_told_143 : decode cX7_told 143 = .ok (.invokevirtual 170, 3) := by decide +kernel
theorem dX7_told_146 : decode cX7_told 146 = .ok (.ifCond .eq 7, 3) := by decide +kernel
theorem dX7_told_149 : dI cX7_told 149 150 (.iconst 1) 1 := ⟨by decide +kernel, rfl⟩
theorem dX7_told_150 : decode cX7_told 150 = .ok (.goto 4, 3) := by decide +kernel
theorem dX7_told_153 : dI cX7_told 153 154 (.iconst 0) 1 := ⟨by decide +kernel, rfl⟩
theorem dX7_told_154 : dI cX7_told 154 155 (.ireturn) 1 := ⟨by decide +kernel, rfl⟩
theorem dX7_told_155 : dI cX7_told 155 156 (.aload_n 0) 1 := ⟨by decide +kernel, rfl⟩
theorem dX7_told_156 : dI cX7_told 156 157 (.aload_n 0) 1 := ⟨by decide +kernel, rfl⟩
theorem dX7_told_157 : dI cX7_told 157 160 (.getfield 9) 3 := ⟨by decide +kernel, rfl⟩
theorem dX7_told_160 : dI cX7_told 160 161 (.iload_n 3) 1 := ⟨by decide +kernel, rfl⟩
theorem dX7_told_161 : dI cX7_told 161 162 (.iaload) 1 := ⟨by decide +kernel, rfl⟩
theorem dX7_told_162 : dI cX7_told 162 163 (.aload_n 0) 1 := ⟨by decide +kernel, rfl⟩
theorem dX7_told_163 : dI cX7_told 163 166 (.getfield 9) 3 := ⟨by decide +kernel, rfl⟩
theorem dX7_told_166 : dI cX7_told 166 167 (.iload_n 3) 1 := ⟨by decide +kernel, rfl⟩
theorem dX7_told_167 : dI cX7_told 167 168 (.iconst 1) 1 := ⟨by decide +kernel, rfl⟩
theorem dX7_told_168 : dI cX7_told 168 169 (.iadd) 1 := ⟨by decide +kernel, rfl⟩
theorem dX7_told_169 : dI cX7_told 169 170 (.iaload) 1 := ⟨by decide +kernel, rfl⟩
theorem dX7_told_170 : dI cX7_told 170 171 (.aload_n 0) 1 := ⟨by decide +kernel, rfl⟩
theorem dX7_told_171 : dI cX7_told 171 174 (.getfield 9) 3 := ⟨by decide +kernel, rfl⟩
theorem dX7_told_174 : dI cX7_told 174 175 (.iload_n 3) 1 := ⟨by decide +kernel, rfl⟩
theorem dX7_told_175 : dI cX7_told 175 176 (.iconst 2) 1 := ⟨by decide +kernel, rfl⟩
theorem dX7_told_176 : dI cX7_told 176 177 (.iadd) 1 := ⟨by decide +kernel, rfl⟩
theorem dX7_told_177 : dI cX7_told 177 178 (.iaload) 1 := ⟨by decide +kernel, rfl⟩
theorem dX7_told_178 : decode cX7_told 178 = .ok (.invokevirtual 173, 3) := by decide +kernel
theorem dX7_told_181 : dI cX7_told 181 182 (.ireturn) 1 := ⟨by decide +kernel, rfl⟩
theorem dX7_told_182 : dI cX7_told 182 183 (.aload_n 0) 1 := ⟨by decide +kernel, rfl⟩
theorem dX7_told_183 : dI cX7_told 183 186 (.getfield 9) 3 := ⟨by decide +kernel, rfl⟩
theorem dX7_told_186 : dI cX7_told 186 187 (.iload_n 3) 1 := ⟨by decide +kernel, rfl⟩
theorem dX7_told_187 : dI cX7_told 187 188 (.iload_n 2) 1 := ⟨by decide +kernel, rfl⟩
theorem dX7_told_188 : dI cX7_told 188 189 (.iadd) 1 := ⟨by decide +kernel, rfl⟩
theorem dX7_told_189 : dI cX7_told 189 190 (.iaload) 1 := ⟨by decide +kernel, rfl⟩
theorem dX7_told_190 : dI cX7_told 190 191 (.ireturn) 1 := ⟨by decide +kernel, rfl⟩
def f_X7_told (s : hS) (a0 : Nat) (i1 : Int32) (i2 : Int32) : Option (Int32 × hS) :=
  (cV s a0 7 (f_X7_isTalk s a0 i1)).bind fun p1 =>
  if p1.1 = 0 then
    some ((-1000000001 : Int32), p1.2)
  else
    (f_X7_in p1.2 i2 (0 : Int32) (6 : Int32)).bind fun p2 =>
    if p2.1 = 0 then
      some ((-1000000001 : Int32), p2.2)
    else
      nmv (((80 : Int32) + ((3 : Int32) * i1))) fun x3 =>
      if i2 = (3 : Int32) then
        (gR p2.2 a0 7 0).bind fun a5 =>
        (aI p2.2 a5 10 x3).bind fun x6 =>
        (gR p2.2 a0 7 0).bind fun a7 =>
        (aI p2.2 a7 10 (x3 + (1 : Int32))).bind fun x8 =>
        (gR p2.2 a0 7 0).bind fun a9 =>
        (aI p2.2 a9 10 (x3 + (2 : Int32))).bind fun x10 =>
        (cV p2.2 a0 7 (f_X7_givenBy p2.2 a0 x6 x8 x10)).bind fun p11 =>
        (f_X7_told0 p11.2 p11.1).bind fun p12 =>
        some (p12.1, p12.2)
      else
      if i2 = (4 : Int32) then
        (gR p2.2 a0 7 0).bind fun a14 =>
        (aI p2.2 a14 10 x3).bind fun x15 =>
        (gR p2.2 a0 7 0).bind fun a16 =>
        (aI p2.2 a16 10 (x3 + (1 : Int32))).bind fun x17 =>
        (gR p2.2 a0 7 0).bind fun a18 =>
        (aI p2.2 a18 10 (x3 + (2 : Int32))).bind fun x19 =>
        (cV p2.2 a0 7 (f_X7_gotBy p2.2 a0 x15 x17 x19)).bind fun p20 =>
        (f_X7_told0 p20.2 p20.1).bind fun p21 =>
        some (p21.1, p21.2)
      else
      if i2 = (5 : Int32) then
        (gR p2.2 a0 7 0).bind fun a23 =>
        (aI p2.2 a23 10 x3).bind fun x24 =>
        (gR p2.2 a0 7 0).bind fun a25 =>
        (aI p2.2 a25 10 (x3 + (1 : Int32))).bind fun x26 =>
        (gR p2.2 a0 7 0).bind fun a27 =>
        (aI p2.2 a27 10 (x3 + (2 : Int32))).bind fun x28 =>
        (cV p2.2 a0 7 (f_X7_wouldGo p2.2 a0 x24 x26 x28)).bind fun p29 =>
        if p29.1 = 0 then
          some ((0 : Int32), p29.2)
        else
          some ((1 : Int32), p29.2)
      else
      if i2 = (6 : Int32) then
        (gR p2.2 a0 7 0).bind fun a31 =>
        (aI p2.2 a31 10 x3).bind fun x32 =>
        (gR p2.2 a0 7 0).bind fun a33 =>
        (aI p2.2 a33 10 (x3 + (1 : Int32))).bind fun x34 =>
        (gR p2.2 a0 7 0).bind fun a35 =>
        (aI p2.2 a35 10 (x3 + (2 : Int32))).bind fun x36 =>
        (cV p2.2 a0 7 (f_X7_worthBy p2.2 a0 x32 x34 x36)).bind fun p37 =>
        some (p37.1, p37.2)
      else
      (gR p2.2 a0 7 0).bind fun a38 =>
      (aI p2.2 a38 10 (x3 + i2)).bind fun x39 =>
      some (x39, p2.2)
theorem b_X7_told_in (E : jE)  (s : hS) (a0 : Nat) (i1 : Int32) (i2 : Int32)  : Jo E M_X7_told cvI 0 [(0, .ref a0), (1, .int i1), (2, .int i2)] [] s (f_X7_told s a0 i1 i2) := by
  unfold f_X7_told
  refine Jo_aloadn 0 dX7_told_0 rfl rfl ?_
  refine Jo_iloadn 1 dX7_told_1 rfl rfl ?_
  refine Jo_callVi (a := a0) (rest := []) [.int i1] cc_7 yF_X7_isTalk yV_X7_isTalk w_779 rfl rfl ⟨Nat.le_of_ble_eq_true rfl, Nat.le_of_ble_eq_true rfl, Nat.le_of_ble_eq_true rfl⟩ dX7_told_2 rfl (K_X7_isTalk E s a0 i1) (fun p1 => ?_)
  refine Jo_if_eq 18 dX7_told_5 (by decide) rfl ?_ ?_
  · refine Jo_ldc dX7_told_18 w_673 ?_
    exact Jo_iret rfl dX7_told_20
  · refine Jo_iloadn 2 dX7_told_8 rfl rfl ?_
    refine Jo_iconst (v := (0 : Int32)) dX7_told_9 (by decide) ?_
    refine Jo_bipush (v := (6 : Int32)) dX7_told_10 (by decide) ?_
    refine Jo_callSi (rest := []) [.int i2, .int (0 : Int32), .int (6 : Int32)] yF_X7_in yS_X7_in w_635 rfl rfl ⟨Nat.le_of_ble_eq_true rfl, Nat.le_of_ble_eq_true rfl, Nat.le_of_ble_eq_true rfl⟩ dX7_told_12 rfl (K_X7_in E p1.2 i2 (0 : Int32) (6 : Int32)) (fun p2 => ?_)
    refine Jo_if_ne 21 dX7_told_15 (by decide) rfl ?_ ?_
    · refine Jo_ldc dX7_told_18 w_673 ?_
      exact Jo_iret rfl dX7_told_20
    · refine Jo_bipush (v := (80 : Int32)) dX7_told_21 (by decide) ?_
      refine Jo_iconst (v := (3 : Int32)) dX7_told_23 (by decide) ?_
      refine Jo_iloadn 1 dX7_told_24 rfl rfl ?_
      refine Jo_imul dX7_told_25 ?_
      refine Jo_iadd dX7_told_26 ?_
      refine Jo_nm (fun x3 => ?_)
      refine Jo_istoren (ls' := [(3, .int x3), (0, .ref a0), (1, .int i1), (2, .int i2)]) dX7_told_27 rfl (by decide) rfl ?_
      refine Jo_iloadn 3 dX7_told_28 rfl rfl ?_
      refine Jo_case ?_ (fun g4 => ?_)
      · refine Jo_tabIn (off := 31) 60 dX7_told_29 (by decide) (by decide) (by decide) (by decide) ?_
        refine Jo_aloadn 1 dX7_told_60 rfl rfl ?_
        refine Jo_aloadn 1 dX7_told_61 rfl rfl ?_
        refine Jo_getR fF_7_0 fR_7_0 dX7_told_62 w_598 (fun a5 => ?_)
        refine Jo_iloadn 0 dX7_told_65 rfl rfl ?_
        refine Jo_iaload dX7_told_66 (fun x6 => ?_)
        refine Jo_aloadn 1 dX7_told_67 rfl rfl ?_
        refine Jo_getR fF_7_0 fR_7_0 dX7_told_68 w_598 (fun a7 => ?_)
        refine Jo_iloadn 0 dX7_told_71 rfl rfl ?_
        refine Jo_iconst (v := (1 : Int32)) dX7_told_72 (by decide) ?_
        refine Jo_iadd dX7_told_73 ?_
        refine Jo_iaload dX7_told_74 (fun x8 => ?_)
        refine Jo_aloadn 1 dX7_told_75 rfl rfl ?_
        refine Jo_getR fF_7_0 fR_7_0 dX7_told_76 w_598 (fun a9 => ?_)
        refine Jo_iloadn 0 dX7_told_79 rfl rfl ?_
        refine Jo_iconst (v := (2 : Int32)) dX7_told_80 (by decide) ?_
        refine Jo_iadd dX7_told_81 ?_
        refine Jo_iaload dX7_told_82 (fun x10 => ?_)
        refine Jo_callVi (a := a0) (rest := []) [.int x6, .int x8, .int x10] cc_7 yF_X7_givenBy yV_X7_givenBy w_765 rfl rfl ⟨Nat.le_of_ble_eq_true rfl, Nat.le_of_ble_eq_true rfl, Nat.le_of_ble_eq_true rfl⟩ dX7_told_83 rfl (K_X7_givenBy E p2.2 a0 x6 x8 x10) (fun p11 => ?_)
        refine Jo_callSi (rest := []) [.int p11.1] yF_X7_told0 yS_X7_told0 w_776 rfl rfl ⟨Nat.le_of_ble_eq_true rfl, Nat.le_of_ble_eq_true rfl, Nat.le_of_ble_eq_true rfl⟩ dX7_told_86 rfl (K_X7_told0 E p11.2 p11.1) (fun p12 => ?_)
        exact Jo_iret rfl dX7_told_89
      refine Jo_case ?_ (fun g13 => ?_)
      · refine Jo_tabIn (off := 61) 90 dX7_told_29 (by decide) (by decide) (by decide) (by decide) ?_
        refine Jo_aloadn 1 dX7_told_90 rfl rfl ?_
        refine Jo_aloadn 1 dX7_told_91 rfl rfl ?_
        refine Jo_getR fF_7_0 fR_7_0 dX7_told_92 w_598 (fun a14 => ?_)
        refine Jo_iloadn 0 dX7_told_95 rfl rfl ?_
        refine Jo_iaload dX7_told_96 (fun x15 => ?_)
        refine Jo_aloadn 1 dX7_told_97 rfl rfl ?_
        refine Jo_getR fF_7_0 fR_7_0 dX7_told_98 w_598 (fun a16 => ?_)
        refine Jo_iloadn 0 dX7_told_101 rfl rfl ?_
        refine Jo_iconst (v := (1 : Int32)) dX7_told_102 (by decide) ?_
        refine Jo_iadd dX7_told_103 ?_
        refine Jo_iaload dX7_told_104 (fun x17 => ?_)
        refine Jo_aloadn 1 dX7_told_105 rfl rfl ?_
        refine Jo_getR fF_7_0 fR_7_0 dX7_told_106 w_598 (fun a18 => ?_)
        refine Jo_iloadn 0 dX7_told_109 rfl rfl ?_
        refine Jo_iconst (v := (2 : Int32)) dX7_told_110 (by decide) ?_
        refine Jo_iadd dX7_told_111 ?_
        refine Jo_iaload dX7_told_112 (fun x19 => ?_)
        refine Jo_callVi (a := a0) (rest := []) [.int x15, .int x17, .int x19] cc_7 yF_X7_gotBy yV_X7_gotBy w_769 rfl rfl ⟨Nat.le_of_ble_eq_true rfl, Nat.le_of_ble_eq_true rfl, Nat.le_of_ble_eq_true rfl⟩ dX7_told_113 rfl (K_X7_gotBy E p2.2 a0 x15 x17 x19) (fun p20 => ?_)
        refine Jo_callSi (rest := []) [.int p20.1] yF_X7_told0 yS_X7_told0 w_776 rfl rfl ⟨Nat.le_of_ble_eq_true rfl, Nat.le_of_ble_eq_true rfl, Nat.le_of_ble_eq_true rfl⟩ dX7_told_116 rfl (K_X7_told0 E p20.2 p20.1) (fun p21 => ?_)
        exact Jo_iret rfl dX7_told_119
      refine Jo_case ?_ (fun g22 => ?_)
      · refine Jo_tabIn (off := 91) 120 dX7_told_29 (by decide) (by decide) (by decide) (by decide) ?_
        refine Jo_aloadn 1 dX7_told_120 rfl rfl ?_
        refine Jo_aloadn 1 dX7_told_121 rfl rfl ?_
        refine Jo_getR fF_7_0 fR_7_0 dX7_told_122 w_598 (fun a23 => ?_)
        refine Jo_iloadn 0 dX7_told_125 rfl rfl ?_
        refine Jo_iaload dX7_told_126 (fun x24 => ?_)
        refine Jo_aloadn 1 dX7_told_127 rfl rfl ?_
        refine Jo_getR fF_7_0 fR_7_0 dX7_told_128 w_598 (fun a25 => ?_)
        refine Jo_iloadn 0 dX7_told_131 rfl rfl ?_
        refine Jo_iconst (v := (1 : Int32)) dX7_told_132 (by decide) ?_
        refine Jo_iadd dX7_told_133 ?_
        refine Jo_iaload dX7_told_134 (fun x26 => ?_)
        refine Jo_aloadn 1 dX7_told_135 rfl rfl ?_
        refine Jo_getR fF_7_0 fR_7_0 dX7_told_136 w_598 (fun a27 => ?_)
        refine Jo_iloadn 0 dX7_told_139 rfl rfl ?_
        refine Jo_iconst (v := (2 : Int32)) dX7_told_140 (by decide) ?_
        refine Jo_iadd dX7_told_141 ?_
        refine Jo_iaload dX7_told_142 (fun x28 => ?_)
        refine Jo_callVi (a := a0) (rest := []) [.int x24, .int x26, .int x28] cc_7 yF_X7_wouldGo yV_X7_wouldGo w_777 rfl rfl ⟨Nat.le_of_ble_eq_true rfl, Nat.le_of_ble_eq_true rfl, Nat.le_of_ble_eq_true rfl⟩ dX7_told_143 rfl (K_X7_wouldGo E p2.2 a0 x24 x26 x28) (fun p29 => ?_)
        refine Jo_if_eq 153 dX7_told_146 (by decide) rfl ?_ ?_
        · refine Jo_iconst (v := (0 : Int32)) dX7_told_153 (by decide) ?_
          exact Jo_iret rfl dX7_told_154
        · refine Jo_iconst (v := (1 : Int32)) dX7_told_149 (by decide) ?_
          refine Jo_goto 154 dX7_told_150 (by decide) ?_
          exact Jo_iret rfl dX7_told_154
      refine Jo_case ?_ (fun g30 => ?_)
      · refine Jo_tabIn (off := 126) 155 dX7_told_29 (by decide) (by decide) (by decide) (by decide) ?_
        refine Jo_aloadn 1 dX7_told_155 rfl rfl ?_
        refine Jo_aloadn 1 dX7_told_156 rfl rfl ?_
        refine Jo_getR fF_7_0 fR_7_0 dX7_told_157 w_598 (fun a31 => ?_)
        refine Jo_iloadn 0 dX7_told_160 rfl rfl ?_
        refine Jo_iaload dX7_told_161 (fun x32 => ?_)
        refine Jo_aloadn 1 dX7_told_162 rfl rfl ?_
        refine Jo_getR fF_7_0 fR_7_0 dX7_told_163 w_598 (fun a33 => ?_)
        refine Jo_iloadn 0 dX7_told_166 rfl rfl ?_
        refine Jo_iconst (v := (1 : Int32)) dX7_told_167 (by decide) ?_
        refine Jo_iadd dX7_told_168 ?_
        refine Jo_iaload dX7_told_169 (fun x34 => ?_)
        refine Jo_aloadn 1 dX7_told_170 rfl rfl ?_
        refine Jo_getR fF_7_0 fR_7_0 dX7_told_171 w_598 (fun a35 => ?_)
        refine Jo_iloadn 0 dX7_told_174 rfl rfl ?_
        refine Jo_iconst (v := (2 : Int32)) dX7_told_175 (by decide) ?_
        refine Jo_iadd dX7_told_176 ?_
        refine Jo_iaload dX7_told_177 (fun x36 => ?_)
        refine Jo_callVi (a := a0) (rest := []) [.int x32, .int x34, .int x36] cc_7 yF_X7_worthBy yV_X7_worthBy w_778 rfl rfl ⟨Nat.le_of_ble_eq_true rfl, Nat.le_of_ble_eq_true rfl, Nat.le_of_ble_eq_true rfl⟩ dX7_told_178 rfl (K_X7_worthBy E p2.2 a0 x32 x34 x36) (fun p37 => ?_)
        exact Jo_iret rfl dX7_told_181
      refine Jo_tabOut 182 dX7_told_29 (by have qg4 := i32ne 3 (by decide) g4; have qg13 := i32ne 4 (by decide) g13; have qg22 := i32ne 5 (by decide) g22; have qg30 := i32ne 6 (by decide) g30; omega) (by decide) ?_
      refine Jo_aloadn 1 dX7_told_182 rfl rfl ?_
      refine Jo_getR fF_7_0 fR_7_0 dX7_told_183 w_598 (fun a38 => ?_)
      refine Jo_iloadn 0 dX7_told_186 rfl rfl ?_
      refine Jo_iloadn 3 dX7_told_187 rfl rfl ?_
      refine Jo_iadd dX7_told_188 ?_
      refine Jo_iaload dX7_told_189 (fun x39 => ?_)
      exact Jo_iret rfl dX7_told_190
theorem K_X7_told (E : jE) (s : hS) (a0 : Nat) (i1 : Int32) (i2 : Int32) : jK E yX7_told M_X7_told cvI [.ref a0, .int i1, .int i2] s (f_X7_told s a0 i1 i2) := jK_of ⟨by decide, rfl, rfl⟩ (Nat.le_of_ble_eq_true rfl) (b_X7_told_in E s a0 i1 i2)
/-! HeronTalkModel.isUnder(II)Z -/
abbrev M_X7_isUnder : jM := (RX7, cX7_isUnder, 2, (some .boolean), "isUnder", 0, 0)
theorem yF_X7_isUnder : yF yX7_isUnder M_X7_isUnder 2 := ⟨w_783, w_624, by decide +kernel⟩
theorem yS_X7_isUnder : Cond.static yX7_isUnder ∈ tbG := w_784
theorem dX7_isUnder_0 : dI cX7_isUnder 0 1 (.iload_n 1) 1 := ⟨by decide +kernel, rfl⟩
theorem dX7_isUnder_1 : decode cX7_isUnder 1 = .ok (.ifCond .eq 28, 3) := by decide +kernel
theorem dX7_isUnder_4 : dI cX7_isUnder 4 5 (.iload_n 0) 1 := ⟨by decide +kernel, rfl⟩
theorem dX7_isUnder_5 : dI cX7_isUnder 5 6 (.iload_n 1) 1 := ⟨by decide +kernel, rfl⟩
theorem dX7_isUnder_6 : decode cX7_isUnder 6 = .ok (.if_icmp .eq 23, 3) := by decide +kernel
theorem dX7_isUnder_9 : dI cX7_isUnder 9 10 (.iload_n 1) 1 := ⟨by decide +kernel, rfl⟩
theorem dX7_isUnder_10 : dI cX7_isUnder 10 11 (.iconst 1) 1 := ⟨by decide +kernel, rfl⟩
theorem dX7_isUnder_11 : decode cX7_isUnder 11 = .ok (.if_icmp .ne 8, 3) := by decide +kernel
theorem dX7_isUnder_14 : dI cX7_isUnder 14 15 (.iload_n 0) 1 := ⟨by decide +kernel, rfl⟩
theorem dX7_isUnder_15 : dI cX7_isUnder 15 16 (.iconst 3) 1 := ⟨by decide +kernel, rfl⟩
theorem dX7_isUnder_16 : decode cX7_isUnder 16 = .ok (.if_icmp .eq 13, 3) := by decide +kernel
theorem dX7_isUnder_19 : dI cX7_isUnder 19 20 (.iload_n 1) 1 := ⟨by decide +kernel, rfl⟩
theorem dX7_isUnder_20 : dI cX7_isUnder 20 21 (.iconst 2) 1 := ⟨by decide +kernel, rfl⟩
theorem dX7_isUnder_21 : decode cX7_isUnder 21 = .ok (.if_icmp .ne 12, 3) := by decide +kernel
theorem dX7_isUnder_24 : dI cX7_isUnder 24 25 (.iload_n 0) 1 := ⟨by decide +kernel, rfl⟩
theorem dX7_isUnder_25 : dI cX7_isUnder 25 26 (.iconst 4) 1 := ⟨by decide +kernel, rfl⟩
theorem dX7_isUnder_26 : decode cX7_isUnder 26 = .ok (.if_icmp .ne 7, 3) := by decide +kernel
theorem dX7_isUnder_29 : dI cX7_isUnder 29 30 (.iconst 1) 1 := ⟨by decide +kernel, rfl⟩
theorem dX7_isUnder_30 : decode cX7_isUnder 30 = .ok (.goto 4, 3) := by decide +kernel
theorem dX7_isUnder_33 : dI cX7_isUnder 33 34 (.iconst 0) 1 := ⟨by decide +kernel, rfl⟩
theorem dX7_isUnder_34 : dI cX7_isUnder 34 35 (.ireturn) 1 := ⟨by decide +kernel, rfl⟩
def f_X7_isUnder_b29 (s : hS) : Option (Int32 × hS) :=
  some ((1 : Int32), s)
theorem b_X7_isUnder_29 (E : jE)  (s : hS)   : Jo E M_X7_isUnder cvI 29 [] [] s (f_X7_isUnder_b29   s) := by
  unfold f_X7_isUnder_b29
  refine Jo_iconst (v := (1 : Int32)) dX7_isUnder_29 (by decide) ?_
  refine Jo_goto 34 dX7_isUnder_30 (by decide) ?_
  exact Jo_zret1 rfl dX7_isUnder_34
def f_X7_isUnder_b19 (l0 : Int32) (l1 : Int32) (s : hS) : Option (Int32 × hS) :=
  if l1 = (2 : Int32) then
    if l0 = (4 : Int32) then
      f_X7_isUnder_b29  s
    else
      some ((0 : Int32), s)
  else
    some ((0 : Int32), s)
theorem b_X7_isUnder_19 (E : jE)  (s : hS) (l0 : Int32) (l1 : Int32)  : Jo E M_X7_isUnder cvI 19 [(0, .int l0), (1, .int l1)] [] s (f_X7_isUnder_b19  l0 l1 s) := by
  unfold f_X7_isUnder_b19
  refine Jo_iloadn 1 dX7_isUnder_19 rfl rfl ?_
  refine Jo_iconst (v := (2 : Int32)) dX7_isUnder_20 (by decide) ?_
  refine Jo_icmp_ne 33 dX7_isUnder_21 (by decide) rfl ?_ ?_
  · refine Jo_iloadn 0 dX7_isUnder_24 rfl rfl ?_
    refine Jo_iconst (v := (4 : Int32)) dX7_isUnder_25 (by decide) ?_
    refine Jo_icmp_ne 33 dX7_isUnder_26 (by decide) rfl ?_ ?_
    · refine Jo_sub [] rfl ?_
      exact b_X7_isUnder_29 E s 
    · refine Jo_iconst (v := (0 : Int32)) dX7_isUnder_33 (by decide) ?_
      exact Jo_zret0 rfl dX7_isUnder_34
  · refine Jo_iconst (v := (0 : Int32)) dX7_isUnder_33 (by decide) ?_
    exact Jo_zret0 rfl dX7_isUnder_34
def f_X7_isUnder (s : hS) (i0 : Int32) (i1 : Int32) : Option (Int32 × hS) :=
  if i1 = 0 then
    f_X7_isUnder_b29  s
  else
    if i0 = i1 then
      f_X7_isUnder_b29  s
    else
      if i1 = (1 : Int32) then
        if i0 = (3 : Int32) then
          f_X7_isUnder_b29  s
        else
          f_X7_isUnder_b19 i0 i1 s
      else
        f_X7_isUnder_b19 i0 i1 s
theorem b_X7_isUnder_in (E : jE)  (s : hS) (i0 : Int32) (i1 : Int32)  : Jo E M_X7_isUnder cvI 0 [(0, .int i0), (1, .int i1)] [] s (f_X7_isUnder s i0 i1) := by
  unfold f_X7_isUnder
  refine Jo_iloadn 1 dX7_isUnder_0 rfl rfl ?_
  refine Jo_if_eq 29 dX7_isUnder_1 (by decide) rfl ?_ ?_
  · refine Jo_sub [] rfl ?_
    exact b_X7_isUnder_29 E s 
  · refine Jo_iloadn 0 dX7_isUnder_4 rfl rfl ?_
    refine Jo_iloadn 1 dX7_isUnder_5 rfl rfl ?_
    refine Jo_icmp_eq 29 dX7_isUnder_6 (by decide) rfl ?_ ?_
    · refine Jo_sub [] rfl ?_
      exact b_X7_isUnder_29 E s 
    · refine Jo_iloadn 1 dX7_isUnder_9 rfl rfl ?_
      refine Jo_iconst (v := (1 : Int32)) dX7_isUnder_10 (by decide) ?_
      refine Jo_icmp_ne 19 dX7_isUnder_11 (by decide) rfl ?_ ?_
      · refine Jo_iloadn 0 dX7_isUnder_14 rfl rfl ?_
        refine Jo_iconst (v := (3 : Int32)) dX7_isUnder_15 (by decide) ?_
        refine Jo_icmp_eq 29 dX7_isUnder_16 (by decide) rfl ?_ ?_
        · refine Jo_sub [] rfl ?_
          exact b_X7_isUnder_29 E s 
        · exact b_X7_isUnder_19 E s i0 i1
      · exact b_X7_isUnder_19 E s i0 i1
theorem K_X7_isUnder (E : jE) (s : hS) (i0 : Int32) (i1 : Int32) : jK E yX7_isUnder M_X7_isUnder cvI [.int i0, .int i1] s (f_X7_isUnder s i0 i1) := jK_of ⟨by decide, rfl, rfl⟩ (Nat.le_of_ble_eq_true rfl) (b_X7_isUnder_in E s i0 i1)
/-! HeronTalkModel.as(II)I -/
abbrev M_X7_as : jM := (RX7, cX7_as, 3, (some .int), "as", 2, 43)
theorem yF_X7_as : yF yX7_as M_X7_as 2 := ⟨w_787, w_624, by decide +kernel⟩
theorem yV_X7_as : Cond.instanceMethod yX7_as ∈ tbG ∧ Cond.selects yX7_as.cls yX7_as yX7_as ∈ tbG := ⟨w_788, w_789⟩
theorem dX7_as_0 : dI cX7_as 0 1 (.aload_n 0) 1 := ⟨by decide +kernel, rfl⟩
theorem dX7_as_1 : dI cX7_as 1 2 (.iload_n 1) 1 := ⟨by decide +kernel, rfl⟩
theorem dX7_as_2 : decode cX7_as 2 = .ok (.invokevirtual 164, 3) := by decide +kernel
theorem dX7_as_5 : decode cX7_as 5 = .ok (.ifCond .eq 12, 3) := by decide +kernel
theorem dX7_as_8 : dI cX7_as 8 9 (.iload_n 2) 1 := ⟨by decide +kernel, rfl⟩
theorem dX7_as_9 : dI cX7_as 9 10 (.iconst 0) 1 := ⟨by decide +kernel, rfl⟩
theorem dX7_as_10 : dI cX7_as 10 11 (.iconst 5) 1 := ⟨by decide +kernel, rfl⟩
theorem dX7_as_11 : decode cX7_as 11 = .ok (.invokestatic 79, 3) := by decide +kernel
theorem dX7_as_14 : decode cX7_as 14 = .ok (.ifCond .ne 6, 3) := by decide +kernel
theorem dX7_as_17 : dI cX7_as 17 19 (.ldc 87) 2 := ⟨by decide +kernel, rfl⟩
theorem dX7_as_19 : dI cX7_as 19 20 (.ireturn) 1 := ⟨by decide +kernel, rfl⟩
theorem dX7_as_20 : dI cX7_as 20 21 (.aload_n 0) 1 := ⟨by decide +kernel, rfl⟩
theorem dX7_as_21 : dI cX7_as 21 24 (.getfield 9) 3 := ⟨by decide +kernel, rfl⟩
theorem dX7_as_24 : dI cX7_as 24 26 (.bipush 80) 2 := ⟨by decide +kernel, rfl⟩
theorem dX7_as_26 : dI cX7_as 26 27 (.iconst 3) 1 := ⟨by decide +kernel, rfl⟩
theorem dX7_as_27 : dI cX7_as 27 28 (.iload_n 1) 1 := ⟨by decide +kernel, rfl⟩
theorem dX7_as_28 : dI cX7_as 28 29 (.imul) 1 := ⟨by decide +kernel, rfl⟩
theorem dX7_as_29 : dI cX7_as 29 30 (.iadd) 1 := ⟨by decide +kernel, rfl⟩
theorem dX7_as_30 : dI cX7_as 30 31 (.iaload) 1 := ⟨by decide +kernel, rfl⟩
theorem dX7_as_31 : dI cX7_as 31 32 (.iload_n 2) 1 := ⟨by decide +kernel, rfl⟩
theorem dX7_as_32 : decode cX7_as 32 = .ok (.invokestatic 176, 3) := by decide +kernel
theorem dX7_as_35 : decode cX7_as 35 = .ok (.ifCond .eq 19, 3) := by decide +kernel
theorem dX7_as_38 : dI cX7_as 38 39 (.aload_n 0) 1 := ⟨by decide +kernel, rfl⟩
theorem dX7_as_39 : dI cX7_as 39 42 (.getfield 9) 3 := ⟨by decide +kernel, rfl⟩
theorem dX7_as_42 : dI cX7_as 42 44 (.bipush 80) 2 := ⟨by decide +kernel, rfl⟩
theorem dX7_as_44 : dI cX7_as 44 45 (.iconst 3) 1 := ⟨by decide +kernel, rfl⟩
theorem dX7_as_45 : dI cX7_as 45 46 (.iload_n 1) 1 := ⟨by decide +kernel, rfl⟩
theorem dX7_as_46 : dI cX7_as 46 47 (.imul) 1 := ⟨by decide +kernel, rfl⟩
theorem dX7_as_47 : dI cX7_as 47 48 (.iadd) 1 := ⟨by decide +kernel, rfl⟩
theorem dX7_as_48 : dI cX7_as 48 49 (.iconst 1) 1 := ⟨by decide +kernel, rfl⟩
theorem dX7_as_49 : dI cX7_as 49 50 (.iadd) 1 := ⟨by decide +kernel, rfl⟩
theorem dX7_as_50 : dI cX7_as 50 51 (.iaload) 1 := ⟨by decide +kernel, rfl⟩
theorem dX7_as_51 : decode cX7_as 51 = .ok (.goto 5, 3) := by decide +kernel
theorem dX7_as_54 : dI cX7_as 54 56 (.ldc 179) 2 := ⟨by decide +kernel, rfl⟩
theorem dX7_as_56 : dI cX7_as 56 57 (.ireturn) 1 := ⟨by decide +kernel, rfl⟩
def f_X7_as (s : hS) (a0 : Nat) (i1 : Int32) (i2 : Int32) : Option (Int32 × hS) :=
  (cV s a0 7 (f_X7_isTalk s a0 i1)).bind fun p1 =>
  if p1.1 = 0 then
    some ((-1000000001 : Int32), p1.2)
  else
    (f_X7_in p1.2 i2 (0 : Int32) (5 : Int32)).bind fun p2 =>
    if p2.1 = 0 then
      some ((-1000000001 : Int32), p2.2)
    else
      (gR p2.2 a0 7 0).bind fun a3 =>
      (aI p2.2 a3 10 ((80 : Int32) + ((3 : Int32) * i1))).bind fun x4 =>
      (f_X7_isUnder p2.2 x4 i2).bind fun p5 =>
      if p5.1 = 0 then
        some ((-1000000012 : Int32), p5.2)
      else
        (gR p5.2 a0 7 0).bind fun a6 =>
        (aI p5.2 a6 10 (((80 : Int32) + ((3 : Int32) * i1)) + (1 : Int32))).bind fun x7 =>
        some (x7, p5.2)
theorem b_X7_as_in (E : jE)  (s : hS) (a0 : Nat) (i1 : Int32) (i2 : Int32)  : Jo E M_X7_as cvI 0 [(0, .ref a0), (1, .int i1), (2, .int i2)] [] s (f_X7_as s a0 i1 i2) := by
  unfold f_X7_as
  refine Jo_aloadn 0 dX7_as_0 rfl rfl ?_
  refine Jo_iloadn 1 dX7_as_1 rfl rfl ?_
  refine Jo_callVi (a := a0) (rest := []) [.int i1] cc_7 yF_X7_isTalk yV_X7_isTalk w_779 rfl rfl ⟨Nat.le_of_ble_eq_true rfl, Nat.le_of_ble_eq_true rfl, Nat.le_of_ble_eq_true rfl⟩ dX7_as_2 rfl (K_X7_isTalk E s a0 i1) (fun p1 => ?_)
  refine Jo_if_eq 17 dX7_as_5 (by decide) rfl ?_ ?_
  · refine Jo_ldc dX7_as_17 w_673 ?_
    exact Jo_iret rfl dX7_as_19
  · refine Jo_iloadn 2 dX7_as_8 rfl rfl ?_
    refine Jo_iconst (v := (0 : Int32)) dX7_as_9 (by decide) ?_
    refine Jo_iconst (v := (5 : Int32)) dX7_as_10 (by decide) ?_
    refine Jo_callSi (rest := []) [.int i2, .int (0 : Int32), .int (5 : Int32)] yF_X7_in yS_X7_in w_635 rfl rfl ⟨Nat.le_of_ble_eq_true rfl, Nat.le_of_ble_eq_true rfl, Nat.le_of_ble_eq_true rfl⟩ dX7_as_11 rfl (K_X7_in E p1.2 i2 (0 : Int32) (5 : Int32)) (fun p2 => ?_)
    refine Jo_if_ne 20 dX7_as_14 (by decide) rfl ?_ ?_
    · refine Jo_ldc dX7_as_17 w_673 ?_
      exact Jo_iret rfl dX7_as_19
    · refine Jo_aloadn 0 dX7_as_20 rfl rfl ?_
      refine Jo_getR fF_7_0 fR_7_0 dX7_as_21 w_598 (fun a3 => ?_)
      refine Jo_bipush (v := (80 : Int32)) dX7_as_24 (by decide) ?_
      refine Jo_iconst (v := (3 : Int32)) dX7_as_26 (by decide) ?_
      refine Jo_iloadn 1 dX7_as_27 rfl rfl ?_
      refine Jo_imul dX7_as_28 ?_
      refine Jo_iadd dX7_as_29 ?_
      refine Jo_iaload dX7_as_30 (fun x4 => ?_)
      refine Jo_iloadn 2 dX7_as_31 rfl rfl ?_
      refine Jo_callSi (rest := []) [.int x4, .int i2] yF_X7_isUnder yS_X7_isUnder w_786 rfl rfl ⟨Nat.le_of_ble_eq_true rfl, Nat.le_of_ble_eq_true rfl, Nat.le_of_ble_eq_true rfl⟩ dX7_as_32 rfl (K_X7_isUnder E p2.2 x4 i2) (fun p5 => ?_)
      refine Jo_if_eq 54 dX7_as_35 (by decide) rfl ?_ ?_
      · refine Jo_ldc dX7_as_54 w_785 ?_
        exact Jo_iret rfl dX7_as_56
      · refine Jo_aloadn 0 dX7_as_38 rfl rfl ?_
        refine Jo_getR fF_7_0 fR_7_0 dX7_as_39 w_598 (fun a6 => ?_)
        refine Jo_bipush (v := (80 : Int32)) dX7_as_42 (by decide) ?_
        refine Jo_iconst (v := (3 : Int32)) dX7_as_44 (by decide) ?_
        refine Jo_iloadn 1 dX7_as_45 rfl rfl ?_
        refine Jo_imul dX7_as_46 ?_
        refine Jo_iadd dX7_as_47 ?_
        refine Jo_iconst (v := (1 : Int32)) dX7_as_48 (by decide) ?_
        refine Jo_iadd dX7_as_49 ?_
        refine Jo_iaload dX7_as_50 (fun x7 => ?_)
        refine Jo_goto 56 dX7_as_51 (by decide) ?_
        exact Jo_iret rfl dX7_as_56
theorem K_X7_as (E : jE) (s : hS) (a0 : Nat) (i1 : Int32) (i2 : Int32) : jK E yX7_as M_X7_as cvI [.ref a0, .int i1, .int i2] s (f_X7_as s a0 i1 i2) := jK_of ⟨by decide, rfl, rfl⟩ (Nat.le_of_ble_eq_true rfl) (b_X7_as_in E s a0 i1 i2)
/-! HeronTalkModel.turns(II)I -/
abbrev M_X7_turns : jM := (RX7, cX7_turns, 3, (some .int), "turns", 2, 43)
theorem yF_X7_turns : yF yX7_turns M_X7_turns 2 := ⟨w_790, w_624, by decide +kernel⟩
theorem yV_X7_turns : Cond.instanceMethod yX7_turns ∈ tbG ∧ Cond.selects yX7_turns.cls yX7_turns yX7_turns ∈ tbG := ⟨w_791, w_792⟩
theorem dX7_turns_0 : dI cX7_turns 0 1 (.aload_n 0) 1 := ⟨by decide +kernel, rfl⟩
theorem dX7_turns_1 : dI cX7_turns 1 2 (.iload_n 1) 1 := ⟨by decide +kernel, rfl⟩
theorem dX7_turns_2 : decode cX7_turns 2 = .ok (.invokevirtual 164, 3) := by decide +kernel
theorem dX7_turns_5 : decode cX7_turns 5 = .ok (.ifCond .eq 26, 3) := by decide +kernel
theorem dX7_turns_8 : dI cX7_turns 8 9 (.iload_n 2) 1 := ⟨by decide +kernel, rfl⟩
theorem dX7_turns_9 : dI cX7_turns 9 10 (.iconst 0) 1 := ⟨by decide +kernel, rfl⟩
theorem dX7_turns_10 : dI cX7_turns 10 11 (.iconst 5) 1 := ⟨by decide +kernel, rfl⟩
theorem dX7_turns_11 : decode cX7_turns 11 = .ok (.invokestatic 79, 3) := by decide +kernel
theorem dX7_turns_14 : decode cX7_turns 14 = .ok (.ifCond .eq 17, 3) := by decide +kernel
theorem dX7_turns_17 : dI cX7_turns 17 18 (.aload_n 0) 1 := ⟨by decide +kernel, rfl⟩
theorem dX7_turns_18 : dI cX7_turns 18 20 (.bipush 80) 2 := ⟨by decide +kernel, rfl⟩
theorem dX7_turns_20 : dI cX7_turns 20 21 (.iconst 3) 1 := ⟨by decide +kernel, rfl⟩
theorem dX7_turns_21 : dI cX7_turns 21 22 (.iload_n 1) 1 := ⟨by decide +kernel, rfl⟩
theorem dX7_turns_22 : dI cX7_turns 22 23 (.imul) 1 := ⟨by decide +kernel, rfl⟩
theorem dX7_turns_23 : dI cX7_turns 23 24 (.iadd) 1 := ⟨by decide +kernel, rfl⟩
theorem dX7_turns_24 : dI cX7_turns 24 25 (.iload_n 2) 1 := ⟨by decide +kernel, rfl⟩
theorem dX7_turns_25 : decode cX7_turns 25 = .ok (.invokevirtual 103, 3) := by decide +kernel
theorem dX7_turns_28 : decode cX7_turns 28 = .ok (.goto 5, 3) := by decide +kernel
theorem dX7_turns_31 : dI cX7_turns 31 33 (.ldc 87) 2 := ⟨by decide +kernel, rfl⟩
theorem dX7_turns_33 : dI cX7_turns 33 34 (.ireturn) 1 := ⟨by decide +kernel, rfl⟩
def f_X7_turns (s : hS) (a0 : Nat) (i1 : Int32) (i2 : Int32) : Option (Int32 × hS) :=
  (cV s a0 7 (f_X7_isTalk s a0 i1)).bind fun p1 =>
  if p1.1 = 0 then
    some ((-1000000001 : Int32), p1.2)
  else
    (f_X7_in p1.2 i2 (0 : Int32) (5 : Int32)).bind fun p2 =>
    if p2.1 = 0 then
      some ((-1000000001 : Int32), p2.2)
    else
      (cV p2.2 a0 7 (f_X7_becomes p2.2 a0 ((80 : Int32) + ((3 : Int32) * i1)) i2)).bind fun p3 =>
      some (p3.1, p3.2)
theorem b_X7_turns_in (E : jE)  (s : hS) (a0 : Nat) (i1 : Int32) (i2 : Int32)  : Jo E M_X7_turns cvI 0 [(0, .ref a0), (1, .int i1), (2, .int i2)] [] s (f_X7_turns s a0 i1 i2) := by
  unfold f_X7_turns
  refine Jo_aloadn 0 dX7_turns_0 rfl rfl ?_
  refine Jo_iloadn 1 dX7_turns_1 rfl rfl ?_
  refine Jo_callVi (a := a0) (rest := []) [.int i1] cc_7 yF_X7_isTalk yV_X7_isTalk w_779 rfl rfl ⟨Nat.le_of_ble_eq_true rfl, Nat.le_of_ble_eq_true rfl, Nat.le_of_ble_eq_true rfl⟩ dX7_turns_2 rfl (K_X7_isTalk E s a0 i1) (fun p1 => ?_)
  refine Jo_if_eq 31 dX7_turns_5 (by decide) rfl ?_ ?_
  · refine Jo_ldc dX7_turns_31 w_673 ?_
    exact Jo_iret rfl dX7_turns_33
  · refine Jo_iloadn 2 dX7_turns_8 rfl rfl ?_
    refine Jo_iconst (v := (0 : Int32)) dX7_turns_9 (by decide) ?_
    refine Jo_iconst (v := (5 : Int32)) dX7_turns_10 (by decide) ?_
    refine Jo_callSi (rest := []) [.int i2, .int (0 : Int32), .int (5 : Int32)] yF_X7_in yS_X7_in w_635 rfl rfl ⟨Nat.le_of_ble_eq_true rfl, Nat.le_of_ble_eq_true rfl, Nat.le_of_ble_eq_true rfl⟩ dX7_turns_11 rfl (K_X7_in E p1.2 i2 (0 : Int32) (5 : Int32)) (fun p2 => ?_)
    refine Jo_if_eq 31 dX7_turns_14 (by decide) rfl ?_ ?_
    · refine Jo_ldc dX7_turns_31 w_673 ?_
      exact Jo_iret rfl dX7_turns_33
    · refine Jo_aloadn 0 dX7_turns_17 rfl rfl ?_
      refine Jo_bipush (v := (80 : Int32)) dX7_turns_18 (by decide) ?_
      refine Jo_iconst (v := (3 : Int32)) dX7_turns_20 (by decide) ?_
      refine Jo_iloadn 1 dX7_turns_21 rfl rfl ?_
      refine Jo_imul dX7_turns_22 ?_
      refine Jo_iadd dX7_turns_23 ?_
      refine Jo_iloadn 2 dX7_turns_24 rfl rfl ?_
      refine Jo_callVi (a := a0) (rest := []) [.int ((80 : Int32) + ((3 : Int32) * i1)), .int i2] cc_7 yF_X7_becomes yV_X7_becomes w_687 rfl rfl ⟨Nat.le_of_ble_eq_true rfl, Nat.le_of_ble_eq_true rfl, Nat.le_of_ble_eq_true rfl⟩ dX7_turns_25 rfl (K_X7_becomes E p2.2 a0 ((80 : Int32) + ((3 : Int32) * i1)) i2) (fun p3 => ?_)
      refine Jo_goto 33 dX7_turns_28 (by decide) ?_
      exact Jo_iret rfl dX7_turns_33
theorem K_X7_turns (E : jE) (s : hS) (a0 : Nat) (i1 : Int32) (i2 : Int32) : jK E yX7_turns M_X7_turns cvI [.ref a0, .int i1, .int i2] s (f_X7_turns s a0 i1 i2) := jK_of ⟨by decide, rfl, rfl⟩ (Nat.le_of_ble_eq_true rfl) (b_X7_turns_in E s a0 i1 i2)
/-! HeronTalkModel.asBit(I)I -/
abbrev M_X7_asBit : jM := (RX7, cX7_asBit, 1, (some .int), "asBit", 0, 0)
theorem yF_X7_asBit : yF yX7_asBit M_X7_asBit 1 := ⟨w_793, w_624, by decide +kernel⟩
theorem yS_X7_asBit : Cond.static yX7_asBit ∈ tbG := w_794
theorem dX7_asBit_0 : dI cX7_asBit 0 1 (.iload_n 0) 1 := ⟨by decide +kernel, rfl⟩
theorem dX7_asBit_1 : decode cX7_asBit 1 = .ok (.ifCond .ge 7, 3) := by decide +kernel
theorem dX7_asBit_4 : dI cX7_asBit 4 5 (.iconst 0) 1 := ⟨by decide +kernel, rfl⟩
theorem dX7_asBit_5 : decode cX7_asBit 5 = .ok (.goto 6, 3) := by decide +kernel
theorem dX7_asBit_8 : dI cX7_asBit 8 9 (.iconst 1) 1 := ⟨by decide +kernel, rfl⟩
theorem dX7_asBit_9 : dI cX7_asBit 9 10 (.iload_n 0) 1 := ⟨by decide +kernel, rfl⟩
theorem dX7_asBit_10 : dI cX7_asBit 10 11 (.ishl) 1 := ⟨by decide +kernel, rfl⟩
theorem dX7_asBit_11 : dI cX7_asBit 11 12 (.ireturn) 1 := ⟨by decide +kernel, rfl⟩
def f_X7_asBit (s : hS) (i0 : Int32) : Option (Int32 × hS) :=
  if 0 ≤ i0 then
    some (((1 : Int32) <<< (i0 &&& 31)), s)
  else
    some ((0 : Int32), s)
theorem b_X7_asBit_in (E : jE)  (s : hS) (i0 : Int32)  : Jo E M_X7_asBit cvI 0 [(0, .int i0)] [] s (f_X7_asBit s i0) := by
  unfold f_X7_asBit
  refine Jo_iloadn 0 dX7_asBit_0 rfl rfl ?_
  refine Jo_if_ge 8 dX7_asBit_1 (by decide) rfl ?_ ?_
  · refine Jo_iconst (v := (1 : Int32)) dX7_asBit_8 (by decide) ?_
    refine Jo_iloadn 0 dX7_asBit_9 rfl rfl ?_
    refine Jo_ishl dX7_asBit_10 ?_
    exact Jo_iret rfl dX7_asBit_11
  · refine Jo_iconst (v := (0 : Int32)) dX7_asBit_4 (by decide) ?_
    refine Jo_goto 11 dX7_asBit_5 (by decide) ?_
    exact Jo_iret rfl dX7_asBit_11
theorem K_X7_asBit (E : jE) (s : hS) (i0 : Int32) : jK E yX7_asBit M_X7_asBit cvI [.int i0] s (f_X7_asBit s i0) := jK_of ⟨by decide, rfl, rfl⟩ (Nat.le_of_ble_eq_true rfl) (b_X7_asBit_in E s i0)
