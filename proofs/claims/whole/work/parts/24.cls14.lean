/-! HeronTalk.lay(III)I -/
abbrev M_X6_lay : jM := (RX6, cX6_lay, 6, (some .int), "lay", 1, 23)
theorem yF_X6_lay : yF yX6_lay M_X6_lay 3 := ⟨w_567, w_278, by decide +kernel⟩
theorem yV_X6_lay : Cond.instanceMethod yX6_lay ∈ tbG ∧ Cond.selects yX6_lay.cls yX6_lay yX6_lay ∈ tbG := ⟨w_568, w_569⟩
theorem dX6_lay_0 : dI cX6_lay 0 1 (.iload_n 1) 1 := ⟨by decide +kernel, rfl⟩
theorem dX6_lay_1 : decode cX6_lay 1 = .ok (.invokestatic 299, 3) := by decide +kernel
theorem dX6_lay_4 : decode cX6_lay 4 = .ok (.ifCond .ne 12, 3) := by decide +kernel
theorem dX6_lay_7 : dI cX6_lay 7 8 (.iload_n 2) 1 := ⟨by decide +kernel, rfl⟩
theorem dX6_lay_8 : dI cX6_lay 8 9 (.iconst 0) 1 := ⟨by decide +kernel, rfl⟩
theorem dX6_lay_9 : dI cX6_lay 9 10 (.iconst 3) 1 := ⟨by decide +kernel, rfl⟩
theorem dX6_lay_10 : decode cX6_lay 10 = .ok (.invokestatic 63, 3) := by decide +kernel
theorem dX6_lay_13 : decode cX6_lay 13 = .ok (.ifCond .eq 6, 3) := by decide +kernel
theorem dX6_lay_16 : dI cX6_lay 16 18 (.ldc 67) 2 := ⟨by decide +kernel, rfl⟩
theorem dX6_lay_18 : dI cX6_lay 18 19 (.ireturn) 1 := ⟨by decide +kernel, rfl⟩
theorem dX6_lay_19 : dI cX6_lay 19 20 (.iload_n 2) 1 := ⟨by decide +kernel, rfl⟩
theorem dX6_lay_20 : dI cX6_lay 20 21 (.iconst 1) 1 := ⟨by decide +kernel, rfl⟩
theorem dX6_lay_21 : decode cX6_lay 21 = .ok (.if_icmp .ne 11, 3) := by decide +kernel
theorem dX6_lay_24 : dI cX6_lay 24 25 (.aload_n 0) 1 := ⟨by decide +kernel, rfl⟩
theorem dX6_lay_25 : dI cX6_lay 25 26 (.iload_n 3) 1 := ⟨by decide +kernel, rfl⟩
theorem dX6_lay_26 : decode cX6_lay 26 = .ok (.invokevirtual 152, 3) := by decide +kernel
theorem dX6_lay_29 : decode cX6_lay 29 = .ok (.ifCond .ne 15, 3) := by decide +kernel
theorem dX6_lay_32 : dI cX6_lay 32 33 (.iload_n 2) 1 := ⟨by decide +kernel, rfl⟩
theorem dX6_lay_33 : dI cX6_lay 33 34 (.iconst 2) 1 := ⟨by decide +kernel, rfl⟩
theorem dX6_lay_34 : decode cX6_lay 34 = .ok (.if_icmp .ne 13, 3) := by decide +kernel
theorem dX6_lay_37 : dI cX6_lay 37 38 (.iload_n 3) 1 := ⟨by decide +kernel, rfl⟩
theorem dX6_lay_38 : decode cX6_lay 38 = .ok (.invokestatic 263, 3) := by decide +kernel
theorem dX6_lay_41 : decode cX6_lay 41 = .ok (.ifCond .eq 6, 3) := by decide +kernel
theorem dX6_lay_44 : dI cX6_lay 44 46 (.ldc 67) 2 := ⟨by decide +kernel, rfl⟩
theorem dX6_lay_46 : dI cX6_lay 46 47 (.ireturn) 1 := ⟨by decide +kernel, rfl⟩
theorem dX6_lay_47 : dI cX6_lay 47 48 (.iload_n 2) 1 := ⟨by decide +kernel, rfl⟩
theorem dX6_lay_48 : dI cX6_lay 48 49 (.iconst 2) 1 := ⟨by decide +kernel, rfl⟩
theorem dX6_lay_49 : decode cX6_lay 49 = .ok (.if_icmp .ne 20, 3) := by decide +kernel
theorem dX6_lay_52 : dI cX6_lay 52 53 (.aload_n 0) 1 := ⟨by decide +kernel, rfl⟩
theorem dX6_lay_53 : dI cX6_lay 53 56 (.getfield 40) 3 := ⟨by decide +kernel, rfl⟩
theorem dX6_lay_56 : dI cX6_lay 56 57 (.iload_n 3) 1 := ⟨by decide +kernel, rfl⟩
theorem dX6_lay_57 : dI cX6_lay 57 58 (.aaload) 1 := ⟨by decide +kernel, rfl⟩
theorem dX6_lay_58 : dI cX6_lay 58 61 (.getfield 270) 3 := ⟨by decide +kernel, rfl⟩
theorem dX6_lay_61 : dI cX6_lay 61 62 (.iconst (-1)) 1 := ⟨by decide +kernel, rfl⟩
theorem dX6_lay_62 : decode cX6_lay 62 = .ok (.if_icmp .ne 7, 3) := by decide +kernel
theorem dX6_lay_65 : dI cX6_lay 65 68 (.ldc_w 273) 3 := ⟨by decide +kernel, rfl⟩
theorem dX6_lay_68 : dI cX6_lay 68 69 (.ireturn) 1 := ⟨by decide +kernel, rfl⟩
theorem dX6_lay_69 : dI cX6_lay 69 70 (.aload_n 0) 1 := ⟨by decide +kernel, rfl⟩
theorem dX6_lay_70 : dI cX6_lay 70 73 (.getfield 47) 3 := ⟨by decide +kernel, rfl⟩
theorem dX6_lay_73 : dI cX6_lay 73 74 (.iload_n 1) 1 := ⟨by decide +kernel, rfl⟩
theorem dX6_lay_74 : dI cX6_lay 74 75 (.aaload) 1 := ⟨by decide +kernel, rfl⟩
theorem dX6_lay_75 : dI cX6_lay 75 77 (.astore 4) 2 := ⟨by decide +kernel, rfl⟩
theorem dX6_lay_77 : dI cX6_lay 77 79 (.aload 4) 2 := ⟨by decide +kernel, rfl⟩
theorem dX6_lay_79 : dI cX6_lay 79 82 (.getfield 302) 3 := ⟨by decide +kernel, rfl⟩
theorem dX6_lay_82 : dI cX6_lay 82 84 (.istore 5) 2 := ⟨by decide +kernel, rfl⟩
theorem dX6_lay_84 : dI cX6_lay 84 86 (.aload 4) 2 := ⟨by decide +kernel, rfl⟩
theorem dX6_lay_86 : dI cX6_lay 86 87 (.iload_n 2) 1 := ⟨by decide +kernel, rfl⟩
theorem dX6_lay_87 : dI cX6_lay 87 90 (.putfield 302) 3 := ⟨by decide +kernel, rfl⟩
theorem dX6_lay_90 : dI cX6_lay 90 91 (.iload_n 2) 1 := ⟨by decide +kernel, rfl⟩
theorem dX6_lay_91 : dI cX6_lay 91 92 (.iconst 1) 1 := ⟨by decide +kernel, rfl⟩
theorem dX6_lay_92 : decode cX6_lay 92 = .ok (.if_icmp .ne 38, 3) := by decide +kernel
theorem dX6_lay_95 : dI cX6_lay 95 97 (.aload 4) 2 := ⟨by decide +kernel, rfl⟩
theorem dX6_lay_97 : dI cX6_lay 97 98 (.aload_n 0) 1 := ⟨by decide +kernel, rfl⟩
theorem dX6_lay_98 : dI cX6_lay 98 101 (.getfield 10) 3 := ⟨by decide +kernel, rfl⟩
theorem dX6_lay_101 : dI cX6_lay 101 104 (.getfield 155) 3 := ⟨by decide +kernel, rfl⟩
theorem dX6_lay_104 : dI cX6_lay 104 105 (.iload_n 3) 1 := ⟨by decide +kernel, rfl⟩
theorem dX6_lay_105 : dI cX6_lay 105 106 (.iaload) 1 := ⟨by decide +kernel, rfl⟩
theorem dX6_lay_106 : dI cX6_lay 106 107 (.aload_n 0) 1 := ⟨by decide +kernel, rfl⟩
theorem dX6_lay_107 : dI cX6_lay 107 110 (.getfield 10) 3 := ⟨by decide +kernel, rfl⟩
theorem dX6_lay_110 : dI cX6_lay 110 113 (.getfield 158) 3 := ⟨by decide +kernel, rfl⟩
theorem dX6_lay_113 : dI cX6_lay 113 114 (.iload_n 3) 1 := ⟨by decide +kernel, rfl⟩
theorem dX6_lay_114 : dI cX6_lay 114 115 (.iaload) 1 := ⟨by decide +kernel, rfl⟩
theorem dX6_lay_115 : dI cX6_lay 115 116 (.aload_n 0) 1 := ⟨by decide +kernel, rfl⟩
theorem dX6_lay_116 : dI cX6_lay 116 119 (.getfield 10) 3 := ⟨by decide +kernel, rfl⟩
theorem dX6_lay_119 : dI cX6_lay 119 122 (.getfield 161) 3 := ⟨by decide +kernel, rfl⟩
theorem dX6_lay_122 : dI cX6_lay 122 123 (.iload_n 3) 1 := ⟨by decide +kernel, rfl⟩
theorem dX6_lay_123 : dI cX6_lay 123 124 (.iaload) 1 := ⟨by decide +kernel, rfl⟩
theorem dX6_lay_124 : decode cX6_lay 124 = .ok (.invokevirtual 305, 3) := by decide +kernel
theorem dX6_lay_127 : decode cX6_lay 127 = .ok (.goto 31, 3) := by decide +kernel
theorem dX6_lay_130 : dI cX6_lay 130 131 (.iload_n 2) 1 := ⟨by decide +kernel, rfl⟩
theorem dX6_lay_131 : dI cX6_lay 131 132 (.iconst 2) 1 := ⟨by decide +kernel, rfl⟩
theorem dX6_lay_132 : decode cX6_lay 132 = .ok (.if_icmp .ne 20, 3) := by decide +kernel
theorem dX6_lay_135 : dI cX6_lay 135 137 (.aload 4) 2 := ⟨by decide +kernel, rfl⟩
theorem dX6_lay_137 : dI cX6_lay 137 140 (.getfield 309) 3 := ⟨by decide +kernel, rfl⟩
theorem dX6_lay_140 : dI cX6_lay 140 141 (.aload_n 0) 1 := ⟨by decide +kernel, rfl⟩
theorem dX6_lay_141 : dI cX6_lay 141 144 (.getfield 40) 3 := ⟨by decide +kernel, rfl⟩
theorem dX6_lay_144 : dI cX6_lay 144 145 (.iload_n 3) 1 := ⟨by decide +kernel, rfl⟩
theorem dX6_lay_145 : dI cX6_lay 145 146 (.aaload) 1 := ⟨by decide +kernel, rfl⟩
theorem dX6_lay_146 : decode cX6_lay 146 = .ok (.invokevirtual 313, 3) := by decide +kernel
theorem dX6_lay_149 : decode cX6_lay 149 = .ok (.goto 9, 3) := by decide +kernel
theorem dX6_lay_152 : dI cX6_lay 152 154 (.aload 4) 2 := ⟨by decide +kernel, rfl⟩
theorem dX6_lay_154 : dI cX6_lay 154 155 (.iload_n 3) 1 := ⟨by decide +kernel, rfl⟩
theorem dX6_lay_155 : dI cX6_lay 155 158 (.putfield 316) 3 := ⟨by decide +kernel, rfl⟩
theorem dX6_lay_158 : dI cX6_lay 158 160 (.iload 5) 2 := ⟨by decide +kernel, rfl⟩
theorem dX6_lay_160 : dI cX6_lay 160 161 (.ireturn) 1 := ⟨by decide +kernel, rfl⟩
def f_X6_lay_b69 (l0 : Nat) (l1 : Int32) (l2 : Int32) (l3 : Int32) (s : hS) : Option (Int32 × hS) :=
  (gR s l0 6 7).bind fun a1 =>
  (aR s a1 13 l1).bind fun a2 =>
  (gI s a2 2 0).bind fun x3 =>
  (pI s a2 2 0 l2).bind fun s4 =>
  if l2 = (1 : Int32) then
    (gR s4 l0 6 0).bind fun a10 =>
    (gR s4 a10 5 14).bind fun a11 =>
    (aI s4 a11 10 l3).bind fun x12 =>
    (gR s4 l0 6 0).bind fun a13 =>
    (gR s4 a13 5 15).bind fun a14 =>
    (aI s4 a14 10 l3).bind fun x15 =>
    (gR s4 l0 6 0).bind fun a16 =>
    (gR s4 a16 5 16).bind fun a17 =>
    (aI s4 a17 10 l3).bind fun x18 =>
    (cV s4 a2 2 (f_X2_holdTalk s4 a2 x12 x15 x18)).bind fun p19 =>
    some (x3, p19.2)
  else
    if l2 = (2 : Int32) then
      (gR s4 a2 2 5).bind fun a6 =>
      (gR s4 l0 6 6).bind fun a7 =>
      (aR s4 a7 12 l3).bind fun a8 =>
      (cV s4 a6 1 (f_X1_becomes s4 a6 a8)).bind fun p9 =>
      some (x3, p9.2)
    else
      (pI s4 a2 2 4 l3).bind fun s5 =>
      some (x3, s5)
theorem b_X6_lay_69 (E : jE)  (s : hS) (l0 : Nat) (l1 : Int32) (l2 : Int32) (l3 : Int32)  : Jo E M_X6_lay cvI 69 [(0, .ref l0), (1, .int l1), (2, .int l2), (3, .int l3)] [] s (f_X6_lay_b69  l0 l1 l2 l3 s) := by
  unfold f_X6_lay_b69
  refine Jo_aloadn 0 dX6_lay_69 rfl rfl ?_
  refine Jo_getR fF_6_7 fR_6_7 dX6_lay_70 w_343 (fun a1 => ?_)
  refine Jo_iloadn 1 dX6_lay_73 rfl rfl ?_
  refine Jo_aaload hta_13 dX6_lay_74 (fun a2 => ?_)
  refine Jo_astore (ls' := [(4, .ref a2), (0, .ref l0), (1, .int l1), (2, .int l2), (3, .int l3)]) dX6_lay_75 (by decide) rfl ?_
  refine Jo_aload 0 dX6_lay_77 rfl ?_
  refine Jo_getI fF_2_0 fI_2_0 dX6_lay_79 w_565 (fun x3 => ?_)
  refine Jo_istore (ls' := [(5, .int x3), (4, .ref a2), (0, .ref l0), (1, .int l1), (2, .int l2), (3, .int l3)]) dX6_lay_82 (by decide) rfl ?_
  refine Jo_aload 1 dX6_lay_84 rfl ?_
  refine Jo_iloadn 4 dX6_lay_86 rfl rfl ?_
  refine Jo_putI fF_2_0 fI_2_0 (Or.inl rfl) rfl dX6_lay_87 w_565 (fun s4 => ?_)
  refine Jo_iloadn 4 dX6_lay_90 rfl rfl ?_
  refine Jo_iconst (v := (1 : Int32)) dX6_lay_91 (by decide) ?_
  refine Jo_icmp_ne 130 dX6_lay_92 (by decide) rfl ?_ ?_
  · refine Jo_aload 1 dX6_lay_95 rfl ?_
    refine Jo_aloadn 2 dX6_lay_97 rfl rfl ?_
    refine Jo_getR fF_6_0 fR_6_0 dX6_lay_98 w_359 (fun a10 => ?_)
    refine Jo_getR fF_5_14 fR_5_14 dX6_lay_101 w_451 (fun a11 => ?_)
    refine Jo_iloadn 5 dX6_lay_104 rfl rfl ?_
    refine Jo_iaload dX6_lay_105 (fun x12 => ?_)
    refine Jo_aloadn 2 dX6_lay_106 rfl rfl ?_
    refine Jo_getR fF_6_0 fR_6_0 dX6_lay_107 w_359 (fun a13 => ?_)
    refine Jo_getR fF_5_15 fR_5_15 dX6_lay_110 w_450 (fun a14 => ?_)
    refine Jo_iloadn 5 dX6_lay_113 rfl rfl ?_
    refine Jo_iaload dX6_lay_114 (fun x15 => ?_)
    refine Jo_aloadn 2 dX6_lay_115 rfl rfl ?_
    refine Jo_getR fF_6_0 fR_6_0 dX6_lay_116 w_359 (fun a16 => ?_)
    refine Jo_getR fF_5_16 fR_5_16 dX6_lay_119 w_449 (fun a17 => ?_)
    refine Jo_iloadn 5 dX6_lay_122 rfl rfl ?_
    refine Jo_iaload dX6_lay_123 (fun x18 => ?_)
    refine Jo_callVv (a := a2) (rest := []) [.int x12, .int x15, .int x18] cc_2 yF_X2_holdTalk yV_X2_holdTalk w_564 rfl rfl ⟨Nat.le_of_ble_eq_true rfl, Nat.le_of_ble_eq_true rfl, Nat.le_of_ble_eq_true rfl⟩ dX6_lay_124 rfl (K_X2_holdTalk E s4 a2 x12 x15 x18) (fun p19 => ?_)
    refine Jo_goto 158 dX6_lay_127 (by decide) ?_
    refine Jo_iload 0 dX6_lay_158 rfl ?_
    exact Jo_iret rfl dX6_lay_160
  · refine Jo_iloadn 4 dX6_lay_130 rfl rfl ?_
    refine Jo_iconst (v := (2 : Int32)) dX6_lay_131 (by decide) ?_
    refine Jo_icmp_ne 152 dX6_lay_132 (by decide) rfl ?_ ?_
    · refine Jo_aload 1 dX6_lay_135 rfl ?_
      refine Jo_getR fF_2_5 fR_2_5 dX6_lay_137 w_563 (fun a6 => ?_)
      refine Jo_aloadn 2 dX6_lay_140 rfl rfl ?_
      refine Jo_getR fF_6_6 fR_6_6 dX6_lay_141 w_346 (fun a7 => ?_)
      refine Jo_iloadn 5 dX6_lay_144 rfl rfl ?_
      refine Jo_aaload hta_12 dX6_lay_145 (fun a8 => ?_)
      refine Jo_callVv (a := a6) (rest := []) [.ref a8] cc_1 yF_X1_becomes yV_X1_becomes w_562 rfl rfl ⟨Nat.le_of_ble_eq_true rfl, Nat.le_of_ble_eq_true rfl, Nat.le_of_ble_eq_true rfl⟩ dX6_lay_146 rfl (K_X1_becomes E s4 a6 a8) (fun p9 => ?_)
      refine Jo_goto 158 dX6_lay_149 (by decide) ?_
      refine Jo_iload 0 dX6_lay_158 rfl ?_
      exact Jo_iret rfl dX6_lay_160
    · refine Jo_aload 1 dX6_lay_152 rfl ?_
      refine Jo_iloadn 5 dX6_lay_154 rfl rfl ?_
      refine Jo_putI fF_2_4 fI_2_4 (Or.inl rfl) rfl dX6_lay_155 w_561 (fun s5 => ?_)
      refine Jo_iload 0 dX6_lay_158 rfl ?_
      exact Jo_iret rfl dX6_lay_160
def f_X6_lay_b47 (l0 : Nat) (l1 : Int32) (l2 : Int32) (l3 : Int32) (s : hS) : Option (Int32 × hS) :=
  if l2 = (2 : Int32) then
    (gR s l0 6 6).bind fun a1 =>
    (aR s a1 12 l3).bind fun a2 =>
    (gI s a2 1 0).bind fun x3 =>
    if x3 = (-1 : Int32) then
      some ((-1000000011 : Int32), s)
    else
      f_X6_lay_b69 l0 l1 l2 l3 s
  else
    f_X6_lay_b69 l0 l1 l2 l3 s
theorem b_X6_lay_47 (E : jE)  (s : hS) (l0 : Nat) (l1 : Int32) (l2 : Int32) (l3 : Int32)  : Jo E M_X6_lay cvI 47 [(0, .ref l0), (1, .int l1), (2, .int l2), (3, .int l3)] [] s (f_X6_lay_b47  l0 l1 l2 l3 s) := by
  unfold f_X6_lay_b47
  refine Jo_iloadn 2 dX6_lay_47 rfl rfl ?_
  refine Jo_iconst (v := (2 : Int32)) dX6_lay_48 (by decide) ?_
  refine Jo_icmp_ne 69 dX6_lay_49 (by decide) rfl ?_ ?_
  · refine Jo_aloadn 0 dX6_lay_52 rfl rfl ?_
    refine Jo_getR fF_6_6 fR_6_6 dX6_lay_53 w_346 (fun a1 => ?_)
    refine Jo_iloadn 3 dX6_lay_56 rfl rfl ?_
    refine Jo_aaload hta_12 dX6_lay_57 (fun a2 => ?_)
    refine Jo_getI fF_1_0 fI_1_0 dX6_lay_58 w_539 (fun x3 => ?_)
    refine Jo_iconst (v := (-1 : Int32)) dX6_lay_61 (by decide) ?_
    refine Jo_icmp_ne 69 dX6_lay_62 (by decide) rfl ?_ ?_
    · refine Jo_ldcw dX6_lay_65 w_542 ?_
      exact Jo_iret rfl dX6_lay_68
    · exact b_X6_lay_69 E s l0 l1 l2 l3
  · exact b_X6_lay_69 E s l0 l1 l2 l3
def f_X6_lay_b32 (l0 : Nat) (l1 : Int32) (l2 : Int32) (l3 : Int32) (s : hS) : Option (Int32 × hS) :=
  if l2 = (2 : Int32) then
    (f_X6_isNoSheet s l3).bind fun p1 =>
    if p1.1 = 0 then
      f_X6_lay_b47 l0 l1 l2 l3 p1.2
    else
      some ((-1000000001 : Int32), p1.2)
  else
    f_X6_lay_b47 l0 l1 l2 l3 s
theorem b_X6_lay_32 (E : jE)  (s : hS) (l0 : Nat) (l1 : Int32) (l2 : Int32) (l3 : Int32)  : Jo E M_X6_lay cvI 32 [(0, .ref l0), (1, .int l1), (2, .int l2), (3, .int l3)] [] s (f_X6_lay_b32  l0 l1 l2 l3 s) := by
  unfold f_X6_lay_b32
  refine Jo_iloadn 2 dX6_lay_32 rfl rfl ?_
  refine Jo_iconst (v := (2 : Int32)) dX6_lay_33 (by decide) ?_
  refine Jo_icmp_ne 47 dX6_lay_34 (by decide) rfl ?_ ?_
  · refine Jo_iloadn 3 dX6_lay_37 rfl rfl ?_
    refine Jo_callSi (rest := []) [.int l3] yF_X6_isNoSheet yS_X6_isNoSheet w_532 rfl rfl ⟨Nat.le_of_ble_eq_true rfl, Nat.le_of_ble_eq_true rfl, Nat.le_of_ble_eq_true rfl⟩ dX6_lay_38 rfl (K_X6_isNoSheet E s l3) (fun p1 => ?_)
    refine Jo_if_eq 47 dX6_lay_41 (by decide) rfl ?_ ?_
    · exact b_X6_lay_47 E p1.2 l0 l1 l2 l3
    · refine Jo_ldc dX6_lay_44 w_368 ?_
      exact Jo_iret rfl dX6_lay_46
  · exact b_X6_lay_47 E s l0 l1 l2 l3
def f_X6_lay (s : hS) (a0 : Nat) (i1 : Int32) (i2 : Int32) (i3 : Int32) : Option (Int32 × hS) :=
  (f_X6_isNoSlot s i1).bind fun p1 =>
  if p1.1 = 0 then
    (f_X6_isOutside p1.2 i2 (0 : Int32) (3 : Int32)).bind fun p2 =>
    if p2.1 = 0 then
      if i2 = (1 : Int32) then
        (cV p2.2 a0 6 (f_X6_isNoTalk p2.2 a0 i3)).bind fun p3 =>
        if p3.1 = 0 then
          f_X6_lay_b32 a0 i1 i2 i3 p3.2
        else
          some ((-1000000001 : Int32), p3.2)
      else
        f_X6_lay_b32 a0 i1 i2 i3 p2.2
    else
      some ((-1000000001 : Int32), p2.2)
  else
    some ((-1000000001 : Int32), p1.2)
theorem b_X6_lay_in (E : jE)  (s : hS) (a0 : Nat) (i1 : Int32) (i2 : Int32) (i3 : Int32)  : Jo E M_X6_lay cvI 0 [(0, .ref a0), (1, .int i1), (2, .int i2), (3, .int i3)] [] s (f_X6_lay s a0 i1 i2 i3) := by
  unfold f_X6_lay
  refine Jo_iloadn 1 dX6_lay_0 rfl rfl ?_
  refine Jo_callSi (rest := []) [.int i1] yF_X6_isNoSlot yS_X6_isNoSlot w_566 rfl rfl ⟨Nat.le_of_ble_eq_true rfl, Nat.le_of_ble_eq_true rfl, Nat.le_of_ble_eq_true rfl⟩ dX6_lay_1 rfl (K_X6_isNoSlot E s i1) (fun p1 => ?_)
  refine Jo_if_ne 16 dX6_lay_4 (by decide) rfl ?_ ?_
  · refine Jo_iloadn 2 dX6_lay_7 rfl rfl ?_
    refine Jo_iconst (v := (0 : Int32)) dX6_lay_8 (by decide) ?_
    refine Jo_iconst (v := (3 : Int32)) dX6_lay_9 (by decide) ?_
    refine Jo_callSi (rest := []) [.int i2, .int (0 : Int32), .int (3 : Int32)] yF_X6_isOutside yS_X6_isOutside w_369 rfl rfl ⟨Nat.le_of_ble_eq_true rfl, Nat.le_of_ble_eq_true rfl, Nat.le_of_ble_eq_true rfl⟩ dX6_lay_10 rfl (K_X6_isOutside E p1.2 i2 (0 : Int32) (3 : Int32)) (fun p2 => ?_)
    refine Jo_if_eq 19 dX6_lay_13 (by decide) rfl ?_ ?_
    · refine Jo_iloadn 2 dX6_lay_19 rfl rfl ?_
      refine Jo_iconst (v := (1 : Int32)) dX6_lay_20 (by decide) ?_
      refine Jo_icmp_ne 32 dX6_lay_21 (by decide) rfl ?_ ?_
      · refine Jo_aloadn 0 dX6_lay_24 rfl rfl ?_
        refine Jo_iloadn 3 dX6_lay_25 rfl rfl ?_
        refine Jo_callVi (a := a0) (rest := []) [.int i3] cc_6 yF_X6_isNoTalk yV_X6_isNoTalk w_452 rfl rfl ⟨Nat.le_of_ble_eq_true rfl, Nat.le_of_ble_eq_true rfl, Nat.le_of_ble_eq_true rfl⟩ dX6_lay_26 rfl (K_X6_isNoTalk E p2.2 a0 i3) (fun p3 => ?_)
        refine Jo_if_ne 44 dX6_lay_29 (by decide) rfl ?_ ?_
        · exact b_X6_lay_32 E p3.2 a0 i1 i2 i3
        · refine Jo_ldc dX6_lay_44 w_368 ?_
          exact Jo_iret rfl dX6_lay_46
      · exact b_X6_lay_32 E p2.2 a0 i1 i2 i3
    · refine Jo_ldc dX6_lay_16 w_368 ?_
      exact Jo_iret rfl dX6_lay_18
  · refine Jo_ldc dX6_lay_16 w_368 ?_
    exact Jo_iret rfl dX6_lay_18
theorem K_X6_lay (E : jE) (s : hS) (a0 : Nat) (i1 : Int32) (i2 : Int32) (i3 : Int32) : jK E yX6_lay M_X6_lay cvI [.ref a0, .int i1, .int i2, .int i3] s (f_X6_lay s a0 i1 i2 i3) := jK_of ⟨by decide, rfl, rfl⟩ (Nat.le_of_ble_eq_true rfl) (b_X6_lay_in E s a0 i1 i2 i3)
/-! HeronTalk.ask(II)I -/
abbrev M_X6_ask : jM := (RX6, cX6_ask, 4, (some .int), "ask", 6, 150)
theorem yF_X6_ask : yF yX6_ask M_X6_ask 2 := ⟨w_573, w_278, by decide +kernel⟩
theorem yV_X6_ask : Cond.instanceMethod yX6_ask ∈ tbG ∧ Cond.selects yX6_ask.cls yX6_ask yX6_ask ∈ tbG := ⟨w_574, w_575⟩
theorem dX6_ask_0 : dI cX6_ask 0 1 (.iload_n 1) 1 := ⟨by decide +kernel, rfl⟩
theorem dX6_ask_1 : decode cX6_ask 1 = .ok (.invokestatic 299, 3) := by decide +kernel
theorem dX6_ask_4 : decode cX6_ask 4 = .ok (.ifCond .ne 10, 3) := by decide +kernel
theorem dX6_ask_7 : dI cX6_ask 7 8 (.iload_n 2) 1 := ⟨by decide +kernel, rfl⟩
theorem dX6_ask_8 : decode cX6_ask 8 = .ok (.invokestatic 143, 3) := by decide +kernel
theorem dX6_ask_11 : decode cX6_ask 11 = .ok (.ifCond .eq 6, 3) := by decide +kernel
theorem dX6_ask_14 : dI cX6_ask 14 16 (.ldc 67) 2 := ⟨by decide +kernel, rfl⟩
theorem dX6_ask_16 : dI cX6_ask 16 17 (.ireturn) 1 := ⟨by decide +kernel, rfl⟩
theorem dX6_ask_17 : dI cX6_ask 17 18 (.aload_n 0) 1 := ⟨by decide +kernel, rfl⟩
theorem dX6_ask_18 : dI cX6_ask 18 21 (.getfield 47) 3 := ⟨by decide +kernel, rfl⟩
theorem dX6_ask_21 : dI cX6_ask 21 22 (.iload_n 1) 1 := ⟨by decide +kernel, rfl⟩
theorem dX6_ask_22 : dI cX6_ask 22 23 (.aaload) 1 := ⟨by decide +kernel, rfl⟩
theorem dX6_ask_23 : dI cX6_ask 23 24 (.astore_n 3) 1 := ⟨by decide +kernel, rfl⟩
theorem dX6_ask_24 : dI cX6_ask 24 25 (.aload_n 3) 1 := ⟨by decide +kernel, rfl⟩
theorem dX6_ask_25 : dI cX6_ask 25 28 (.getfield 302) 3 := ⟨by decide +kernel, rfl⟩
theorem dX6_ask_28 : decode cX6_ask 28 = .ok (.ifCond .ne 7, 3) := by decide +kernel
theorem dX6_ask_31 : dI cX6_ask 31 34 (.ldc_w 273) 3 := ⟨by decide +kernel, rfl⟩
theorem dX6_ask_34 : dI cX6_ask 34 35 (.ireturn) 1 := ⟨by decide +kernel, rfl⟩
theorem dX6_ask_35 : dI cX6_ask 35 36 (.aload_n 3) 1 := ⟨by decide +kernel, rfl⟩
theorem dX6_ask_36 : dI cX6_ask 36 39 (.getfield 302) 3 := ⟨by decide +kernel, rfl⟩
theorem dX6_ask_39 : dI cX6_ask 39 40 (.iconst 1) 1 := ⟨by decide +kernel, rfl⟩
theorem dX6_ask_40 : decode cX6_ask 40 = .ok (.if_icmp .ne 14, 3) := by decide +kernel
theorem dX6_ask_43 : dI cX6_ask 43 44 (.aload_n 3) 1 := ⟨by decide +kernel, rfl⟩
theorem dX6_ask_44 : dI cX6_ask 44 47 (.getfield 319) 3 := ⟨by decide +kernel, rfl⟩
theorem dX6_ask_47 : dI cX6_ask 47 48 (.iload_n 2) 1 := ⟨by decide +kernel, rfl⟩
theorem dX6_ask_48 : decode cX6_ask 48 = .ok (.invokestatic 180, 3) := by decide +kernel
theorem dX6_ask_51 : decode cX6_ask 51 = .ok (.ifCond .ne 6, 3) := by decide +kernel
theorem dX6_ask_54 : dI cX6_ask 54 56 (.ldc 184) 2 := ⟨by decide +kernel, rfl⟩
theorem dX6_ask_56 : dI cX6_ask 56 57 (.ireturn) 1 := ⟨by decide +kernel, rfl⟩
theorem dX6_ask_57 : dI cX6_ask 57 58 (.aload_n 0) 1 := ⟨by decide +kernel, rfl⟩
theorem dX6_ask_58 : dI cX6_ask 58 59 (.aload_n 3) 1 := ⟨by decide +kernel, rfl⟩
theorem dX6_ask_59 : dI cX6_ask 59 62 (.getfield 322) 3 := ⟨by decide +kernel, rfl⟩
theorem dX6_ask_62 : decode cX6_ask 62 = .ok (.invokevirtual 99, 3) := by decide +kernel
theorem dX6_ask_65 : decode cX6_ask 65 = .ok (.ifCond .ne 14, 3) := by decide +kernel
theorem dX6_ask_68 : dI cX6_ask 68 69 (.aload_n 0) 1 := ⟨by decide +kernel, rfl⟩
theorem dX6_ask_69 : dI cX6_ask 69 70 (.aload_n 3) 1 := ⟨by decide +kernel, rfl⟩
theorem dX6_ask_70 : dI cX6_ask 70 73 (.getfield 325) 3 := ⟨by decide +kernel, rfl⟩
theorem dX6_ask_73 : decode cX6_ask 73 = .ok (.invokevirtual 99, 3) := by decide +kernel
theorem dX6_ask_76 : decode cX6_ask 76 = .ok (.ifCond .eq 6, 3) := by decide +kernel
theorem dX6_ask_79 : dI cX6_ask 79 81 (.ldc 188) 2 := ⟨by decide +kernel, rfl⟩
theorem dX6_ask_81 : dI cX6_ask 81 82 (.ireturn) 1 := ⟨by decide +kernel, rfl⟩
theorem dX6_ask_82 : dI cX6_ask 82 83 (.aload_n 0) 1 := ⟨by decide +kernel, rfl⟩
theorem dX6_ask_83 : dI cX6_ask 83 86 (.getfield 10) 3 := ⟨by decide +kernel, rfl⟩
theorem dX6_ask_86 : dI cX6_ask 86 87 (.aload_n 3) 1 := ⟨by decide +kernel, rfl⟩
theorem dX6_ask_87 : dI cX6_ask 87 90 (.getfield 319) 3 := ⟨by decide +kernel, rfl⟩
theorem dX6_ask_90 : dI cX6_ask 90 91 (.aload_n 3) 1 := ⟨by decide +kernel, rfl⟩
theorem dX6_ask_91 : dI cX6_ask 91 94 (.getfield 322) 3 := ⟨by decide +kernel, rfl⟩
theorem dX6_ask_94 : dI cX6_ask 94 95 (.aload_n 3) 1 := ⟨by decide +kernel, rfl⟩
theorem dX6_ask_95 : dI cX6_ask 95 98 (.getfield 325) 3 := ⟨by decide +kernel, rfl⟩
theorem dX6_ask_98 : decode cX6_ask 98 = .ok (.invokevirtual 177, 3) := by decide +kernel
theorem dX6_ask_101 : dI cX6_ask 101 102 (.ireturn) 1 := ⟨by decide +kernel, rfl⟩
def f_X6_ask (s : hS) (a0 : Nat) (i1 : Int32) (i2 : Int32) : Option (Int32 × hS) :=
  (f_X6_isNoSlot s i1).bind fun p1 =>
  if p1.1 = 0 then
    (f_X6_isNoKind p1.2 i2).bind fun p2 =>
    if p2.1 = 0 then
      (gR p2.2 a0 6 7).bind fun a3 =>
      (aR p2.2 a3 13 i1).bind fun a4 =>
      (gI p2.2 a4 2 0).bind fun x5 =>
      if x5 = 0 then
        some ((-1000000011 : Int32), p2.2)
      else
        (gI p2.2 a4 2 0).bind fun x6 =>
        if x6 = (1 : Int32) then
          (gI p2.2 a4 2 1).bind fun x7 =>
          (f_X6_isOfKind p2.2 x7 i2).bind fun p8 =>
          if p8.1 = 0 then
            some ((-1000000012 : Int32), p8.2)
          else
            (gI p8.2 a4 2 2).bind fun x9 =>
            (cV p8.2 a0 6 (f_X6_isNobody p8.2 a0 x9)).bind fun p10 =>
            if p10.1 = 0 then
              (gI p10.2 a4 2 3).bind fun x11 =>
              (cV p10.2 a0 6 (f_X6_isNobody p10.2 a0 x11)).bind fun p12 =>
              if p12.1 = 0 then
                (gR p12.2 a0 6 0).bind fun a13 =>
                (gI p12.2 a4 2 1).bind fun x14 =>
                (gI p12.2 a4 2 2).bind fun x15 =>
                (gI p12.2 a4 2 3).bind fun x16 =>
                (cV p12.2 a13 5 (f_X5_worthOf p12.2 a13 x14 x15 x16)).bind fun p17 =>
                some (p17.1, p17.2)
              else
                some ((-1000000002 : Int32), p12.2)
            else
              some ((-1000000002 : Int32), p10.2)
        else
          some ((-1000000012 : Int32), p2.2)
    else
      some ((-1000000001 : Int32), p2.2)
  else
    some ((-1000000001 : Int32), p1.2)
theorem b_X6_ask_in (E : jE)  (s : hS) (a0 : Nat) (i1 : Int32) (i2 : Int32)  : Jo E M_X6_ask cvI 0 [(0, .ref a0), (1, .int i1), (2, .int i2)] [] s (f_X6_ask s a0 i1 i2) := by
  unfold f_X6_ask
  refine Jo_iloadn 1 dX6_ask_0 rfl rfl ?_
  refine Jo_callSi (rest := []) [.int i1] yF_X6_isNoSlot yS_X6_isNoSlot w_566 rfl rfl ⟨Nat.le_of_ble_eq_true rfl, Nat.le_of_ble_eq_true rfl, Nat.le_of_ble_eq_true rfl⟩ dX6_ask_1 rfl (K_X6_isNoSlot E s i1) (fun p1 => ?_)
  refine Jo_if_ne 14 dX6_ask_4 (by decide) rfl ?_ ?_
  · refine Jo_iloadn 2 dX6_ask_7 rfl rfl ?_
    refine Jo_callSi (rest := []) [.int i2] yF_X6_isNoKind yS_X6_isNoKind w_434 rfl rfl ⟨Nat.le_of_ble_eq_true rfl, Nat.le_of_ble_eq_true rfl, Nat.le_of_ble_eq_true rfl⟩ dX6_ask_8 rfl (K_X6_isNoKind E p1.2 i2) (fun p2 => ?_)
    refine Jo_if_eq 17 dX6_ask_11 (by decide) rfl ?_ ?_
    · refine Jo_aloadn 0 dX6_ask_17 rfl rfl ?_
      refine Jo_getR fF_6_7 fR_6_7 dX6_ask_18 w_343 (fun a3 => ?_)
      refine Jo_iloadn 1 dX6_ask_21 rfl rfl ?_
      refine Jo_aaload hta_13 dX6_ask_22 (fun a4 => ?_)
      refine Jo_astoren (ls' := [(3, .ref a4), (0, .ref a0), (1, .int i1), (2, .int i2)]) dX6_ask_23 rfl (by decide) rfl ?_
      refine Jo_aloadn 0 dX6_ask_24 rfl rfl ?_
      refine Jo_getI fF_2_0 fI_2_0 dX6_ask_25 w_565 (fun x5 => ?_)
      refine Jo_if_ne 35 dX6_ask_28 (by decide) rfl ?_ ?_
      · refine Jo_ldcw dX6_ask_31 w_542 ?_
        exact Jo_iret rfl dX6_ask_34
      · refine Jo_aloadn 0 dX6_ask_35 rfl rfl ?_
        refine Jo_getI fF_2_0 fI_2_0 dX6_ask_36 w_565 (fun x6 => ?_)
        refine Jo_iconst (v := (1 : Int32)) dX6_ask_39 (by decide) ?_
        refine Jo_icmp_ne 54 dX6_ask_40 (by decide) rfl ?_ ?_
        · refine Jo_aloadn 0 dX6_ask_43 rfl rfl ?_
          refine Jo_getI fF_2_1 fI_2_1 dX6_ask_44 w_572 (fun x7 => ?_)
          refine Jo_iloadn 3 dX6_ask_47 rfl rfl ?_
          refine Jo_callSi (rest := []) [.int x7, .int i2] yF_X6_isOfKind yS_X6_isOfKind w_311 rfl rfl ⟨Nat.le_of_ble_eq_true rfl, Nat.le_of_ble_eq_true rfl, Nat.le_of_ble_eq_true rfl⟩ dX6_ask_48 rfl (K_X6_isOfKind E p2.2 x7 i2) (fun p8 => ?_)
          refine Jo_if_ne 57 dX6_ask_51 (by decide) rfl ?_ ?_
          · refine Jo_ldc dX6_ask_54 w_456 ?_
            exact Jo_iret rfl dX6_ask_56
          · refine Jo_aloadn 1 dX6_ask_57 rfl rfl ?_
            refine Jo_aloadn 0 dX6_ask_58 rfl rfl ?_
            refine Jo_getI fF_2_2 fI_2_2 dX6_ask_59 w_571 (fun x9 => ?_)
            refine Jo_callVi (a := a0) (rest := []) [.int x9] cc_6 yF_X6_isNobody yV_X6_isNobody w_399 rfl rfl ⟨Nat.le_of_ble_eq_true rfl, Nat.le_of_ble_eq_true rfl, Nat.le_of_ble_eq_true rfl⟩ dX6_ask_62 rfl (K_X6_isNobody E p8.2 a0 x9) (fun p10 => ?_)
            refine Jo_if_ne 79 dX6_ask_65 (by decide) rfl ?_ ?_
            · refine Jo_aloadn 1 dX6_ask_68 rfl rfl ?_
              refine Jo_aloadn 0 dX6_ask_69 rfl rfl ?_
              refine Jo_getI fF_2_3 fI_2_3 dX6_ask_70 w_570 (fun x11 => ?_)
              refine Jo_callVi (a := a0) (rest := []) [.int x11] cc_6 yF_X6_isNobody yV_X6_isNobody w_399 rfl rfl ⟨Nat.le_of_ble_eq_true rfl, Nat.le_of_ble_eq_true rfl, Nat.le_of_ble_eq_true rfl⟩ dX6_ask_73 rfl (K_X6_isNobody E p10.2 a0 x11) (fun p12 => ?_)
              refine Jo_if_eq 82 dX6_ask_76 (by decide) rfl ?_ ?_
              · refine Jo_aloadn 1 dX6_ask_82 rfl rfl ?_
                refine Jo_getR fF_6_0 fR_6_0 dX6_ask_83 w_359 (fun a13 => ?_)
                refine Jo_aloadn 0 dX6_ask_86 rfl rfl ?_
                refine Jo_getI fF_2_1 fI_2_1 dX6_ask_87 w_572 (fun x14 => ?_)
                refine Jo_aloadn 0 dX6_ask_90 rfl rfl ?_
                refine Jo_getI fF_2_2 fI_2_2 dX6_ask_91 w_571 (fun x15 => ?_)
                refine Jo_aloadn 0 dX6_ask_94 rfl rfl ?_
                refine Jo_getI fF_2_3 fI_2_3 dX6_ask_95 w_570 (fun x16 => ?_)
                refine Jo_callVi (a := a13) (rest := []) [.int x14, .int x15, .int x16] cc_5 yF_X5_worthOf yV_X5_worthOf w_446 rfl rfl ⟨Nat.le_of_ble_eq_true rfl, Nat.le_of_ble_eq_true rfl, Nat.le_of_ble_eq_true rfl⟩ dX6_ask_98 rfl (K_X5_worthOf E p12.2 a13 x14 x15 x16) (fun p17 => ?_)
                exact Jo_iret rfl dX6_ask_101
              · refine Jo_ldc dX6_ask_79 w_468 ?_
                exact Jo_iret rfl dX6_ask_81
            · refine Jo_ldc dX6_ask_79 w_468 ?_
              exact Jo_iret rfl dX6_ask_81
        · refine Jo_ldc dX6_ask_54 w_456 ?_
          exact Jo_iret rfl dX6_ask_56
    · refine Jo_ldc dX6_ask_14 w_368 ?_
      exact Jo_iret rfl dX6_ask_16
  · refine Jo_ldc dX6_ask_14 w_368 ?_
    exact Jo_iret rfl dX6_ask_16
theorem K_X6_ask (E : jE) (s : hS) (a0 : Nat) (i1 : Int32) (i2 : Int32) : jK E yX6_ask M_X6_ask cvI [.ref a0, .int i1, .int i2] s (f_X6_ask s a0 i1 i2) := jK_of ⟨by decide, rfl, rfl⟩ (Nat.le_of_ble_eq_true rfl) (b_X6_ask_in E s a0 i1 i2)
/-! HeronTalk.item(II)I -/
abbrev M_X6_item : jM := (RX6, cX6_item, 4, (some .int), "item", 1, 21)
theorem yF_X6_item : yF yX6_item M_X6_item 2 := ⟨w_576, w_278, by decide +kernel⟩
theorem yV_X6_item : Cond.instanceMethod yX6_item ∈ tbG ∧ Cond.selects yX6_item.cls yX6_item yX6_item ∈ tbG := ⟨w_577, w_578⟩
theorem dX6_item_0 : dI cX6_item 0 1 (.iload_n 1) 1 := ⟨by decide +kernel, rfl⟩
theorem dX6_item_1 : decode cX6_item 1 = .ok (.invokestatic 299, 3) := by decide +kernel
theorem dX6_item_4 : decode cX6_item 4 = .ok (.ifCond .eq 6, 3) := by decide +kernel
theorem dX6_item_7 : dI cX6_item 7 9 (.ldc 67) 2 := ⟨by decide +kernel, rfl⟩
theorem dX6_item_9 : dI cX6_item 9 10 (.ireturn) 1 := ⟨by decide +kernel, rfl⟩
theorem dX6_item_10 : dI cX6_item 10 11 (.aload_n 0) 1 := ⟨by decide +kernel, rfl⟩
theorem dX6_item_11 : dI cX6_item 11 14 (.getfield 47) 3 := ⟨by decide +kernel, rfl⟩
theorem dX6_item_14 : dI cX6_item 14 15 (.iload_n 1) 1 := ⟨by decide +kernel, rfl⟩
theorem dX6_item_15 : dI cX6_item 15 16 (.aaload) 1 := ⟨by decide +kernel, rfl⟩
theorem dX6_item_16 : dI cX6_item 16 17 (.astore_n 3) 1 := ⟨by decide +kernel, rfl⟩
theorem dX6_item_17 : dI cX6_item 17 18 (.aload_n 3) 1 := ⟨by decide +kernel, rfl⟩
theorem dX6_item_18 : dI cX6_item 18 21 (.getfield 302) 3 := ⟨by decide +kernel, rfl⟩
theorem dX6_item_21 : decode cX6_item 21 = .ok (.ifCond .ne 7, 3) := by decide +kernel
theorem dX6_item_24 : dI cX6_item 24 27 (.ldc_w 273) 3 := ⟨by decide +kernel, rfl⟩
theorem dX6_item_27 : dI cX6_item 27 28 (.ireturn) 1 := ⟨by decide +kernel, rfl⟩
theorem dX6_item_28 : dI cX6_item 28 29 (.aload_n 3) 1 := ⟨by decide +kernel, rfl⟩
theorem dX6_item_29 : dI cX6_item 29 32 (.getfield 302) 3 := ⟨by decide +kernel, rfl⟩
theorem dX6_item_32 : dI cX6_item 32 33 (.iconst 2) 1 := ⟨by decide +kernel, rfl⟩
theorem dX6_item_33 : decode cX6_item 33 = .ok (.if_icmp .eq 6, 3) := by decide +kernel
theorem dX6_item_36 : dI cX6_item 36 38 (.ldc 184) 2 := ⟨by decide +kernel, rfl⟩
theorem dX6_item_38 : dI cX6_item 38 39 (.ireturn) 1 := ⟨by decide +kernel, rfl⟩
theorem dX6_item_39 : dI cX6_item 39 40 (.aload_n 3) 1 := ⟨by decide +kernel, rfl⟩
theorem dX6_item_40 : dI cX6_item 40 43 (.getfield 309) 3 := ⟨by decide +kernel, rfl⟩
theorem dX6_item_43 : dI cX6_item 43 44 (.iload_n 2) 1 := ⟨by decide +kernel, rfl⟩
theorem dX6_item_44 : decode cX6_item 44 = .ok (.invokevirtual 274, 3) := by decide +kernel
theorem dX6_item_47 : decode cX6_item 47 = .ok (.ifCond .eq 7, 3) := by decide +kernel
theorem dX6_item_50 : dI cX6_item 50 53 (.ldc_w 277) 3 := ⟨by decide +kernel, rfl⟩
theorem dX6_item_53 : dI cX6_item 53 54 (.ireturn) 1 := ⟨by decide +kernel, rfl⟩
theorem dX6_item_54 : dI cX6_item 54 55 (.aload_n 3) 1 := ⟨by decide +kernel, rfl⟩
theorem dX6_item_55 : dI cX6_item 55 58 (.getfield 309) 3 := ⟨by decide +kernel, rfl⟩
theorem dX6_item_58 : dI cX6_item 58 61 (.getfield 278) 3 := ⟨by decide +kernel, rfl⟩
theorem dX6_item_61 : dI cX6_item 61 62 (.iload_n 2) 1 := ⟨by decide +kernel, rfl⟩
theorem dX6_item_62 : dI cX6_item 62 63 (.iaload) 1 := ⟨by decide +kernel, rfl⟩
theorem dX6_item_63 : dI cX6_item 63 65 (.ldc 203) 2 := ⟨by decide +kernel, rfl⟩
theorem dX6_item_65 : decode cX6_item 65 = .ok (.if_icmp .ne 8, 3) := by decide +kernel
theorem dX6_item_68 : dI cX6_item 68 70 (.ldc 184) 2 := ⟨by decide +kernel, rfl⟩
theorem dX6_item_70 : decode cX6_item 70 = .ok (.goto 12, 3) := by decide +kernel
theorem dX6_item_73 : dI cX6_item 73 74 (.aload_n 3) 1 := ⟨by decide +kernel, rfl⟩
theorem dX6_item_74 : dI cX6_item 74 77 (.getfield 309) 3 := ⟨by decide +kernel, rfl⟩
theorem dX6_item_77 : dI cX6_item 77 80 (.getfield 278) 3 := ⟨by decide +kernel, rfl⟩
theorem dX6_item_80 : dI cX6_item 80 81 (.iload_n 2) 1 := ⟨by decide +kernel, rfl⟩
theorem dX6_item_81 : dI cX6_item 81 82 (.iaload) 1 := ⟨by decide +kernel, rfl⟩
theorem dX6_item_82 : dI cX6_item 82 83 (.ireturn) 1 := ⟨by decide +kernel, rfl⟩
def f_X6_item (s : hS) (a0 : Nat) (i1 : Int32) (i2 : Int32) : Option (Int32 × hS) :=
  (f_X6_isNoSlot s i1).bind fun p1 =>
  if p1.1 = 0 then
    (gR p1.2 a0 6 7).bind fun a2 =>
    (aR p1.2 a2 13 i1).bind fun a3 =>
    (gI p1.2 a3 2 0).bind fun x4 =>
    if x4 = 0 then
      some ((-1000000011 : Int32), p1.2)
    else
      (gI p1.2 a3 2 0).bind fun x5 =>
      if x5 = (2 : Int32) then
        (gR p1.2 a3 2 5).bind fun a6 =>
        (cV p1.2 a6 1 (f_X1_hasNoPlace p1.2 a6 i2)).bind fun p7 =>
        if p7.1 = 0 then
          (gR p7.2 a3 2 5).bind fun a8 =>
          (gR p7.2 a8 1 2).bind fun a9 =>
          (aI p7.2 a9 10 i2).bind fun x10 =>
          if x10 = (-1000000005 : Int32) then
            some ((-1000000012 : Int32), p7.2)
          else
            (gR p7.2 a3 2 5).bind fun a11 =>
            (gR p7.2 a11 1 2).bind fun a12 =>
            (aI p7.2 a12 10 i2).bind fun x13 =>
            some (x13, p7.2)
        else
          some ((-1000000013 : Int32), p7.2)
      else
        some ((-1000000012 : Int32), p1.2)
  else
    some ((-1000000001 : Int32), p1.2)
theorem b_X6_item_in (E : jE)  (s : hS) (a0 : Nat) (i1 : Int32) (i2 : Int32)  : Jo E M_X6_item cvI 0 [(0, .ref a0), (1, .int i1), (2, .int i2)] [] s (f_X6_item s a0 i1 i2) := by
  unfold f_X6_item
  refine Jo_iloadn 1 dX6_item_0 rfl rfl ?_
  refine Jo_callSi (rest := []) [.int i1] yF_X6_isNoSlot yS_X6_isNoSlot w_566 rfl rfl ⟨Nat.le_of_ble_eq_true rfl, Nat.le_of_ble_eq_true rfl, Nat.le_of_ble_eq_true rfl⟩ dX6_item_1 rfl (K_X6_isNoSlot E s i1) (fun p1 => ?_)
  refine Jo_if_eq 10 dX6_item_4 (by decide) rfl ?_ ?_
  · refine Jo_aloadn 0 dX6_item_10 rfl rfl ?_
    refine Jo_getR fF_6_7 fR_6_7 dX6_item_11 w_343 (fun a2 => ?_)
    refine Jo_iloadn 1 dX6_item_14 rfl rfl ?_
    refine Jo_aaload hta_13 dX6_item_15 (fun a3 => ?_)
    refine Jo_astoren (ls' := [(3, .ref a3), (0, .ref a0), (1, .int i1), (2, .int i2)]) dX6_item_16 rfl (by decide) rfl ?_
    refine Jo_aloadn 0 dX6_item_17 rfl rfl ?_
    refine Jo_getI fF_2_0 fI_2_0 dX6_item_18 w_565 (fun x4 => ?_)
    refine Jo_if_ne 28 dX6_item_21 (by decide) rfl ?_ ?_
    · refine Jo_ldcw dX6_item_24 w_542 ?_
      exact Jo_iret rfl dX6_item_27
    · refine Jo_aloadn 0 dX6_item_28 rfl rfl ?_
      refine Jo_getI fF_2_0 fI_2_0 dX6_item_29 w_565 (fun x5 => ?_)
      refine Jo_iconst (v := (2 : Int32)) dX6_item_32 (by decide) ?_
      refine Jo_icmp_eq 39 dX6_item_33 (by decide) rfl ?_ ?_
      · refine Jo_aloadn 0 dX6_item_39 rfl rfl ?_
        refine Jo_getR fF_2_5 fR_2_5 dX6_item_40 w_563 (fun a6 => ?_)
        refine Jo_iloadn 3 dX6_item_43 rfl rfl ?_
        refine Jo_callVi (a := a6) (rest := []) [.int i2] cc_1 yF_X1_hasNoPlace yV_X1_hasNoPlace w_541 rfl rfl ⟨Nat.le_of_ble_eq_true rfl, Nat.le_of_ble_eq_true rfl, Nat.le_of_ble_eq_true rfl⟩ dX6_item_44 rfl (K_X1_hasNoPlace E p1.2 a6 i2) (fun p7 => ?_)
        refine Jo_if_eq 54 dX6_item_47 (by decide) rfl ?_ ?_
        · refine Jo_aloadn 0 dX6_item_54 rfl rfl ?_
          refine Jo_getR fF_2_5 fR_2_5 dX6_item_55 w_563 (fun a8 => ?_)
          refine Jo_getR fF_1_2 fR_1_2 dX6_item_58 w_536 (fun a9 => ?_)
          refine Jo_iloadn 3 dX6_item_61 rfl rfl ?_
          refine Jo_iaload dX6_item_62 (fun x10 => ?_)
          refine Jo_ldc dX6_item_63 w_441 ?_
          refine Jo_icmp_ne 73 dX6_item_65 (by decide) rfl ?_ ?_
          · refine Jo_ldc dX6_item_68 w_456 ?_
            refine Jo_goto 82 dX6_item_70 (by decide) ?_
            exact Jo_iret rfl dX6_item_82
          · refine Jo_aloadn 0 dX6_item_73 rfl rfl ?_
            refine Jo_getR fF_2_5 fR_2_5 dX6_item_74 w_563 (fun a11 => ?_)
            refine Jo_getR fF_1_2 fR_1_2 dX6_item_77 w_536 (fun a12 => ?_)
            refine Jo_iloadn 3 dX6_item_80 rfl rfl ?_
            refine Jo_iaload dX6_item_81 (fun x13 => ?_)
            exact Jo_iret rfl dX6_item_82
        · refine Jo_ldcw dX6_item_50 w_540 ?_
          exact Jo_iret rfl dX6_item_53
      · refine Jo_ldc dX6_item_36 w_456 ?_
        exact Jo_iret rfl dX6_item_38
  · refine Jo_ldc dX6_item_7 w_368 ?_
    exact Jo_iret rfl dX6_item_9
theorem K_X6_item (E : jE) (s : hS) (a0 : Nat) (i1 : Int32) (i2 : Int32) : jK E yX6_item M_X6_item cvI [.ref a0, .int i1, .int i2] s (f_X6_item s a0 i1 i2) := jK_of ⟨by decide, rfl, rfl⟩ (Nat.le_of_ble_eq_true rfl) (b_X6_item_in E s a0 i1 i2)
/-! HeronTalk.rest(II)I -/
abbrev M_X6_rest : jM := (RX6, cX6_rest, 4, (some .int), "rest", 1, 20)
theorem yF_X6_rest : yF yX6_rest M_X6_rest 2 := ⟨w_579, w_278, by decide +kernel⟩
theorem yV_X6_rest : Cond.instanceMethod yX6_rest ∈ tbG ∧ Cond.selects yX6_rest.cls yX6_rest yX6_rest ∈ tbG := ⟨w_580, w_581⟩
theorem dX6_rest_0 : dI cX6_rest 0 1 (.iload_n 1) 1 := ⟨by decide +kernel, rfl⟩
theorem dX6_rest_1 : decode cX6_rest 1 = .ok (.invokestatic 299, 3) := by decide +kernel
theorem dX6_rest_4 : decode cX6_rest 4 = .ok (.ifCond .eq 6, 3) := by decide +kernel
theorem dX6_rest_7 : dI cX6_rest 7 9 (.ldc 67) 2 := ⟨by decide +kernel, rfl⟩
theorem dX6_rest_9 : dI cX6_rest 9 10 (.ireturn) 1 := ⟨by decide +kernel, rfl⟩
theorem dX6_rest_10 : dI cX6_rest 10 11 (.aload_n 0) 1 := ⟨by decide +kernel, rfl⟩
theorem dX6_rest_11 : dI cX6_rest 11 14 (.getfield 47) 3 := ⟨by decide +kernel, rfl⟩
theorem dX6_rest_14 : dI cX6_rest 14 15 (.iload_n 1) 1 := ⟨by decide +kernel, rfl⟩
theorem dX6_rest_15 : dI cX6_rest 15 16 (.aaload) 1 := ⟨by decide +kernel, rfl⟩
theorem dX6_rest_16 : dI cX6_rest 16 17 (.astore_n 3) 1 := ⟨by decide +kernel, rfl⟩
theorem dX6_rest_17 : dI cX6_rest 17 18 (.aload_n 3) 1 := ⟨by decide +kernel, rfl⟩
theorem dX6_rest_18 : dI cX6_rest 18 21 (.getfield 302) 3 := ⟨by decide +kernel, rfl⟩
theorem dX6_rest_21 : decode cX6_rest 21 = .ok (.ifCond .ne 7, 3) := by decide +kernel
theorem dX6_rest_24 : dI cX6_rest 24 27 (.ldc_w 273) 3 := ⟨by decide +kernel, rfl⟩
theorem dX6_rest_27 : dI cX6_rest 27 28 (.ireturn) 1 := ⟨by decide +kernel, rfl⟩
theorem dX6_rest_28 : dI cX6_rest 28 29 (.aload_n 3) 1 := ⟨by decide +kernel, rfl⟩
theorem dX6_rest_29 : dI cX6_rest 29 32 (.getfield 302) 3 := ⟨by decide +kernel, rfl⟩
theorem dX6_rest_32 : dI cX6_rest 32 33 (.iconst 3) 1 := ⟨by decide +kernel, rfl⟩
theorem dX6_rest_33 : decode cX6_rest 33 = .ok (.if_icmp .eq 6, 3) := by decide +kernel
theorem dX6_rest_36 : dI cX6_rest 36 38 (.ldc 184) 2 := ⟨by decide +kernel, rfl⟩
theorem dX6_rest_38 : dI cX6_rest 38 39 (.ireturn) 1 := ⟨by decide +kernel, rfl⟩
theorem dX6_rest_39 : dI cX6_rest 39 40 (.iload_n 2) 1 := ⟨by decide +kernel, rfl⟩
theorem dX6_rest_40 : decode cX6_rest 40 = .ok (.ifCond .ne 8, 3) := by decide +kernel
theorem dX6_rest_43 : dI cX6_rest 43 45 (.ldc 188) 2 := ⟨by decide +kernel, rfl⟩
theorem dX6_rest_45 : decode cX6_rest 45 = .ok (.goto 9, 3) := by decide +kernel
theorem dX6_rest_48 : dI cX6_rest 48 49 (.aload_n 3) 1 := ⟨by decide +kernel, rfl⟩
theorem dX6_rest_49 : dI cX6_rest 49 52 (.getfield 316) 3 := ⟨by decide +kernel, rfl⟩
theorem dX6_rest_52 : dI cX6_rest 52 53 (.iload_n 2) 1 := ⟨by decide +kernel, rfl⟩
theorem dX6_rest_53 : dI cX6_rest 53 54 (.irem) 1 := ⟨by decide +kernel, rfl⟩
theorem dX6_rest_54 : dI cX6_rest 54 55 (.ireturn) 1 := ⟨by decide +kernel, rfl⟩
def f_X6_rest (s : hS) (a0 : Nat) (i1 : Int32) (i2 : Int32) : Option (Int32 × hS) :=
  (f_X6_isNoSlot s i1).bind fun p1 =>
  if p1.1 = 0 then
    (gR p1.2 a0 6 7).bind fun a2 =>
    (aR p1.2 a2 13 i1).bind fun a3 =>
    (gI p1.2 a3 2 0).bind fun x4 =>
    if x4 = 0 then
      some ((-1000000011 : Int32), p1.2)
    else
      (gI p1.2 a3 2 0).bind fun x5 =>
      if x5 = (3 : Int32) then
        if i2 = 0 then
          some ((-1000000002 : Int32), p1.2)
        else
          (gI p1.2 a3 2 4).bind fun x6 =>
          if i2 = 0 then none else
          some ((x6 - x6 / i2 * i2), p1.2)
      else
        some ((-1000000012 : Int32), p1.2)
  else
    some ((-1000000001 : Int32), p1.2)
theorem b_X6_rest_in (E : jE)  (s : hS) (a0 : Nat) (i1 : Int32) (i2 : Int32)  : Jo E M_X6_rest cvI 0 [(0, .ref a0), (1, .int i1), (2, .int i2)] [] s (f_X6_rest s a0 i1 i2) := by
  unfold f_X6_rest
  refine Jo_iloadn 1 dX6_rest_0 rfl rfl ?_
  refine Jo_callSi (rest := []) [.int i1] yF_X6_isNoSlot yS_X6_isNoSlot w_566 rfl rfl ⟨Nat.le_of_ble_eq_true rfl, Nat.le_of_ble_eq_true rfl, Nat.le_of_ble_eq_true rfl⟩ dX6_rest_1 rfl (K_X6_isNoSlot E s i1) (fun p1 => ?_)
  refine Jo_if_eq 10 dX6_rest_4 (by decide) rfl ?_ ?_
  · refine Jo_aloadn 0 dX6_rest_10 rfl rfl ?_
    refine Jo_getR fF_6_7 fR_6_7 dX6_rest_11 w_343 (fun a2 => ?_)
    refine Jo_iloadn 1 dX6_rest_14 rfl rfl ?_
    refine Jo_aaload hta_13 dX6_rest_15 (fun a3 => ?_)
    refine Jo_astoren (ls' := [(3, .ref a3), (0, .ref a0), (1, .int i1), (2, .int i2)]) dX6_rest_16 rfl (by decide) rfl ?_
    refine Jo_aloadn 0 dX6_rest_17 rfl rfl ?_
    refine Jo_getI fF_2_0 fI_2_0 dX6_rest_18 w_565 (fun x4 => ?_)
    refine Jo_if_ne 28 dX6_rest_21 (by decide) rfl ?_ ?_
    · refine Jo_ldcw dX6_rest_24 w_542 ?_
      exact Jo_iret rfl dX6_rest_27
    · refine Jo_aloadn 0 dX6_rest_28 rfl rfl ?_
      refine Jo_getI fF_2_0 fI_2_0 dX6_rest_29 w_565 (fun x5 => ?_)
      refine Jo_iconst (v := (3 : Int32)) dX6_rest_32 (by decide) ?_
      refine Jo_icmp_eq 39 dX6_rest_33 (by decide) rfl ?_ ?_
      · refine Jo_iloadn 3 dX6_rest_39 rfl rfl ?_
        refine Jo_if_ne 48 dX6_rest_40 (by decide) rfl ?_ ?_
        · refine Jo_ldc dX6_rest_43 w_468 ?_
          refine Jo_goto 54 dX6_rest_45 (by decide) ?_
          exact Jo_iret rfl dX6_rest_54
        · refine Jo_aloadn 0 dX6_rest_48 rfl rfl ?_
          refine Jo_getI fF_2_4 fI_2_4 dX6_rest_49 w_561 (fun x6 => ?_)
          refine Jo_iloadn 3 dX6_rest_52 rfl rfl ?_
          refine Jo_irem dX6_rest_53 ?_
          exact Jo_iret rfl dX6_rest_54
      · refine Jo_ldc dX6_rest_36 w_456 ?_
        exact Jo_iret rfl dX6_rest_38
  · refine Jo_ldc dX6_rest_7 w_368 ?_
    exact Jo_iret rfl dX6_rest_9
theorem K_X6_rest (E : jE) (s : hS) (a0 : Nat) (i1 : Int32) (i2 : Int32) : jK E yX6_rest M_X6_rest cvI [.ref a0, .int i1, .int i2] s (f_X6_rest s a0 i1 i2) := jK_of ⟨by decide, rfl, rfl⟩ (Nat.le_of_ble_eq_true rfl) (b_X6_rest_in E s a0 i1 i2)
/-! HeronTalk.tell(I)I -/
abbrev M_X6_tell : jM := (RX6, cX6_tell, 2, (some .int), "tell", 0, 0)
theorem yF_X6_tell : yF yX6_tell M_X6_tell 1 := ⟨w_582, w_278, by decide +kernel⟩
theorem yV_X6_tell : Cond.instanceMethod yX6_tell ∈ tbG ∧ Cond.selects yX6_tell.cls yX6_tell yX6_tell ∈ tbG := ⟨w_583, w_584⟩
theorem dX6_tell_0 : dI cX6_tell 0 1 (.aload_n 0) 1 := ⟨by decide +kernel, rfl⟩
theorem dX6_tell_1 : dI cX6_tell 1 4 (.getfield 56) 3 := ⟨by decide +kernel, rfl⟩
theorem dX6_tell_4 : dI cX6_tell 4 6 (.bipush 60) 2 := ⟨by decide +kernel, rfl⟩
theorem dX6_tell_6 : decode cX6_tell 6 = .ok (.if_icmp .lt 6, 3) := by decide +kernel
theorem dX6_tell_9 : dI cX6_tell 9 11 (.ldc 71) 2 := ⟨by decide +kernel, rfl⟩
theorem dX6_tell_11 : dI cX6_tell 11 12 (.ireturn) 1 := ⟨by decide +kernel, rfl⟩
theorem dX6_tell_12 : dI cX6_tell 12 13 (.aload_n 0) 1 := ⟨by decide +kernel, rfl⟩
theorem dX6_tell_13 : dI cX6_tell 13 16 (.getfield 52) 3 := ⟨by decide +kernel, rfl⟩
theorem dX6_tell_16 : dI cX6_tell 16 17 (.aload_n 0) 1 := ⟨by decide +kernel, rfl⟩
theorem dX6_tell_17 : dI cX6_tell 17 20 (.getfield 56) 3 := ⟨by decide +kernel, rfl⟩
theorem dX6_tell_20 : dI cX6_tell 20 21 (.iload_n 1) 1 := ⟨by decide +kernel, rfl⟩
theorem dX6_tell_21 : dI cX6_tell 21 22 (.iastore) 1 := ⟨by decide +kernel, rfl⟩
theorem dX6_tell_22 : dI cX6_tell 22 23 (.aload_n 0) 1 := ⟨by decide +kernel, rfl⟩
theorem dX6_tell_23 : dI cX6_tell 23 24 (.dup) 1 := ⟨by decide +kernel, rfl⟩
theorem dX6_tell_24 : dI cX6_tell 24 27 (.getfield 56) 3 := ⟨by decide +kernel, rfl⟩
theorem dX6_tell_27 : dI cX6_tell 27 28 (.iconst 1) 1 := ⟨by decide +kernel, rfl⟩
theorem dX6_tell_28 : dI cX6_tell 28 29 (.iadd) 1 := ⟨by decide +kernel, rfl⟩
theorem dX6_tell_29 : dI cX6_tell 29 32 (.putfield 56) 3 := ⟨by decide +kernel, rfl⟩
theorem dX6_tell_32 : dI cX6_tell 32 33 (.aload_n 0) 1 := ⟨by decide +kernel, rfl⟩
theorem dX6_tell_33 : dI cX6_tell 33 36 (.getfield 56) 3 := ⟨by decide +kernel, rfl⟩
theorem dX6_tell_36 : dI cX6_tell 36 37 (.ireturn) 1 := ⟨by decide +kernel, rfl⟩
def f_X6_tell (s : hS) (a0 : Nat) (i1 : Int32) : Option (Int32 × hS) :=
  (gI s a0 6 9).bind fun x1 =>
  if x1 < (60 : Int32) then
    (gR s a0 6 8).bind fun a2 =>
    (gI s a0 6 9).bind fun x3 =>
    (sI s a2 10 x3 i1).bind fun s4 =>
    (gI s4 a0 6 9).bind fun x5 =>
    (pI s4 a0 6 9 (x5 + (1 : Int32))).bind fun s6 =>
    (gI s6 a0 6 9).bind fun x7 =>
    some (x7, s6)
  else
    some ((-1000000003 : Int32), s)
theorem b_X6_tell_in (E : jE)  (s : hS) (a0 : Nat) (i1 : Int32)  : Jo E M_X6_tell cvI 0 [(0, .ref a0), (1, .int i1)] [] s (f_X6_tell s a0 i1) := by
  unfold f_X6_tell
  refine Jo_aloadn 0 dX6_tell_0 rfl rfl ?_
  refine Jo_getI fF_6_9 fI_6_9 dX6_tell_1 w_338 (fun x1 => ?_)
  refine Jo_bipush (v := (60 : Int32)) dX6_tell_4 (by decide) ?_
  refine Jo_icmp_lt 12 dX6_tell_6 (by decide) rfl ?_ ?_
  · refine Jo_aloadn 0 dX6_tell_12 rfl rfl ?_
    refine Jo_getR fF_6_8 fR_6_8 dX6_tell_13 w_339 (fun a2 => ?_)
    refine Jo_aloadn 0 dX6_tell_16 rfl rfl ?_
    refine Jo_getI fF_6_9 fI_6_9 dX6_tell_17 w_338 (fun x3 => ?_)
    refine Jo_iloadn 1 dX6_tell_20 rfl rfl ?_
    refine Jo_iastore dX6_tell_21 (fun s4 => ?_)
    refine Jo_aloadn 0 dX6_tell_22 rfl rfl ?_
    refine Jo_dup dX6_tell_23 rfl ?_
    refine Jo_getI fF_6_9 fI_6_9 dX6_tell_24 w_338 (fun x5 => ?_)
    refine Jo_iconst (v := (1 : Int32)) dX6_tell_27 (by decide) ?_
    refine Jo_iadd dX6_tell_28 ?_
    refine Jo_putI fF_6_9 fI_6_9 (Or.inl rfl) rfl dX6_tell_29 w_338 (fun s6 => ?_)
    refine Jo_aloadn 0 dX6_tell_32 rfl rfl ?_
    refine Jo_getI fF_6_9 fI_6_9 dX6_tell_33 w_338 (fun x7 => ?_)
    exact Jo_iret rfl dX6_tell_36
  · refine Jo_ldc dX6_tell_9 w_366 ?_
    exact Jo_iret rfl dX6_tell_11
theorem K_X6_tell (E : jE) (s : hS) (a0 : Nat) (i1 : Int32) : jK E yX6_tell M_X6_tell cvI [.ref a0, .int i1] s (f_X6_tell s a0 i1) := jK_of ⟨by decide, rfl, rfl⟩ (Nat.le_of_ble_eq_true rfl) (b_X6_tell_in E s a0 i1)
