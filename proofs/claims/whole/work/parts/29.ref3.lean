/-! HeronTalkModel.two(III)I -/
abbrev M_X7_two : jM := (RX7, cX7_two, 3, (some .int), "two", 0, 0)
theorem yF_X7_two : yF yX7_two M_X7_two 3 := ⟨w_719, w_624, by decide +kernel⟩
theorem yS_X7_two : Cond.static yX7_two ∈ tbG := w_720
theorem dX7_two_0 : dI cX7_two 0 1 (.iload_n 0) 1 := ⟨by decide +kernel, rfl⟩
theorem dX7_two_1 : decode cX7_two 1 = .ok (.tableswitch 120 (-8) (-1) #[116, 112, 108, 97, 86, 75, 61, 47], 47) := by decide +kernel
theorem dX7_two_48 : dI cX7_two 48 49 (.iload_n 1) 1 := ⟨by decide +kernel, rfl⟩
theorem dX7_two_49 : decode cX7_two 49 = .ok (.ifCond .ne 7, 3) := by decide +kernel
theorem dX7_two_52 : dI cX7_two 52 53 (.iload_n 2) 1 := ⟨by decide +kernel, rfl⟩
theorem dX7_two_53 : decode cX7_two 53 = .ok (.ifCond .eq 7, 3) := by decide +kernel
theorem dX7_two_56 : dI cX7_two 56 57 (.iconst 1) 1 := ⟨by decide +kernel, rfl⟩
theorem dX7_two_57 : decode cX7_two 57 = .ok (.goto 4, 3) := by decide +kernel
theorem dX7_two_60 : dI cX7_two 60 61 (.iconst 0) 1 := ⟨by decide +kernel, rfl⟩
theorem dX7_two_61 : dI cX7_two 61 62 (.ireturn) 1 := ⟨by decide +kernel, rfl⟩
theorem dX7_two_62 : dI cX7_two 62 63 (.iload_n 1) 1 := ⟨by decide +kernel, rfl⟩
theorem dX7_two_63 : decode cX7_two 63 = .ok (.ifCond .eq 11, 3) := by decide +kernel
theorem dX7_two_66 : dI cX7_two 66 67 (.iload_n 2) 1 := ⟨by decide +kernel, rfl⟩
theorem dX7_two_67 : decode cX7_two 67 = .ok (.ifCond .eq 7, 3) := by decide +kernel
theorem dX7_two_70 : dI cX7_two 70 71 (.iconst 1) 1 := ⟨by decide +kernel, rfl⟩
theorem dX7_two_71 : decode cX7_two 71 = .ok (.goto 4, 3) := by decide +kernel
theorem dX7_two_74 : dI cX7_two 74 75 (.iconst 0) 1 := ⟨by decide +kernel, rfl⟩
theorem dX7_two_75 : dI cX7_two 75 76 (.ireturn) 1 := ⟨by decide +kernel, rfl⟩
theorem dX7_two_76 : dI cX7_two 76 77 (.iload_n 1) 1 := ⟨by decide +kernel, rfl⟩
theorem dX7_two_77 : dI cX7_two 77 78 (.iload_n 2) 1 := ⟨by decide +kernel, rfl⟩
theorem dX7_two_78 : decode cX7_two 78 = .ok (.if_icmp .ge 7, 3) := by decide +kernel
theorem dX7_two_81 : dI cX7_two 81 82 (.iconst 1) 1 := ⟨by decide +kernel, rfl⟩
theorem dX7_two_82 : decode cX7_two 82 = .ok (.goto 4, 3) := by decide +kernel
theorem dX7_two_85 : dI cX7_two 85 86 (.iconst 0) 1 := ⟨by decide +kernel, rfl⟩
theorem dX7_two_86 : dI cX7_two 86 87 (.ireturn) 1 := ⟨by decide +kernel, rfl⟩
theorem dX7_two_87 : dI cX7_two 87 88 (.iload_n 1) 1 := ⟨by decide +kernel, rfl⟩
theorem dX7_two_88 : dI cX7_two 88 89 (.iload_n 2) 1 := ⟨by decide +kernel, rfl⟩
theorem dX7_two_89 : decode cX7_two 89 = .ok (.if_icmp .ne 7, 3) := by decide +kernel
theorem dX7_two_92 : dI cX7_two 92 93 (.iconst 1) 1 := ⟨by decide +kernel, rfl⟩
theorem dX7_two_93 : decode cX7_two 93 = .ok (.goto 4, 3) := by decide +kernel
theorem dX7_two_96 : dI cX7_two 96 97 (.iconst 0) 1 := ⟨by decide +kernel, rfl⟩
theorem dX7_two_97 : dI cX7_two 97 98 (.ireturn) 1 := ⟨by decide +kernel, rfl⟩
theorem dX7_two_98 : dI cX7_two 98 99 (.iload_n 1) 1 := ⟨by decide +kernel, rfl⟩
theorem dX7_two_99 : dI cX7_two 99 100 (.iload_n 2) 1 := ⟨by decide +kernel, rfl⟩
theorem dX7_two_100 : decode cX7_two 100 = .ok (.if_icmp .le 7, 3) := by decide +kernel
theorem dX7_two_103 : dI cX7_two 103 104 (.iconst 1) 1 := ⟨by decide +kernel, rfl⟩
theorem dX7_two_104 : decode cX7_two 104 = .ok (.goto 4, 3) := by decide +kernel
theorem dX7_two_107 : dI cX7_two 107 108 (.iconst 0) 1 := ⟨by decide +kernel, rfl⟩
theorem dX7_two_108 : dI cX7_two 108 109 (.ireturn) 1 := ⟨by decide +kernel, rfl⟩
theorem dX7_two_109 : dI cX7_two 109 110 (.iload_n 1) 1 := ⟨by decide +kernel, rfl⟩
theorem dX7_two_110 : dI cX7_two 110 111 (.iload_n 2) 1 := ⟨by decide +kernel, rfl⟩
theorem dX7_two_111 : dI cX7_two 111 112 (.iadd) 1 := ⟨by decide +kernel, rfl⟩
theorem dX7_two_112 : dI cX7_two 112 113 (.ireturn) 1 := ⟨by decide +kernel, rfl⟩
theorem dX7_two_113 : dI cX7_two 113 114 (.iload_n 1) 1 := ⟨by decide +kernel, rfl⟩
theorem dX7_two_114 : dI cX7_two 114 115 (.iload_n 2) 1 := ⟨by decide +kernel, rfl⟩
theorem dX7_two_115 : dI cX7_two 115 116 (.isub) 1 := ⟨by decide +kernel, rfl⟩
theorem dX7_two_116 : dI cX7_two 116 117 (.ireturn) 1 := ⟨by decide +kernel, rfl⟩
theorem dX7_two_117 : dI cX7_two 117 118 (.iload_n 1) 1 := ⟨by decide +kernel, rfl⟩
theorem dX7_two_118 : dI cX7_two 118 119 (.iload_n 2) 1 := ⟨by decide +kernel, rfl⟩
theorem dX7_two_119 : dI cX7_two 119 120 (.imul) 1 := ⟨by decide +kernel, rfl⟩
theorem dX7_two_120 : dI cX7_two 120 121 (.ireturn) 1 := ⟨by decide +kernel, rfl⟩
theorem dX7_two_121 : dI cX7_two 121 122 (.iload_n 2) 1 := ⟨by decide +kernel, rfl⟩
theorem dX7_two_122 : decode cX7_two 122 = .ok (.ifCond .ne 7, 3) := by decide +kernel
theorem dX7_two_125 : dI cX7_two 125 126 (.iconst 0) 1 := ⟨by decide +kernel, rfl⟩
theorem dX7_two_126 : decode cX7_two 126 = .ok (.goto 6, 3) := by decide +kernel
theorem dX7_two_129 : dI cX7_two 129 130 (.iload_n 1) 1 := ⟨by decide +kernel, rfl⟩
theorem dX7_two_130 : dI cX7_two 130 131 (.iload_n 2) 1 := ⟨by decide +kernel, rfl⟩
theorem dX7_two_131 : dI cX7_two 131 132 (.idiv) 1 := ⟨by decide +kernel, rfl⟩
theorem dX7_two_132 : dI cX7_two 132 133 (.ireturn) 1 := ⟨by decide +kernel, rfl⟩
def f_X7_two_b56 (s : hS) : Option (Int32 × hS) :=
  some ((1 : Int32), s)
theorem b_X7_two_56 (E : jE)  (s : hS)   : Jo E M_X7_two cvI 56 [] [] s (f_X7_two_b56   s) := by
  unfold f_X7_two_b56
  refine Jo_iconst (v := (1 : Int32)) dX7_two_56 (by decide) ?_
  refine Jo_goto 61 dX7_two_57 (by decide) ?_
  exact Jo_iret rfl dX7_two_61
def f_X7_two (s : hS) (i0 : Int32) (i1 : Int32) (i2 : Int32) : Option (Int32 × hS) :=
  if i0 = (-8 : Int32) then
    some ((i1 * i2), s)
  else
  if i0 = (-7 : Int32) then
    some ((i1 - i2), s)
  else
  if i0 = (-6 : Int32) then
    some ((i1 + i2), s)
  else
  if i0 = (-5 : Int32) then
    if i1 ≤ i2 then
      some ((0 : Int32), s)
    else
      some ((1 : Int32), s)
  else
  if i0 = (-4 : Int32) then
    if i1 = i2 then
      some ((1 : Int32), s)
    else
      some ((0 : Int32), s)
  else
  if i0 = (-3 : Int32) then
    if i2 ≤ i1 then
      some ((0 : Int32), s)
    else
      some ((1 : Int32), s)
  else
  if i0 = (-2 : Int32) then
    if i1 = 0 then
      some ((0 : Int32), s)
    else
      if i2 = 0 then
        some ((0 : Int32), s)
      else
        some ((1 : Int32), s)
  else
  if i0 = (-1 : Int32) then
    if i1 = 0 then
      if i2 = 0 then
        some ((0 : Int32), s)
      else
        f_X7_two_b56  s
    else
      f_X7_two_b56  s
  else
  if i2 = 0 then
    some ((0 : Int32), s)
  else
    if i2 = 0 then none else
    some ((i1 / i2), s)
theorem b_X7_two_in (E : jE)  (s : hS) (i0 : Int32) (i1 : Int32) (i2 : Int32)  : Jo E M_X7_two cvI 0 [(0, .int i0), (1, .int i1), (2, .int i2)] [] s (f_X7_two s i0 i1 i2) := by
  unfold f_X7_two
  refine Jo_iloadn 0 dX7_two_0 rfl rfl ?_
  refine Jo_case ?_ (fun g1 => ?_)
  · refine Jo_tabIn (off := 116) 117 dX7_two_1 (by decide) (by decide) (by decide) (by decide) ?_
    refine Jo_iloadn 1 dX7_two_117 rfl rfl ?_
    refine Jo_iloadn 2 dX7_two_118 rfl rfl ?_
    refine Jo_imul dX7_two_119 ?_
    exact Jo_iret rfl dX7_two_120
  refine Jo_case ?_ (fun g2 => ?_)
  · refine Jo_tabIn (off := 112) 113 dX7_two_1 (by decide) (by decide) (by decide) (by decide) ?_
    refine Jo_iloadn 1 dX7_two_113 rfl rfl ?_
    refine Jo_iloadn 2 dX7_two_114 rfl rfl ?_
    refine Jo_isub dX7_two_115 ?_
    exact Jo_iret rfl dX7_two_116
  refine Jo_case ?_ (fun g3 => ?_)
  · refine Jo_tabIn (off := 108) 109 dX7_two_1 (by decide) (by decide) (by decide) (by decide) ?_
    refine Jo_iloadn 1 dX7_two_109 rfl rfl ?_
    refine Jo_iloadn 2 dX7_two_110 rfl rfl ?_
    refine Jo_iadd dX7_two_111 ?_
    exact Jo_iret rfl dX7_two_112
  refine Jo_case ?_ (fun g4 => ?_)
  · refine Jo_tabIn (off := 97) 98 dX7_two_1 (by decide) (by decide) (by decide) (by decide) ?_
    refine Jo_iloadn 1 dX7_two_98 rfl rfl ?_
    refine Jo_iloadn 2 dX7_two_99 rfl rfl ?_
    refine Jo_icmp_le 107 dX7_two_100 (by decide) rfl ?_ ?_
    · refine Jo_iconst (v := (0 : Int32)) dX7_two_107 (by decide) ?_
      exact Jo_iret rfl dX7_two_108
    · refine Jo_iconst (v := (1 : Int32)) dX7_two_103 (by decide) ?_
      refine Jo_goto 108 dX7_two_104 (by decide) ?_
      exact Jo_iret rfl dX7_two_108
  refine Jo_case ?_ (fun g5 => ?_)
  · refine Jo_tabIn (off := 86) 87 dX7_two_1 (by decide) (by decide) (by decide) (by decide) ?_
    refine Jo_iloadn 1 dX7_two_87 rfl rfl ?_
    refine Jo_iloadn 2 dX7_two_88 rfl rfl ?_
    refine Jo_icmp_ne 96 dX7_two_89 (by decide) rfl ?_ ?_
    · refine Jo_iconst (v := (1 : Int32)) dX7_two_92 (by decide) ?_
      refine Jo_goto 97 dX7_two_93 (by decide) ?_
      exact Jo_iret rfl dX7_two_97
    · refine Jo_iconst (v := (0 : Int32)) dX7_two_96 (by decide) ?_
      exact Jo_iret rfl dX7_two_97
  refine Jo_case ?_ (fun g6 => ?_)
  · refine Jo_tabIn (off := 75) 76 dX7_two_1 (by decide) (by decide) (by decide) (by decide) ?_
    refine Jo_iloadn 1 dX7_two_76 rfl rfl ?_
    refine Jo_iloadn 2 dX7_two_77 rfl rfl ?_
    refine Jo_icmp_ge 85 dX7_two_78 (by decide) rfl ?_ ?_
    · refine Jo_iconst (v := (0 : Int32)) dX7_two_85 (by decide) ?_
      exact Jo_iret rfl dX7_two_86
    · refine Jo_iconst (v := (1 : Int32)) dX7_two_81 (by decide) ?_
      refine Jo_goto 86 dX7_two_82 (by decide) ?_
      exact Jo_iret rfl dX7_two_86
  refine Jo_case ?_ (fun g7 => ?_)
  · refine Jo_tabIn (off := 61) 62 dX7_two_1 (by decide) (by decide) (by decide) (by decide) ?_
    refine Jo_iloadn 1 dX7_two_62 rfl rfl ?_
    refine Jo_if_eq 74 dX7_two_63 (by decide) rfl ?_ ?_
    · refine Jo_iconst (v := (0 : Int32)) dX7_two_74 (by decide) ?_
      exact Jo_iret rfl dX7_two_75
    · refine Jo_iloadn 2 dX7_two_66 rfl rfl ?_
      refine Jo_if_eq 74 dX7_two_67 (by decide) rfl ?_ ?_
      · refine Jo_iconst (v := (0 : Int32)) dX7_two_74 (by decide) ?_
        exact Jo_iret rfl dX7_two_75
      · refine Jo_iconst (v := (1 : Int32)) dX7_two_70 (by decide) ?_
        refine Jo_goto 75 dX7_two_71 (by decide) ?_
        exact Jo_iret rfl dX7_two_75
  refine Jo_case ?_ (fun g8 => ?_)
  · refine Jo_tabIn (off := 47) 48 dX7_two_1 (by decide) (by decide) (by decide) (by decide) ?_
    refine Jo_iloadn 1 dX7_two_48 rfl rfl ?_
    refine Jo_if_ne 56 dX7_two_49 (by decide) rfl ?_ ?_
    · refine Jo_iloadn 2 dX7_two_52 rfl rfl ?_
      refine Jo_if_eq 60 dX7_two_53 (by decide) rfl ?_ ?_
      · refine Jo_iconst (v := (0 : Int32)) dX7_two_60 (by decide) ?_
        exact Jo_iret rfl dX7_two_61
      · refine Jo_sub [] rfl ?_
        exact b_X7_two_56 E s 
    · refine Jo_sub [] rfl ?_
      exact b_X7_two_56 E s 
  refine Jo_tabOut 121 dX7_two_1 (by have qg1 := i32ne (-8) (by decide) g1; have qg2 := i32ne (-7) (by decide) g2; have qg3 := i32ne (-6) (by decide) g3; have qg4 := i32ne (-5) (by decide) g4; have qg5 := i32ne (-4) (by decide) g5; have qg6 := i32ne (-3) (by decide) g6; have qg7 := i32ne (-2) (by decide) g7; have qg8 := i32ne (-1) (by decide) g8; omega) (by decide) ?_
  refine Jo_iloadn 2 dX7_two_121 rfl rfl ?_
  refine Jo_if_ne 129 dX7_two_122 (by decide) rfl ?_ ?_
  · refine Jo_iconst (v := (0 : Int32)) dX7_two_125 (by decide) ?_
    refine Jo_goto 132 dX7_two_126 (by decide) ?_
    exact Jo_iret rfl dX7_two_132
  · refine Jo_iloadn 1 dX7_two_129 rfl rfl ?_
    refine Jo_iloadn 2 dX7_two_130 rfl rfl ?_
    refine Jo_idiv dX7_two_131 ?_
    exact Jo_iret rfl dX7_two_132
theorem K_X7_two (E : jE) (s : hS) (i0 : Int32) (i1 : Int32) (i2 : Int32) : jK E yX7_two M_X7_two cvI [.int i0, .int i1, .int i2] s (f_X7_two s i0 i1 i2) := jK_of ⟨by decide, rfl, rfl⟩ (Nat.le_of_ble_eq_true rfl) (b_X7_two_in E s i0 i1 i2)
/-! HeronTalkModel.worksOut(I)I -/
abbrev M_X7_worksOut : jM := (RX7, cX7_worksOut, 6, (some .int), "worksOut", 1, 22)
theorem yF_X7_worksOut : yF yX7_worksOut M_X7_worksOut 1 := ⟨w_722, w_624, by decide +kernel⟩
theorem yV_X7_worksOut : Cond.instanceMethod yX7_worksOut ∈ tbG ∧ Cond.selects yX7_worksOut.cls yX7_worksOut yX7_worksOut ∈ tbG := ⟨w_723, w_724⟩
theorem dX7_worksOut_0 : dI cX7_worksOut 0 1 (.iconst 0) 1 := ⟨by decide +kernel, rfl⟩
theorem dX7_worksOut_1 : dI cX7_worksOut 1 2 (.istore_n 2) 1 := ⟨by decide +kernel, rfl⟩
theorem dX7_worksOut_2 : dI cX7_worksOut 2 3 (.aload_n 0) 1 := ⟨by decide +kernel, rfl⟩
theorem dX7_worksOut_3 : dI cX7_worksOut 3 6 (.getfield 9) 3 := ⟨by decide +kernel, rfl⟩
theorem dX7_worksOut_6 : dI cX7_worksOut 6 8 (.bipush 104) 2 := ⟨by decide +kernel, rfl⟩
theorem dX7_worksOut_8 : dI cX7_worksOut 8 9 (.iconst 2) 1 := ⟨by decide +kernel, rfl⟩
theorem dX7_worksOut_9 : dI cX7_worksOut 9 10 (.iload_n 1) 1 := ⟨by decide +kernel, rfl⟩
theorem dX7_worksOut_10 : dI cX7_worksOut 10 11 (.imul) 1 := ⟨by decide +kernel, rfl⟩
theorem dX7_worksOut_11 : dI cX7_worksOut 11 12 (.iadd) 1 := ⟨by decide +kernel, rfl⟩
theorem dX7_worksOut_12 : dI cX7_worksOut 12 13 (.iaload) 1 := ⟨by decide +kernel, rfl⟩
theorem dX7_worksOut_13 : dI cX7_worksOut 13 16 (.sipush 1000) 3 := ⟨by decide +kernel, rfl⟩
theorem dX7_worksOut_16 : dI cX7_worksOut 16 17 (.irem) 1 := ⟨by decide +kernel, rfl⟩
theorem dX7_worksOut_17 : dI cX7_worksOut 17 18 (.istore_n 3) 1 := ⟨by decide +kernel, rfl⟩
theorem dX7_worksOut_18 : dI cX7_worksOut 18 19 (.iconst 0) 1 := ⟨by decide +kernel, rfl⟩
theorem dX7_worksOut_19 : dI cX7_worksOut 19 21 (.istore 4) 2 := ⟨by decide +kernel, rfl⟩
theorem dX7_worksOut_21 : dI cX7_worksOut 21 23 (.iload 4) 2 := ⟨by decide +kernel, rfl⟩
theorem dX7_worksOut_23 : dI cX7_worksOut 23 24 (.iload_n 3) 1 := ⟨by decide +kernel, rfl⟩
theorem dX7_worksOut_24 : decode cX7_worksOut 24 = .ok (.if_icmp .ge 132, 3) := by decide +kernel
theorem dX7_worksOut_27 : dI cX7_worksOut 27 28 (.aload_n 0) 1 := ⟨by decide +kernel, rfl⟩
theorem dX7_worksOut_28 : dI cX7_worksOut 28 31 (.getfield 9) 3 := ⟨by decide +kernel, rfl⟩
theorem dX7_worksOut_31 : dI cX7_worksOut 31 34 (.sipush 132) 3 := ⟨by decide +kernel, rfl⟩
theorem dX7_worksOut_34 : dI cX7_worksOut 34 36 (.bipush 96) 2 := ⟨by decide +kernel, rfl⟩
theorem dX7_worksOut_36 : dI cX7_worksOut 36 37 (.iload_n 1) 1 := ⟨by decide +kernel, rfl⟩
theorem dX7_worksOut_37 : dI cX7_worksOut 37 38 (.imul) 1 := ⟨by decide +kernel, rfl⟩
theorem dX7_worksOut_38 : dI cX7_worksOut 38 39 (.iadd) 1 := ⟨by decide +kernel, rfl⟩
theorem dX7_worksOut_39 : dI cX7_worksOut 39 41 (.iload 4) 2 := ⟨by decide +kernel, rfl⟩
theorem dX7_worksOut_41 : dI cX7_worksOut 41 42 (.iadd) 1 := ⟨by decide +kernel, rfl⟩
theorem dX7_worksOut_42 : dI cX7_worksOut 42 43 (.iaload) 1 := ⟨by decide +kernel, rfl⟩
theorem dX7_worksOut_43 : dI cX7_worksOut 43 45 (.istore 5) 2 := ⟨by decide +kernel, rfl⟩
theorem dX7_worksOut_45 : dI cX7_worksOut 45 47 (.iload 5) 2 := ⟨by decide +kernel, rfl⟩
theorem dX7_worksOut_47 : decode cX7_worksOut 47 = .ok (.ifCond .lt 39, 3) := by decide +kernel
theorem dX7_worksOut_50 : dI cX7_worksOut 50 51 (.aload_n 0) 1 := ⟨by decide +kernel, rfl⟩
theorem dX7_worksOut_51 : dI cX7_worksOut 51 54 (.getfield 45) 3 := ⟨by decide +kernel, rfl⟩
theorem dX7_worksOut_54 : dI cX7_worksOut 54 55 (.iload_n 2) 1 := ⟨by decide +kernel, rfl⟩
theorem dX7_worksOut_55 : dI cX7_worksOut 55 57 (.iload 5) 2 := ⟨by decide +kernel, rfl⟩
theorem dX7_worksOut_57 : dI cX7_worksOut 57 60 (.sipush 10000) 3 := ⟨by decide +kernel, rfl⟩
theorem dX7_worksOut_60 : decode cX7_worksOut 60 = .ok (.if_icmp .ge 8, 3) := by decide +kernel
theorem dX7_worksOut_63 : dI cX7_worksOut 63 65 (.iload 5) 2 := ⟨by decide +kernel, rfl⟩
theorem dX7_worksOut_65 : decode cX7_worksOut 65 = .ok (.goto 14, 3) := by decide +kernel
theorem dX7_worksOut_68 : dI cX7_worksOut 68 69 (.aload_n 0) 1 := ⟨by decide +kernel, rfl⟩
theorem dX7_worksOut_69 : dI cX7_worksOut 69 72 (.getfield 48) 3 := ⟨by decide +kernel, rfl⟩
theorem dX7_worksOut_72 : dI cX7_worksOut 72 74 (.iload 5) 2 := ⟨by decide +kernel, rfl⟩
theorem dX7_worksOut_74 : dI cX7_worksOut 74 77 (.sipush 10000) 3 := ⟨by decide +kernel, rfl⟩
theorem dX7_worksOut_77 : dI cX7_worksOut 77 78 (.isub) 1 := ⟨by decide +kernel, rfl⟩
theorem dX7_worksOut_78 : dI cX7_worksOut 78 79 (.iaload) 1 := ⟨by decide +kernel, rfl⟩
theorem dX7_worksOut_79 : dI cX7_worksOut 79 80 (.iastore) 1 := ⟨by decide +kernel, rfl⟩
theorem dX7_worksOut_80 : dI cX7_worksOut 80 83 (.iinc 2 1) 3 := ⟨by decide +kernel, rfl⟩
theorem dX7_worksOut_83 : decode cX7_worksOut 83 = .ok (.goto 67, 3) := by decide +kernel
theorem dX7_worksOut_86 : dI cX7_worksOut 86 88 (.iload 5) 2 := ⟨by decide +kernel, rfl⟩
theorem dX7_worksOut_88 : dI cX7_worksOut 88 90 (.bipush (-10)) 2 := ⟨by decide +kernel, rfl⟩
theorem dX7_worksOut_90 : decode cX7_worksOut 90 = .ok (.if_icmp .ne 30, 3) := by decide +kernel
theorem dX7_worksOut_93 : dI cX7_worksOut 93 94 (.aload_n 0) 1 := ⟨by decide +kernel, rfl⟩
theorem dX7_worksOut_94 : dI cX7_worksOut 94 97 (.getfield 45) 3 := ⟨by decide +kernel, rfl⟩
theorem dX7_worksOut_97 : dI cX7_worksOut 97 98 (.iload_n 2) 1 := ⟨by decide +kernel, rfl⟩
theorem dX7_worksOut_98 : dI cX7_worksOut 98 99 (.iconst 1) 1 := ⟨by decide +kernel, rfl⟩
theorem dX7_worksOut_99 : dI cX7_worksOut 99 100 (.isub) 1 := ⟨by decide +kernel, rfl⟩
theorem dX7_worksOut_100 : dI cX7_worksOut 100 101 (.aload_n 0) 1 := ⟨by decide +kernel, rfl⟩
theorem dX7_worksOut_101 : dI cX7_worksOut 101 104 (.getfield 45) 3 := ⟨by decide +kernel, rfl⟩
theorem dX7_worksOut_104 : dI cX7_worksOut 104 105 (.iload_n 2) 1 := ⟨by decide +kernel, rfl⟩
theorem dX7_worksOut_105 : dI cX7_worksOut 105 106 (.iconst 1) 1 := ⟨by decide +kernel, rfl⟩
theorem dX7_worksOut_106 : dI cX7_worksOut 106 107 (.isub) 1 := ⟨by decide +kernel, rfl⟩
theorem dX7_worksOut_107 : dI cX7_worksOut 107 108 (.iaload) 1 := ⟨by decide +kernel, rfl⟩
theorem dX7_worksOut_108 : decode cX7_worksOut 108 = .ok (.ifCond .ne 7, 3) := by decide +kernel
theorem dX7_worksOut_111 : dI cX7_worksOut 111 112 (.iconst 1) 1 := ⟨by decide +kernel, rfl⟩
theorem dX7_worksOut_112 : decode cX7_worksOut 112 = .ok (.goto 4, 3) := by decide +kernel
theorem dX7_worksOut_115 : dI cX7_worksOut 115 116 (.iconst 0) 1 := ⟨by decide +kernel, rfl⟩
theorem dX7_worksOut_116 : dI cX7_worksOut 116 117 (.iastore) 1 := ⟨by decide +kernel, rfl⟩
theorem dX7_worksOut_117 : decode cX7_worksOut 117 = .ok (.goto 33, 3) := by decide +kernel
theorem dX7_worksOut_120 : dI cX7_worksOut 120 123 (.iinc 2 (-1)) 3 := ⟨by decide +kernel, rfl⟩
theorem dX7_worksOut_123 : dI cX7_worksOut 123 124 (.aload_n 0) 1 := ⟨by decide +kernel, rfl⟩
theorem dX7_worksOut_124 : dI cX7_worksOut 124 127 (.getfield 45) 3 := ⟨by decide +kernel, rfl⟩
theorem dX7_worksOut_127 : dI cX7_worksOut 127 128 (.iload_n 2) 1 := ⟨by decide +kernel, rfl⟩
theorem dX7_worksOut_128 : dI cX7_worksOut 128 129 (.iconst 1) 1 := ⟨by decide +kernel, rfl⟩
theorem dX7_worksOut_129 : dI cX7_worksOut 129 130 (.isub) 1 := ⟨by decide +kernel, rfl⟩
theorem dX7_worksOut_130 : dI cX7_worksOut 130 132 (.iload 5) 2 := ⟨by decide +kernel, rfl⟩
theorem dX7_worksOut_132 : dI cX7_worksOut 132 133 (.aload_n 0) 1 := ⟨by decide +kernel, rfl⟩
theorem dX7_worksOut_133 : dI cX7_worksOut 133 136 (.getfield 45) 3 := ⟨by decide +kernel, rfl⟩
theorem dX7_worksOut_136 : dI cX7_worksOut 136 137 (.iload_n 2) 1 := ⟨by decide +kernel, rfl⟩
theorem dX7_worksOut_137 : dI cX7_worksOut 137 138 (.iconst 1) 1 := ⟨by decide +kernel, rfl⟩
theorem dX7_worksOut_138 : dI cX7_worksOut 138 139 (.isub) 1 := ⟨by decide +kernel, rfl⟩
theorem dX7_worksOut_139 : dI cX7_worksOut 139 140 (.iaload) 1 := ⟨by decide +kernel, rfl⟩
theorem dX7_worksOut_140 : dI cX7_worksOut 140 141 (.aload_n 0) 1 := ⟨by decide +kernel, rfl⟩
theorem dX7_worksOut_141 : dI cX7_worksOut 141 144 (.getfield 45) 3 := ⟨by decide +kernel, rfl⟩
theorem dX7_worksOut_144 : dI cX7_worksOut 144 145 (.iload_n 2) 1 := ⟨by decide +kernel, rfl⟩
theorem dX7_worksOut_145 : dI cX7_worksOut 145 146 (.iaload) 1 := ⟨by decide +kernel, rfl⟩
theorem dX7_worksOut_146 : decode cX7_worksOut 146 = .ok (.invokestatic 275, 3) := by decide +kernel
theorem dX7_worksOut_149 : dI cX7_worksOut 149 150 (.iastore) 1 := ⟨by decide +kernel, rfl⟩
theorem dX7_worksOut_150 : dI cX7_worksOut 150 153 (.iinc 4 1) 3 := ⟨by decide +kernel, rfl⟩
theorem dX7_worksOut_153 : decode cX7_worksOut 153 = .ok (.goto (-132), 3) := by decide +kernel
theorem dX7_worksOut_156 : dI cX7_worksOut 156 157 (.aload_n 0) 1 := ⟨by decide +kernel, rfl⟩
theorem dX7_worksOut_157 : dI cX7_worksOut 157 160 (.getfield 45) 3 := ⟨by decide +kernel, rfl⟩
theorem dX7_worksOut_160 : dI cX7_worksOut 160 161 (.iconst 0) 1 := ⟨by decide +kernel, rfl⟩
theorem dX7_worksOut_161 : dI cX7_worksOut 161 162 (.iaload) 1 := ⟨by decide +kernel, rfl⟩
theorem dX7_worksOut_162 : dI cX7_worksOut 162 163 (.ireturn) 1 := ⟨by decide +kernel, rfl⟩
def f_X7_worksOut_b150 (k21 : Nat → Int32 → Int32 → Int32 → Int32 → hS → Option (Int32 × hS)) (l0 : Nat) (l1 : Int32) (l2 : Int32) (l3 : Int32) (l4 : Int32) (s : hS) : Option (Int32 × hS) :=
  k21 l0 l1 l2 l3 (l4 + (1 : Int32)) s
theorem b_X7_worksOut_150 (E : jE) (k21 : Nat → Int32 → Int32 → Int32 → Int32 → hS → Option (Int32 × hS)) (h21 : ∀ (s : hS) (l0 : Nat) (l1 : Int32) (l2 : Int32) (l3 : Int32) (l4 : Int32) , Jo E M_X7_worksOut cvI 21 [(0, .ref l0), (1, .int l1), (2, .int l2), (3, .int l3), (4, .int l4)] [] s (k21 l0 l1 l2 l3 l4 s)) (s : hS) (l0 : Nat) (l1 : Int32) (l2 : Int32) (l3 : Int32) (l4 : Int32)  : Jo E M_X7_worksOut cvI 150 [(0, .ref l0), (1, .int l1), (2, .int l2), (3, .int l3), (4, .int l4)] [] s (f_X7_worksOut_b150 k21 l0 l1 l2 l3 l4 s) := by
  unfold f_X7_worksOut_b150
  refine Jo_iinc (v := (l4 + (1 : Int32))) (ls' := [(4, .int (l4 + (1 : Int32))), (0, .ref l0), (1, .int l1), (2, .int l2), (3, .int l3)]) 4 dX7_worksOut_150 rfl rfl (by decide) rfl ?_
  refine Jo_goto 21 dX7_worksOut_153 (by decide) ?_
  refine Jo_sub [1, 2, 3, 4, 0] rfl ?_
  exact h21 s l0 l1 l2 l3 (l4 + (1 : Int32))
def f_X7_worksOut_b116 (k21 : Nat → Int32 → Int32 → Int32 → Int32 → hS → Option (Int32 × hS)) (l0 : Nat) (l1 : Int32) (l2 : Int32) (l3 : Int32) (l4 : Int32) (t0 : Nat) (t1 : Int32) (t2 : Int32) (s : hS) : Option (Int32 × hS) :=
  (sI s t0 10 t1 t2).bind fun s1 =>
  f_X7_worksOut_b150 k21 l0 l1 l2 l3 l4 s1
theorem b_X7_worksOut_116 (E : jE) (k21 : Nat → Int32 → Int32 → Int32 → Int32 → hS → Option (Int32 × hS)) (h21 : ∀ (s : hS) (l0 : Nat) (l1 : Int32) (l2 : Int32) (l3 : Int32) (l4 : Int32) , Jo E M_X7_worksOut cvI 21 [(0, .ref l0), (1, .int l1), (2, .int l2), (3, .int l3), (4, .int l4)] [] s (k21 l0 l1 l2 l3 l4 s)) (s : hS) (l0 : Nat) (l1 : Int32) (l2 : Int32) (l3 : Int32) (l4 : Int32) (t0 : Nat) (t1 : Int32) (t2 : Int32) : Jo E M_X7_worksOut cvI 116 [(0, .ref l0), (1, .int l1), (2, .int l2), (3, .int l3), (4, .int l4)] [.int t2, .int t1, .ref t0] s (f_X7_worksOut_b116 k21 l0 l1 l2 l3 l4 t0 t1 t2 s) := by
  unfold f_X7_worksOut_b116
  refine Jo_iastore dX7_worksOut_116 (fun s1 => ?_)
  refine Jo_goto 150 dX7_worksOut_117 (by decide) ?_
  exact b_X7_worksOut_150 E k21 h21 s1 l0 l1 l2 l3 l4
def f_X7_worksOut_b79 (k21 : Nat → Int32 → Int32 → Int32 → Int32 → hS → Option (Int32 × hS)) (l0 : Nat) (l1 : Int32) (l2 : Int32) (l3 : Int32) (l4 : Int32) (t0 : Nat) (t1 : Int32) (t2 : Int32) (s : hS) : Option (Int32 × hS) :=
  (sI s t0 10 t1 t2).bind fun s1 =>
  f_X7_worksOut_b150 k21 l0 l1 (l2 + (1 : Int32)) l3 l4 s1
theorem b_X7_worksOut_79 (E : jE) (k21 : Nat → Int32 → Int32 → Int32 → Int32 → hS → Option (Int32 × hS)) (h21 : ∀ (s : hS) (l0 : Nat) (l1 : Int32) (l2 : Int32) (l3 : Int32) (l4 : Int32) , Jo E M_X7_worksOut cvI 21 [(0, .ref l0), (1, .int l1), (2, .int l2), (3, .int l3), (4, .int l4)] [] s (k21 l0 l1 l2 l3 l4 s)) (s : hS) (l0 : Nat) (l1 : Int32) (l2 : Int32) (l3 : Int32) (l4 : Int32) (t0 : Nat) (t1 : Int32) (t2 : Int32) : Jo E M_X7_worksOut cvI 79 [(0, .ref l0), (1, .int l1), (2, .int l2), (3, .int l3), (4, .int l4)] [.int t2, .int t1, .ref t0] s (f_X7_worksOut_b79 k21 l0 l1 l2 l3 l4 t0 t1 t2 s) := by
  unfold f_X7_worksOut_b79
  refine Jo_iastore dX7_worksOut_79 (fun s1 => ?_)
  refine Jo_iinc (v := (l2 + (1 : Int32))) (ls' := [(2, .int (l2 + (1 : Int32))), (0, .ref l0), (1, .int l1), (3, .int l3), (4, .int l4)]) 2 dX7_worksOut_80 rfl rfl (by decide) rfl ?_
  refine Jo_goto 150 dX7_worksOut_83 (by decide) ?_
  refine Jo_sub [1, 2, 0, 3, 4] rfl ?_
  exact b_X7_worksOut_150 E k21 h21 s1 l0 l1 (l2 + (1 : Int32)) l3 l4
def f_X7_worksOut_b21 (k21 : Nat → Int32 → Int32 → Int32 → Int32 → hS → Option (Int32 × hS)) (l0 : Nat) (l1 : Int32) (l2 : Int32) (l3 : Int32) (l4 : Int32) (s : hS) : Option (Int32 × hS) :=
  if l3 ≤ l4 then
    (gR s l0 7 22).bind fun a1 =>
    (aI s a1 10 (0 : Int32)).bind fun x2 =>
    some (x2, s)
  else
    (gR s l0 7 0).bind fun a3 =>
    (aI s a3 10 (((132 : Int32) + ((96 : Int32) * l1)) + l4)).bind fun x4 =>
    if x4 < 0 then
      if x4 = (-10 : Int32) then
        (gR s l0 7 22).bind fun a12 =>
        (gR s l0 7 22).bind fun a13 =>
        (aI s a13 10 (l2 - (1 : Int32))).bind fun x14 =>
        if x14 = 0 then
          f_X7_worksOut_b116 k21 l0 l1 l2 l3 l4 a12 (l2 - (1 : Int32)) (1 : Int32) s
        else
          f_X7_worksOut_b116 k21 l0 l1 l2 l3 l4 a12 (l2 - (1 : Int32)) (0 : Int32) s
      else
        (gR s l0 7 22).bind fun a5 =>
        (gR s l0 7 22).bind fun a6 =>
        (aI s a6 10 ((l2 + (-1 : Int32)) - (1 : Int32))).bind fun x7 =>
        (gR s l0 7 22).bind fun a8 =>
        (aI s a8 10 (l2 + (-1 : Int32))).bind fun x9 =>
        (f_X7_two s x4 x7 x9).bind fun p10 =>
        (sI p10.2 a5 10 ((l2 + (-1 : Int32)) - (1 : Int32)) p10.1).bind fun s11 =>
        f_X7_worksOut_b150 k21 l0 l1 (l2 + (-1 : Int32)) l3 l4 s11
    else
      (gR s l0 7 22).bind fun a15 =>
      if (10000 : Int32) ≤ x4 then
        (gR s l0 7 23).bind fun a16 =>
        (aI s a16 10 (x4 - (10000 : Int32))).bind fun x17 =>
        f_X7_worksOut_b79 k21 l0 l1 l2 l3 l4 a15 l2 x17 s
      else
        f_X7_worksOut_b79 k21 l0 l1 l2 l3 l4 a15 l2 x4 s
theorem b_X7_worksOut_21 (E : jE) (k21 : Nat → Int32 → Int32 → Int32 → Int32 → hS → Option (Int32 × hS)) (h21 : ∀ (s : hS) (l0 : Nat) (l1 : Int32) (l2 : Int32) (l3 : Int32) (l4 : Int32) , Jo E M_X7_worksOut cvI 21 [(0, .ref l0), (1, .int l1), (2, .int l2), (3, .int l3), (4, .int l4)] [] s (k21 l0 l1 l2 l3 l4 s)) (s : hS) (l0 : Nat) (l1 : Int32) (l2 : Int32) (l3 : Int32) (l4 : Int32)  : Jo E M_X7_worksOut cvI 21 [(0, .ref l0), (1, .int l1), (2, .int l2), (3, .int l3), (4, .int l4)] [] s (f_X7_worksOut_b21 k21 l0 l1 l2 l3 l4 s) := by
  unfold f_X7_worksOut_b21
  refine Jo_iload 4 dX7_worksOut_21 rfl ?_
  refine Jo_iloadn 3 dX7_worksOut_23 rfl rfl ?_
  refine Jo_icmp_ge 156 dX7_worksOut_24 (by decide) rfl ?_ ?_
  · refine Jo_aloadn 0 dX7_worksOut_156 rfl rfl ?_
    refine Jo_getR fF_7_22 fR_7_22 dX7_worksOut_157 w_609 (fun a1 => ?_)
    refine Jo_iconst (v := (0 : Int32)) dX7_worksOut_160 (by decide) ?_
    refine Jo_iaload dX7_worksOut_161 (fun x2 => ?_)
    exact Jo_iret rfl dX7_worksOut_162
  · refine Jo_aloadn 0 dX7_worksOut_27 rfl rfl ?_
    refine Jo_getR fF_7_0 fR_7_0 dX7_worksOut_28 w_598 (fun a3 => ?_)
    refine Jo_sipush (v := (132 : Int32)) dX7_worksOut_31 (by decide) ?_
    refine Jo_bipush (v := (96 : Int32)) dX7_worksOut_34 (by decide) ?_
    refine Jo_iloadn 1 dX7_worksOut_36 rfl rfl ?_
    refine Jo_imul dX7_worksOut_37 ?_
    refine Jo_iadd dX7_worksOut_38 ?_
    refine Jo_iload 4 dX7_worksOut_39 rfl ?_
    refine Jo_iadd dX7_worksOut_41 ?_
    refine Jo_iaload dX7_worksOut_42 (fun x4 => ?_)
    refine Jo_istore (ls' := [(5, .int x4), (0, .ref l0), (1, .int l1), (2, .int l2), (3, .int l3), (4, .int l4)]) dX7_worksOut_43 (by decide) rfl ?_
    refine Jo_iload 0 dX7_worksOut_45 rfl ?_
    refine Jo_if_lt 86 dX7_worksOut_47 (by decide) rfl ?_ ?_
    · refine Jo_iload 0 dX7_worksOut_86 rfl ?_
      refine Jo_bipush (v := (-10 : Int32)) dX7_worksOut_88 (by decide) ?_
      refine Jo_icmp_ne 120 dX7_worksOut_90 (by decide) rfl ?_ ?_
      · refine Jo_aloadn 1 dX7_worksOut_93 rfl rfl ?_
        refine Jo_getR fF_7_22 fR_7_22 dX7_worksOut_94 w_609 (fun a12 => ?_)
        refine Jo_iloadn 3 dX7_worksOut_97 rfl rfl ?_
        refine Jo_iconst (v := (1 : Int32)) dX7_worksOut_98 (by decide) ?_
        refine Jo_isub dX7_worksOut_99 ?_
        refine Jo_aloadn 1 dX7_worksOut_100 rfl rfl ?_
        refine Jo_getR fF_7_22 fR_7_22 dX7_worksOut_101 w_609 (fun a13 => ?_)
        refine Jo_iloadn 3 dX7_worksOut_104 rfl rfl ?_
        refine Jo_iconst (v := (1 : Int32)) dX7_worksOut_105 (by decide) ?_
        refine Jo_isub dX7_worksOut_106 ?_
        refine Jo_iaload dX7_worksOut_107 (fun x14 => ?_)
        refine Jo_if_ne 115 dX7_worksOut_108 (by decide) rfl ?_ ?_
        · refine Jo_iconst (v := (1 : Int32)) dX7_worksOut_111 (by decide) ?_
          refine Jo_goto 116 dX7_worksOut_112 (by decide) ?_
          refine Jo_sub [1, 2, 3, 4, 5] rfl ?_
          exact b_X7_worksOut_116 E k21 h21 s l0 l1 l2 l3 l4 a12 (l2 - (1 : Int32)) (1 : Int32)
        · refine Jo_iconst (v := (0 : Int32)) dX7_worksOut_115 (by decide) ?_
          refine Jo_sub [1, 2, 3, 4, 5] rfl ?_
          exact b_X7_worksOut_116 E k21 h21 s l0 l1 l2 l3 l4 a12 (l2 - (1 : Int32)) (0 : Int32)
      · refine Jo_iinc (v := (l2 + (-1 : Int32))) (ls' := [(2, .int (l2 + (-1 : Int32))), (5, .int x4), (0, .ref l0), (1, .int l1), (3, .int l3), (4, .int l4)]) 3 dX7_worksOut_120 rfl rfl (by decide) rfl ?_
        refine Jo_aloadn 2 dX7_worksOut_123 rfl rfl ?_
        refine Jo_getR fF_7_22 fR_7_22 dX7_worksOut_124 w_609 (fun a5 => ?_)
        refine Jo_iloadn 0 dX7_worksOut_127 rfl rfl ?_
        refine Jo_iconst (v := (1 : Int32)) dX7_worksOut_128 (by decide) ?_
        refine Jo_isub dX7_worksOut_129 ?_
        refine Jo_iload 1 dX7_worksOut_130 rfl ?_
        refine Jo_aloadn 2 dX7_worksOut_132 rfl rfl ?_
        refine Jo_getR fF_7_22 fR_7_22 dX7_worksOut_133 w_609 (fun a6 => ?_)
        refine Jo_iloadn 0 dX7_worksOut_136 rfl rfl ?_
        refine Jo_iconst (v := (1 : Int32)) dX7_worksOut_137 (by decide) ?_
        refine Jo_isub dX7_worksOut_138 ?_
        refine Jo_iaload dX7_worksOut_139 (fun x7 => ?_)
        refine Jo_aloadn 2 dX7_worksOut_140 rfl rfl ?_
        refine Jo_getR fF_7_22 fR_7_22 dX7_worksOut_141 w_609 (fun a8 => ?_)
        refine Jo_iloadn 0 dX7_worksOut_144 rfl rfl ?_
        refine Jo_iaload dX7_worksOut_145 (fun x9 => ?_)
        refine Jo_callSi (rest := [.int ((l2 + (-1 : Int32)) - (1 : Int32)), .ref a5]) [.int x4, .int x7, .int x9] yF_X7_two yS_X7_two w_721 rfl rfl ⟨Nat.le_of_ble_eq_true rfl, Nat.le_of_ble_eq_true rfl, Nat.le_of_ble_eq_true rfl⟩ dX7_worksOut_146 rfl (K_X7_two E s x4 x7 x9) (fun p10 => ?_)
        refine Jo_iastore dX7_worksOut_149 (fun s11 => ?_)
        refine Jo_sub [2, 3, 0, 4, 5] rfl ?_
        exact b_X7_worksOut_150 E k21 h21 s11 l0 l1 (l2 + (-1 : Int32)) l3 l4
    · refine Jo_aloadn 1 dX7_worksOut_50 rfl rfl ?_
      refine Jo_getR fF_7_22 fR_7_22 dX7_worksOut_51 w_609 (fun a15 => ?_)
      refine Jo_iloadn 3 dX7_worksOut_54 rfl rfl ?_
      refine Jo_iload 0 dX7_worksOut_55 rfl ?_
      refine Jo_sipush (v := (10000 : Int32)) dX7_worksOut_57 (by decide) ?_
      refine Jo_icmp_ge 68 dX7_worksOut_60 (by decide) rfl ?_ ?_
      · refine Jo_aloadn 1 dX7_worksOut_68 rfl rfl ?_
        refine Jo_getR fF_7_23 fR_7_23 dX7_worksOut_69 w_608 (fun a16 => ?_)
        refine Jo_iload 0 dX7_worksOut_72 rfl ?_
        refine Jo_sipush (v := (10000 : Int32)) dX7_worksOut_74 (by decide) ?_
        refine Jo_isub dX7_worksOut_77 ?_
        refine Jo_iaload dX7_worksOut_78 (fun x17 => ?_)
        refine Jo_sub [1, 2, 3, 4, 5] rfl ?_
        exact b_X7_worksOut_79 E k21 h21 s l0 l1 l2 l3 l4 a15 l2 x17
      · refine Jo_iload 0 dX7_worksOut_63 rfl ?_
        refine Jo_goto 79 dX7_worksOut_65 (by decide) ?_
        refine Jo_sub [1, 2, 3, 4, 5] rfl ?_
        exact b_X7_worksOut_79 E k21 h21 s l0 l1 l2 l3 l4 a15 l2 x4
theorem e_X7_worksOut_21 (E : jE)  (n : Nat) : ∀ (s : hS) (l0 : Nat) (l1 : Int32) (l2 : Int32) (l3 : Int32) (l4 : Int32) , Jo E M_X7_worksOut cvI 21 [(0, .ref l0), (1, .int l1), (2, .int l2), (3, .int l3), (4, .int l4)] [] s ((jL f_X7_worksOut_b21 (fun _ _ _ _ _ _ => none) n) l0 l1 l2 l3 l4 s) :=
  jL_ind (P := fun f => ∀ (s : hS) (l0 : Nat) (l1 : Int32) (l2 : Int32) (l3 : Int32) (l4 : Int32) , Jo E M_X7_worksOut cvI 21 [(0, .ref l0), (1, .int l1), (2, .int l2), (3, .int l3), (4, .int l4)] [] s (f l0 l1 l2 l3 l4 s)) (fun _ _ _ _ _ _ => Jo_none) (fun b hb s l0 l1 l2 l3 l4 => b_X7_worksOut_21 E  b hb s l0 l1 l2 l3 l4) n
def f_X7_worksOut (s : hS) (a0 : Nat) (i1 : Int32) : Option (Int32 × hS) :=
  (gR s a0 7 0).bind fun a1 =>
  (aI s a1 10 ((104 : Int32) + ((2 : Int32) * i1))).bind fun x2 =>
  if (1000 : Int32) = 0 then none else
  nmv ((x2 - x2 / (1000 : Int32) * (1000 : Int32))) fun x3 =>
  jL f_X7_worksOut_b21 (fun _ _ _ _ _ _ => none) jF a0 i1 (0 : Int32) x3 (0 : Int32) s
theorem b_X7_worksOut_in (E : jE)  (s : hS) (a0 : Nat) (i1 : Int32)  : Jo E M_X7_worksOut cvI 0 [(0, .ref a0), (1, .int i1)] [] s (f_X7_worksOut s a0 i1) := by
  unfold f_X7_worksOut
  refine Jo_iconst (v := (0 : Int32)) dX7_worksOut_0 (by decide) ?_
  refine Jo_istoren (ls' := [(2, .int (0 : Int32)), (0, .ref a0), (1, .int i1)]) dX7_worksOut_1 rfl (by decide) rfl ?_
  refine Jo_aloadn 1 dX7_worksOut_2 rfl rfl ?_
  refine Jo_getR fF_7_0 fR_7_0 dX7_worksOut_3 w_598 (fun a1 => ?_)
  refine Jo_bipush (v := (104 : Int32)) dX7_worksOut_6 (by decide) ?_
  refine Jo_iconst (v := (2 : Int32)) dX7_worksOut_8 (by decide) ?_
  refine Jo_iloadn 2 dX7_worksOut_9 rfl rfl ?_
  refine Jo_imul dX7_worksOut_10 ?_
  refine Jo_iadd dX7_worksOut_11 ?_
  refine Jo_iaload dX7_worksOut_12 (fun x2 => ?_)
  refine Jo_sipush (v := (1000 : Int32)) dX7_worksOut_13 (by decide) ?_
  refine Jo_irem dX7_worksOut_16 ?_
  refine Jo_nm (fun x3 => ?_)
  refine Jo_istoren (ls' := [(3, .int x3), (2, .int (0 : Int32)), (0, .ref a0), (1, .int i1)]) dX7_worksOut_17 rfl (by decide) rfl ?_
  refine Jo_iconst (v := (0 : Int32)) dX7_worksOut_18 (by decide) ?_
  refine Jo_istore (ls' := [(4, .int (0 : Int32)), (3, .int x3), (2, .int (0 : Int32)), (0, .ref a0), (1, .int i1)]) dX7_worksOut_19 (by decide) rfl ?_
  refine Jo_sub [3, 4, 2, 1, 0] rfl ?_
  exact e_X7_worksOut_21 E jF s a0 i1 (0 : Int32) x3 (0 : Int32)
theorem K_X7_worksOut (E : jE) (s : hS) (a0 : Nat) (i1 : Int32) : jK E yX7_worksOut M_X7_worksOut cvI [.ref a0, .int i1] s (f_X7_worksOut s a0 i1) := jK_of ⟨by decide, rfl, rfl⟩ (Nat.le_of_ble_eq_true rfl) (b_X7_worksOut_in E s a0 i1)
/-! HeronTalkModel.priceOf(II)I -/
abbrev M_X7_priceOf : jM := (RX7, cX7_priceOf, 5, (some .int), "priceOf", 3, 66)
theorem yF_X7_priceOf : yF yX7_priceOf M_X7_priceOf 2 := ⟨w_729, w_624, by decide +kernel⟩
theorem yV_X7_priceOf : Cond.instanceMethod yX7_priceOf ∈ tbG ∧ Cond.selects yX7_priceOf.cls yX7_priceOf yX7_priceOf ∈ tbG := ⟨w_730, w_731⟩
theorem dX7_priceOf_0 : dI cX7_priceOf 0 1 (.aload_n 0) 1 := ⟨by decide +kernel, rfl⟩
theorem dX7_priceOf_1 : dI cX7_priceOf 1 2 (.iload_n 2) 1 := ⟨by decide +kernel, rfl⟩
theorem dX7_priceOf_2 : decode cX7_priceOf 2 = .ok (.invokevirtual 113, 3) := by decide +kernel
theorem dX7_priceOf_5 : dI cX7_priceOf 5 6 (.iload_n 1) 1 := ⟨by decide +kernel, rfl⟩
theorem dX7_priceOf_6 : dI cX7_priceOf 6 7 (.ishr) 1 := ⟨by decide +kernel, rfl⟩
theorem dX7_priceOf_7 : dI cX7_priceOf 7 8 (.iconst 1) 1 := ⟨by decide +kernel, rfl⟩
theorem dX7_priceOf_8 : dI cX7_priceOf 8 9 (.iand) 1 := ⟨by decide +kernel, rfl⟩
theorem dX7_priceOf_9 : dI cX7_priceOf 9 10 (.istore_n 3) 1 := ⟨by decide +kernel, rfl⟩
theorem dX7_priceOf_10 : dI cX7_priceOf 10 11 (.aload_n 0) 1 := ⟨by decide +kernel, rfl⟩
theorem dX7_priceOf_11 : dI cX7_priceOf 11 12 (.iconst 0) 1 := ⟨by decide +kernel, rfl⟩
theorem dX7_priceOf_12 : decode cX7_priceOf 12 = .ok (.invokevirtual 129, 3) := by decide +kernel
theorem dX7_priceOf_15 : dI cX7_priceOf 15 17 (.istore 4) 2 := ⟨by decide +kernel, rfl⟩
theorem dX7_priceOf_17 : dI cX7_priceOf 17 18 (.aload_n 0) 1 := ⟨by decide +kernel, rfl⟩
theorem dX7_priceOf_18 : dI cX7_priceOf 18 21 (.getfield 48) 3 := ⟨by decide +kernel, rfl⟩
theorem dX7_priceOf_21 : dI cX7_priceOf 21 22 (.iconst 0) 1 := ⟨by decide +kernel, rfl⟩
theorem dX7_priceOf_22 : dI cX7_priceOf 22 23 (.aload_n 0) 1 := ⟨by decide +kernel, rfl⟩
theorem dX7_priceOf_23 : dI cX7_priceOf 23 24 (.iload_n 1) 1 := ⟨by decide +kernel, rfl⟩
theorem dX7_priceOf_24 : decode cX7_priceOf 24 = .ok (.invokevirtual 107, 3) := by decide +kernel
theorem dX7_priceOf_27 : dI cX7_priceOf 27 28 (.iastore) 1 := ⟨by decide +kernel, rfl⟩
theorem dX7_priceOf_28 : dI cX7_priceOf 28 29 (.aload_n 0) 1 := ⟨by decide +kernel, rfl⟩
theorem dX7_priceOf_29 : dI cX7_priceOf 29 32 (.getfield 48) 3 := ⟨by decide +kernel, rfl⟩
theorem dX7_priceOf_32 : dI cX7_priceOf 32 33 (.iconst 1) 1 := ⟨by decide +kernel, rfl⟩
theorem dX7_priceOf_33 : dI cX7_priceOf 33 34 (.iload_n 3) 1 := ⟨by decide +kernel, rfl⟩
theorem dX7_priceOf_34 : dI cX7_priceOf 34 35 (.iastore) 1 := ⟨by decide +kernel, rfl⟩
theorem dX7_priceOf_35 : dI cX7_priceOf 35 36 (.aload_n 0) 1 := ⟨by decide +kernel, rfl⟩
theorem dX7_priceOf_36 : dI cX7_priceOf 36 39 (.getfield 48) 3 := ⟨by decide +kernel, rfl⟩
theorem dX7_priceOf_39 : dI cX7_priceOf 39 40 (.iconst 2) 1 := ⟨by decide +kernel, rfl⟩
theorem dX7_priceOf_40 : dI cX7_priceOf 40 41 (.aload_n 0) 1 := ⟨by decide +kernel, rfl⟩
theorem dX7_priceOf_41 : dI cX7_priceOf 41 42 (.iload_n 1) 1 := ⟨by decide +kernel, rfl⟩
theorem dX7_priceOf_42 : decode cX7_priceOf 42 = .ok (.invokevirtual 100, 3) := by decide +kernel
theorem dX7_priceOf_45 : decode cX7_priceOf 45 = .ok (.invokestatic 132, 3) := by decide +kernel
theorem dX7_priceOf_48 : dI cX7_priceOf 48 49 (.iastore) 1 := ⟨by decide +kernel, rfl⟩
theorem dX7_priceOf_49 : dI cX7_priceOf 49 51 (.iload 4) 2 := ⟨by decide +kernel, rfl⟩
theorem dX7_priceOf_51 : decode cX7_priceOf 51 = .ok (.ifCond .ge 16, 3) := by decide +kernel
theorem dX7_priceOf_54 : dI cX7_priceOf 54 55 (.aload_n 0) 1 := ⟨by decide +kernel, rfl⟩
theorem dX7_priceOf_55 : dI cX7_priceOf 55 56 (.iload_n 1) 1 := ⟨by decide +kernel, rfl⟩
theorem dX7_priceOf_56 : decode cX7_priceOf 56 = .ok (.invokevirtual 107, 3) := by decide +kernel
theorem dX7_priceOf_59 : dI cX7_priceOf 59 61 (.bipush 100) 2 := ⟨by decide +kernel, rfl⟩
theorem dX7_priceOf_61 : dI cX7_priceOf 61 62 (.iload_n 3) 1 := ⟨by decide +kernel, rfl⟩
theorem dX7_priceOf_62 : dI cX7_priceOf 62 63 (.imul) 1 := ⟨by decide +kernel, rfl⟩
theorem dX7_priceOf_63 : dI cX7_priceOf 63 64 (.iadd) 1 := ⟨by decide +kernel, rfl⟩
theorem dX7_priceOf_64 : decode cX7_priceOf 64 = .ok (.goto 16, 3) := by decide +kernel
theorem dX7_priceOf_67 : dI cX7_priceOf 67 68 (.aload_n 0) 1 := ⟨by decide +kernel, rfl⟩
theorem dX7_priceOf_68 : dI cX7_priceOf 68 70 (.iload 4) 2 := ⟨by decide +kernel, rfl⟩
theorem dX7_priceOf_70 : decode cX7_priceOf 70 = .ok (.invokevirtual 135, 3) := by decide +kernel
theorem dX7_priceOf_73 : dI cX7_priceOf 73 74 (.iconst 0) 1 := ⟨by decide +kernel, rfl⟩
theorem dX7_priceOf_74 : dI cX7_priceOf 74 77 (.sipush 999) 3 := ⟨by decide +kernel, rfl⟩
theorem dX7_priceOf_77 : decode cX7_priceOf 77 = .ok (.invokestatic 138, 3) := by decide +kernel
theorem dX7_priceOf_80 : dI cX7_priceOf 80 81 (.ireturn) 1 := ⟨by decide +kernel, rfl⟩
def f_X7_priceOf (s : hS) (a0 : Nat) (i1 : Int32) (i2 : Int32) : Option (Int32 × hS) :=
  (cV s a0 7 (f_X7_neededBy s a0 i2)).bind fun p1 =>
  nmv (((p1.1 >>> (i1 &&& 31)) &&& (1 : Int32))) fun x2 =>
  (cV p1.2 a0 7 (f_X7_counts p1.2 a0 (0 : Int32))).bind fun p3 =>
  (gR p3.2 a0 7 23).bind fun a4 =>
  (cV p3.2 a0 7 (f_X7_worthOf p3.2 a0 i1)).bind fun p5 =>
  (sI p5.2 a4 10 (0 : Int32) p5.1).bind fun s6 =>
  (gR s6 a0 7 23).bind fun a7 =>
  (sI s6 a7 10 (1 : Int32) x2).bind fun s8 =>
  (gR s8 a0 7 23).bind fun a9 =>
  (cV s8 a0 7 (f_X7_knowers s8 a0 i1)).bind fun p10 =>
  (f_X7_bitsOf p10.2 p10.1).bind fun p11 =>
  (sI p11.2 a9 10 (2 : Int32) p11.1).bind fun s12 =>
  if 0 ≤ p3.1 then
    (cV s12 a0 7 (f_X7_worksOut s12 a0 p3.1)).bind fun p13 =>
    (f_X7_within p13.2 p13.1 (0 : Int32) (999 : Int32)).bind fun p14 =>
    some (p14.1, p14.2)
  else
    (cV s12 a0 7 (f_X7_worthOf s12 a0 i1)).bind fun p15 =>
    some ((p15.1 + ((100 : Int32) * x2)), p15.2)
theorem b_X7_priceOf_in (E : jE)  (s : hS) (a0 : Nat) (i1 : Int32) (i2 : Int32)  : Jo E M_X7_priceOf cvI 0 [(0, .ref a0), (1, .int i1), (2, .int i2)] [] s (f_X7_priceOf s a0 i1 i2) := by
  unfold f_X7_priceOf
  refine Jo_aloadn 0 dX7_priceOf_0 rfl rfl ?_
  refine Jo_iloadn 2 dX7_priceOf_1 rfl rfl ?_
  refine Jo_callVi (a := a0) (rest := []) [.int i2] cc_7 yF_X7_neededBy yV_X7_neededBy w_701 rfl rfl ⟨Nat.le_of_ble_eq_true rfl, Nat.le_of_ble_eq_true rfl, Nat.le_of_ble_eq_true rfl⟩ dX7_priceOf_2 rfl (K_X7_neededBy E s a0 i2) (fun p1 => ?_)
  refine Jo_iloadn 1 dX7_priceOf_5 rfl rfl ?_
  refine Jo_ishr dX7_priceOf_6 ?_
  refine Jo_iconst (v := (1 : Int32)) dX7_priceOf_7 (by decide) ?_
  refine Jo_iand dX7_priceOf_8 ?_
  refine Jo_nm (fun x2 => ?_)
  refine Jo_istoren (ls' := [(3, .int x2), (0, .ref a0), (1, .int i1), (2, .int i2)]) dX7_priceOf_9 rfl (by decide) rfl ?_
  refine Jo_aloadn 1 dX7_priceOf_10 rfl rfl ?_
  refine Jo_iconst (v := (0 : Int32)) dX7_priceOf_11 (by decide) ?_
  refine Jo_callVi (a := a0) (rest := []) [.int (0 : Int32)] cc_7 yF_X7_counts yV_X7_counts w_728 rfl rfl ⟨Nat.le_of_ble_eq_true rfl, Nat.le_of_ble_eq_true rfl, Nat.le_of_ble_eq_true rfl⟩ dX7_priceOf_12 rfl (K_X7_counts E p1.2 a0 (0 : Int32)) (fun p3 => ?_)
  refine Jo_istore (ls' := [(4, .int p3.1), (3, .int x2), (0, .ref a0), (1, .int i1), (2, .int i2)]) dX7_priceOf_15 (by decide) rfl ?_
  refine Jo_aloadn 2 dX7_priceOf_17 rfl rfl ?_
  refine Jo_getR fF_7_23 fR_7_23 dX7_priceOf_18 w_608 (fun a4 => ?_)
  refine Jo_iconst (v := (0 : Int32)) dX7_priceOf_21 (by decide) ?_
  refine Jo_aloadn 2 dX7_priceOf_22 rfl rfl ?_
  refine Jo_iloadn 3 dX7_priceOf_23 rfl rfl ?_
  refine Jo_callVi (a := a0) (rest := [.int (0 : Int32), .ref a4]) [.int i1] cc_7 yF_X7_worthOf yV_X7_worthOf w_697 rfl rfl ⟨Nat.le_of_ble_eq_true rfl, Nat.le_of_ble_eq_true rfl, Nat.le_of_ble_eq_true rfl⟩ dX7_priceOf_24 rfl (K_X7_worthOf E p3.2 a0 i1) (fun p5 => ?_)
  refine Jo_iastore dX7_priceOf_27 (fun s6 => ?_)
  refine Jo_aloadn 2 dX7_priceOf_28 rfl rfl ?_
  refine Jo_getR fF_7_23 fR_7_23 dX7_priceOf_29 w_608 (fun a7 => ?_)
  refine Jo_iconst (v := (1 : Int32)) dX7_priceOf_32 (by decide) ?_
  refine Jo_iloadn 1 dX7_priceOf_33 rfl rfl ?_
  refine Jo_iastore dX7_priceOf_34 (fun s8 => ?_)
  refine Jo_aloadn 2 dX7_priceOf_35 rfl rfl ?_
  refine Jo_getR fF_7_23 fR_7_23 dX7_priceOf_36 w_608 (fun a9 => ?_)
  refine Jo_iconst (v := (2 : Int32)) dX7_priceOf_39 (by decide) ?_
  refine Jo_aloadn 2 dX7_priceOf_40 rfl rfl ?_
  refine Jo_iloadn 3 dX7_priceOf_41 rfl rfl ?_
  refine Jo_callVi (a := a0) (rest := [.int (2 : Int32), .ref a9]) [.int i1] cc_7 yF_X7_knowers yV_X7_knowers w_681 rfl rfl ⟨Nat.le_of_ble_eq_true rfl, Nat.le_of_ble_eq_true rfl, Nat.le_of_ble_eq_true rfl⟩ dX7_priceOf_42 rfl (K_X7_knowers E s8 a0 i1) (fun p10 => ?_)
  refine Jo_callSi (rest := [.int (2 : Int32), .ref a9]) [.int p10.1] yF_X7_bitsOf yS_X7_bitsOf w_727 rfl rfl ⟨Nat.le_of_ble_eq_true rfl, Nat.le_of_ble_eq_true rfl, Nat.le_of_ble_eq_true rfl⟩ dX7_priceOf_45 rfl (K_X7_bitsOf E p10.2 p10.1) (fun p11 => ?_)
  refine Jo_iastore dX7_priceOf_48 (fun s12 => ?_)
  refine Jo_iload 0 dX7_priceOf_49 rfl ?_
  refine Jo_if_ge 67 dX7_priceOf_51 (by decide) rfl ?_ ?_
  · refine Jo_aloadn 2 dX7_priceOf_67 rfl rfl ?_
    refine Jo_iload 0 dX7_priceOf_68 rfl ?_
    refine Jo_callVi (a := a0) (rest := []) [.int p3.1] cc_7 yF_X7_worksOut yV_X7_worksOut w_726 rfl rfl ⟨Nat.le_of_ble_eq_true rfl, Nat.le_of_ble_eq_true rfl, Nat.le_of_ble_eq_true rfl⟩ dX7_priceOf_70 rfl (K_X7_worksOut E s12 a0 p3.1) (fun p13 => ?_)
    refine Jo_iconst (v := (0 : Int32)) dX7_priceOf_73 (by decide) ?_
    refine Jo_sipush (v := (999 : Int32)) dX7_priceOf_74 (by decide) ?_
    refine Jo_callSi (rest := []) [.int p13.1, .int (0 : Int32), .int (999 : Int32)] yF_X7_within yS_X7_within w_725 rfl rfl ⟨Nat.le_of_ble_eq_true rfl, Nat.le_of_ble_eq_true rfl, Nat.le_of_ble_eq_true rfl⟩ dX7_priceOf_77 rfl (K_X7_within E p13.2 p13.1 (0 : Int32) (999 : Int32)) (fun p14 => ?_)
    exact Jo_iret rfl dX7_priceOf_80
  · refine Jo_aloadn 2 dX7_priceOf_54 rfl rfl ?_
    refine Jo_iloadn 3 dX7_priceOf_55 rfl rfl ?_
    refine Jo_callVi (a := a0) (rest := []) [.int i1] cc_7 yF_X7_worthOf yV_X7_worthOf w_697 rfl rfl ⟨Nat.le_of_ble_eq_true rfl, Nat.le_of_ble_eq_true rfl, Nat.le_of_ble_eq_true rfl⟩ dX7_priceOf_56 rfl (K_X7_worthOf E s12 a0 i1) (fun p15 => ?_)
    refine Jo_bipush (v := (100 : Int32)) dX7_priceOf_59 (by decide) ?_
    refine Jo_iloadn 1 dX7_priceOf_61 rfl rfl ?_
    refine Jo_imul dX7_priceOf_62 ?_
    refine Jo_iadd dX7_priceOf_63 ?_
    refine Jo_goto 80 dX7_priceOf_64 (by decide) ?_
    exact Jo_iret rfl dX7_priceOf_80
theorem K_X7_priceOf (E : jE) (s : hS) (a0 : Nat) (i1 : Int32) (i2 : Int32) : jK E yX7_priceOf M_X7_priceOf cvI [.ref a0, .int i1, .int i2] s (f_X7_priceOf s a0 i1 i2) := jK_of ⟨by decide, rfl, rfl⟩ (Nat.le_of_ble_eq_true rfl) (b_X7_priceOf_in E s a0 i1 i2)
/-! HeronTalkModel.price(II)I -/
abbrev M_X7_price : jM := (RX7, cX7_price, 3, (some .int), "price", 4, 90)
theorem yF_X7_price : yF yX7_price M_X7_price 2 := ⟨w_733, w_624, by decide +kernel⟩
theorem yV_X7_price : Cond.instanceMethod yX7_price ∈ tbG ∧ Cond.selects yX7_price.cls yX7_price yX7_price ∈ tbG := ⟨w_734, w_735⟩
theorem dX7_price_0 : dI cX7_price 0 1 (.aload_n 0) 1 := ⟨by decide +kernel, rfl⟩
theorem dX7_price_1 : dI cX7_price 1 2 (.iload_n 1) 1 := ⟨by decide +kernel, rfl⟩
theorem dX7_price_2 : decode cX7_price 2 = .ok (.invokevirtual 93, 3) := by decide +kernel
theorem dX7_price_5 : decode cX7_price 5 = .ok (.ifCond .eq 20, 3) := by decide +kernel
theorem dX7_price_8 : dI cX7_price 8 9 (.aload_n 0) 1 := ⟨by decide +kernel, rfl⟩
theorem dX7_price_9 : dI cX7_price 9 10 (.iload_n 2) 1 := ⟨by decide +kernel, rfl⟩
theorem dX7_price_10 : decode cX7_price 10 = .ok (.invokevirtual 110, 3) := by decide +kernel
theorem dX7_price_13 : decode cX7_price 13 = .ok (.ifCond .eq 12, 3) := by decide +kernel
theorem dX7_price_16 : dI cX7_price 16 17 (.aload_n 0) 1 := ⟨by decide +kernel, rfl⟩
theorem dX7_price_17 : dI cX7_price 17 18 (.iload_n 1) 1 := ⟨by decide +kernel, rfl⟩
theorem dX7_price_18 : dI cX7_price 18 19 (.iload_n 2) 1 := ⟨by decide +kernel, rfl⟩
theorem dX7_price_19 : decode cX7_price 19 = .ok (.invokevirtual 142, 3) := by decide +kernel
theorem dX7_price_22 : decode cX7_price 22 = .ok (.goto 5, 3) := by decide +kernel
theorem dX7_price_25 : dI cX7_price 25 27 (.ldc 87) 2 := ⟨by decide +kernel, rfl⟩
theorem dX7_price_27 : dI cX7_price 27 28 (.ireturn) 1 := ⟨by decide +kernel, rfl⟩
def f_X7_price (s : hS) (a0 : Nat) (i1 : Int32) (i2 : Int32) : Option (Int32 × hS) :=
  (cV s a0 7 (f_X7_isFact s a0 i1)).bind fun p1 =>
  if p1.1 = 0 then
    some ((-1000000001 : Int32), p1.2)
  else
    (cV p1.2 a0 7 (f_X7_isPerson p1.2 a0 i2)).bind fun p2 =>
    if p2.1 = 0 then
      some ((-1000000001 : Int32), p2.2)
    else
      (cV p2.2 a0 7 (f_X7_priceOf p2.2 a0 i1 i2)).bind fun p3 =>
      some (p3.1, p3.2)
theorem b_X7_price_in (E : jE)  (s : hS) (a0 : Nat) (i1 : Int32) (i2 : Int32)  : Jo E M_X7_price cvI 0 [(0, .ref a0), (1, .int i1), (2, .int i2)] [] s (f_X7_price s a0 i1 i2) := by
  unfold f_X7_price
  refine Jo_aloadn 0 dX7_price_0 rfl rfl ?_
  refine Jo_iloadn 1 dX7_price_1 rfl rfl ?_
  refine Jo_callVi (a := a0) (rest := []) [.int i1] cc_7 yF_X7_isFact yV_X7_isFact w_683 rfl rfl ⟨Nat.le_of_ble_eq_true rfl, Nat.le_of_ble_eq_true rfl, Nat.le_of_ble_eq_true rfl⟩ dX7_price_2 rfl (K_X7_isFact E s a0 i1) (fun p1 => ?_)
  refine Jo_if_eq 25 dX7_price_5 (by decide) rfl ?_ ?_
  · refine Jo_ldc dX7_price_25 w_673 ?_
    exact Jo_iret rfl dX7_price_27
  · refine Jo_aloadn 0 dX7_price_8 rfl rfl ?_
    refine Jo_iloadn 2 dX7_price_9 rfl rfl ?_
    refine Jo_callVi (a := a0) (rest := []) [.int i2] cc_7 yF_X7_isPerson yV_X7_isPerson w_704 rfl rfl ⟨Nat.le_of_ble_eq_true rfl, Nat.le_of_ble_eq_true rfl, Nat.le_of_ble_eq_true rfl⟩ dX7_price_10 rfl (K_X7_isPerson E p1.2 a0 i2) (fun p2 => ?_)
    refine Jo_if_eq 25 dX7_price_13 (by decide) rfl ?_ ?_
    · refine Jo_ldc dX7_price_25 w_673 ?_
      exact Jo_iret rfl dX7_price_27
    · refine Jo_aloadn 0 dX7_price_16 rfl rfl ?_
      refine Jo_iloadn 1 dX7_price_17 rfl rfl ?_
      refine Jo_iloadn 2 dX7_price_18 rfl rfl ?_
      refine Jo_callVi (a := a0) (rest := []) [.int i1, .int i2] cc_7 yF_X7_priceOf yV_X7_priceOf w_732 rfl rfl ⟨Nat.le_of_ble_eq_true rfl, Nat.le_of_ble_eq_true rfl, Nat.le_of_ble_eq_true rfl⟩ dX7_price_19 rfl (K_X7_priceOf E p2.2 a0 i1 i2) (fun p3 => ?_)
      refine Jo_goto 27 dX7_price_22 (by decide) ?_
      exact Jo_iret rfl dX7_price_27
theorem K_X7_price (E : jE) (s : hS) (a0 : Nat) (i1 : Int32) (i2 : Int32) : jK E yX7_price M_X7_price cvI [.ref a0, .int i1, .int i2] s (f_X7_price s a0 i1 i2) := jK_of ⟨by decide, rfl, rfl⟩ (Nat.le_of_ble_eq_true rfl) (b_X7_price_in E s a0 i1 i2)
/-! HeronTalkModel.draw()I -/
abbrev M_X7_draw : jM := (RX7, cX7_draw, 1, (some .int), "draw", 0, 0)
theorem yF_X7_draw : yF yX7_draw M_X7_draw 0 := ⟨w_737, w_624, by decide +kernel⟩
theorem yV_X7_draw : Cond.instanceMethod yX7_draw ∈ tbG ∧ Cond.selects yX7_draw.cls yX7_draw yX7_draw ∈ tbG := ⟨w_738, w_739⟩
theorem dX7_draw_0 : dI cX7_draw 0 1 (.aload_n 0) 1 := ⟨by decide +kernel, rfl⟩
theorem dX7_draw_1 : dI cX7_draw 1 4 (.getfield 9) 3 := ⟨by decide +kernel, rfl⟩
theorem dX7_draw_4 : dI cX7_draw 4 5 (.iconst 0) 1 := ⟨by decide +kernel, rfl⟩
theorem dX7_draw_5 : dI cX7_draw 5 6 (.aload_n 0) 1 := ⟨by decide +kernel, rfl⟩
theorem dX7_draw_6 : dI cX7_draw 6 9 (.getfield 9) 3 := ⟨by decide +kernel, rfl⟩
theorem dX7_draw_9 : dI cX7_draw 9 10 (.iconst 0) 1 := ⟨by decide +kernel, rfl⟩
theorem dX7_draw_10 : dI cX7_draw 10 11 (.iaload) 1 := ⟨by decide +kernel, rfl⟩
theorem dX7_draw_11 : dI cX7_draw 11 13 (.ldc 145) 2 := ⟨by decide +kernel, rfl⟩
theorem dX7_draw_13 : dI cX7_draw 13 14 (.imul) 1 := ⟨by decide +kernel, rfl⟩
theorem dX7_draw_14 : dI cX7_draw 14 17 (.sipush 12345) 3 := ⟨by decide +kernel, rfl⟩
theorem dX7_draw_17 : dI cX7_draw 17 18 (.iadd) 1 := ⟨by decide +kernel, rfl⟩
theorem dX7_draw_18 : dI cX7_draw 18 19 (.iastore) 1 := ⟨by decide +kernel, rfl⟩
theorem dX7_draw_19 : dI cX7_draw 19 20 (.aload_n 0) 1 := ⟨by decide +kernel, rfl⟩
theorem dX7_draw_20 : dI cX7_draw 20 23 (.getfield 9) 3 := ⟨by decide +kernel, rfl⟩
theorem dX7_draw_23 : dI cX7_draw 23 24 (.iconst 0) 1 := ⟨by decide +kernel, rfl⟩
theorem dX7_draw_24 : dI cX7_draw 24 25 (.iaload) 1 := ⟨by decide +kernel, rfl⟩
theorem dX7_draw_25 : dI cX7_draw 25 27 (.bipush 8) 2 := ⟨by decide +kernel, rfl⟩
theorem dX7_draw_27 : dI cX7_draw 27 28 (.iushr) 1 := ⟨by decide +kernel, rfl⟩
theorem dX7_draw_28 : dI cX7_draw 28 29 (.ireturn) 1 := ⟨by decide +kernel, rfl⟩
def f_X7_draw (s : hS) (a0 : Nat) : Option (Int32 × hS) :=
  (gR s a0 7 0).bind fun a1 =>
  (gR s a0 7 0).bind fun a2 =>
  (aI s a2 10 (0 : Int32)).bind fun x3 =>
  (sI s a1 10 (0 : Int32) ((x3 * (1103515245 : Int32)) + (12345 : Int32))).bind fun s4 =>
  (gR s4 a0 7 0).bind fun a5 =>
  (aI s4 a5 10 (0 : Int32)).bind fun x6 =>
  some (((x6).toUInt32 >>> (((8 : Int32)).toUInt32 &&& Int32.toUInt32 31)).toInt32, s4)
theorem b_X7_draw_in (E : jE)  (s : hS) (a0 : Nat)  : Jo E M_X7_draw cvI 0 [(0, .ref a0)] [] s (f_X7_draw s a0) := by
  unfold f_X7_draw
  refine Jo_aloadn 0 dX7_draw_0 rfl rfl ?_
  refine Jo_getR fF_7_0 fR_7_0 dX7_draw_1 w_598 (fun a1 => ?_)
  refine Jo_iconst (v := (0 : Int32)) dX7_draw_4 (by decide) ?_
  refine Jo_aloadn 0 dX7_draw_5 rfl rfl ?_
  refine Jo_getR fF_7_0 fR_7_0 dX7_draw_6 w_598 (fun a2 => ?_)
  refine Jo_iconst (v := (0 : Int32)) dX7_draw_9 (by decide) ?_
  refine Jo_iaload dX7_draw_10 (fun x3 => ?_)
  refine Jo_ldc dX7_draw_11 w_736 ?_
  refine Jo_imul dX7_draw_13 ?_
  refine Jo_sipush (v := (12345 : Int32)) dX7_draw_14 (by decide) ?_
  refine Jo_iadd dX7_draw_17 ?_
  refine Jo_iastore dX7_draw_18 (fun s4 => ?_)
  refine Jo_aloadn 0 dX7_draw_19 rfl rfl ?_
  refine Jo_getR fF_7_0 fR_7_0 dX7_draw_20 w_598 (fun a5 => ?_)
  refine Jo_iconst (v := (0 : Int32)) dX7_draw_23 (by decide) ?_
  refine Jo_iaload dX7_draw_24 (fun x6 => ?_)
  refine Jo_bipush (v := (8 : Int32)) dX7_draw_25 (by decide) ?_
  refine Jo_iushr dX7_draw_27 ?_
  exact Jo_iret rfl dX7_draw_28
theorem K_X7_draw (E : jE) (s : hS) (a0 : Nat) : jK E yX7_draw M_X7_draw cvI [.ref a0] s (f_X7_draw s a0) := jK_of ⟨by decide, rfl, rfl⟩ (Nat.le_of_ble_eq_true rfl) (b_X7_draw_in E s a0)
/-! HeronTalkModel.knownAll()I -/
abbrev M_X7_knownAll : jM := (RX7, cX7_knownAll, 3, (some .int), "knownAll", 1, 22)
theorem yF_X7_knownAll : yF yX7_knownAll M_X7_knownAll 0 := ⟨w_740, w_624, by decide +kernel⟩
theorem yV_X7_knownAll : Cond.instanceMethod yX7_knownAll ∈ tbG ∧ Cond.selects yX7_knownAll.cls yX7_knownAll yX7_knownAll ∈ tbG := ⟨w_741, w_742⟩
theorem dX7_knownAll_0 : dI cX7_knownAll 0 1 (.iconst 0) 1 := ⟨by decide +kernel, rfl⟩
theorem dX7_knownAll_1 : dI cX7_knownAll 1 2 (.istore_n 1) 1 := ⟨by decide +kernel, rfl⟩
theorem dX7_knownAll_2 : dI cX7_knownAll 2 3 (.iconst 0) 1 := ⟨by decide +kernel, rfl⟩
theorem dX7_knownAll_3 : dI cX7_knownAll 3 4 (.istore_n 2) 1 := ⟨by decide +kernel, rfl⟩
theorem dX7_knownAll_4 : dI cX7_knownAll 4 5 (.iload_n 2) 1 := ⟨by decide +kernel, rfl⟩
theorem dX7_knownAll_5 : dI cX7_knownAll 5 6 (.aload_n 0) 1 := ⟨by decide +kernel, rfl⟩
theorem dX7_knownAll_6 : dI cX7_knownAll 6 9 (.getfield 9) 3 := ⟨by decide +kernel, rfl⟩
theorem dX7_knownAll_9 : dI cX7_knownAll 9 10 (.iconst 2) 1 := ⟨by decide +kernel, rfl⟩
theorem dX7_knownAll_10 : dI cX7_knownAll 10 11 (.iaload) 1 := ⟨by decide +kernel, rfl⟩
theorem dX7_knownAll_11 : decode cX7_knownAll 11 = .ok (.if_icmp .ge 20, 3) := by decide +kernel
theorem dX7_knownAll_14 : dI cX7_knownAll 14 15 (.iload_n 1) 1 := ⟨by decide +kernel, rfl⟩
theorem dX7_knownAll_15 : dI cX7_knownAll 15 16 (.aload_n 0) 1 := ⟨by decide +kernel, rfl⟩
theorem dX7_knownAll_16 : dI cX7_knownAll 16 17 (.iload_n 2) 1 := ⟨by decide +kernel, rfl⟩
theorem dX7_knownAll_17 : decode cX7_knownAll 17 = .ok (.invokevirtual 83, 3) := by decide +kernel
theorem dX7_knownAll_20 : decode cX7_knownAll 20 = .ok (.invokestatic 132, 3) := by decide +kernel
theorem dX7_knownAll_23 : dI cX7_knownAll 23 24 (.iadd) 1 := ⟨by decide +kernel, rfl⟩
theorem dX7_knownAll_24 : dI cX7_knownAll 24 25 (.istore_n 1) 1 := ⟨by decide +kernel, rfl⟩
theorem dX7_knownAll_25 : dI cX7_knownAll 25 28 (.iinc 2 1) 3 := ⟨by decide +kernel, rfl⟩
theorem dX7_knownAll_28 : decode cX7_knownAll 28 = .ok (.goto (-24), 3) := by decide +kernel
theorem dX7_knownAll_31 : dI cX7_knownAll 31 32 (.iload_n 1) 1 := ⟨by decide +kernel, rfl⟩
theorem dX7_knownAll_32 : dI cX7_knownAll 32 33 (.ireturn) 1 := ⟨by decide +kernel, rfl⟩
def f_X7_knownAll_b4 (k4 : Nat → Int32 → Int32 → hS → Option (Int32 × hS)) (l0 : Nat) (l1 : Int32) (l2 : Int32) (s : hS) : Option (Int32 × hS) :=
  (gR s l0 7 0).bind fun a1 =>
  (aI s a1 10 (2 : Int32)).bind fun x2 =>
  if x2 ≤ l2 then
    some (l1, s)
  else
    (cV s l0 7 (f_X7_knownTo s l0 l2)).bind fun p3 =>
    (f_X7_bitsOf p3.2 p3.1).bind fun p4 =>
    nmv ((l1 + p4.1)) fun x5 =>
    k4 l0 x5 (l2 + (1 : Int32)) p4.2
theorem b_X7_knownAll_4 (E : jE) (k4 : Nat → Int32 → Int32 → hS → Option (Int32 × hS)) (h4 : ∀ (s : hS) (l0 : Nat) (l1 : Int32) (l2 : Int32) , Jo E M_X7_knownAll cvI 4 [(0, .ref l0), (1, .int l1), (2, .int l2)] [] s (k4 l0 l1 l2 s)) (s : hS) (l0 : Nat) (l1 : Int32) (l2 : Int32)  : Jo E M_X7_knownAll cvI 4 [(0, .ref l0), (1, .int l1), (2, .int l2)] [] s (f_X7_knownAll_b4 k4 l0 l1 l2 s) := by
  unfold f_X7_knownAll_b4
  refine Jo_iloadn 2 dX7_knownAll_4 rfl rfl ?_
  refine Jo_aloadn 0 dX7_knownAll_5 rfl rfl ?_
  refine Jo_getR fF_7_0 fR_7_0 dX7_knownAll_6 w_598 (fun a1 => ?_)
  refine Jo_iconst (v := (2 : Int32)) dX7_knownAll_9 (by decide) ?_
  refine Jo_iaload dX7_knownAll_10 (fun x2 => ?_)
  refine Jo_icmp_ge 31 dX7_knownAll_11 (by decide) rfl ?_ ?_
  · refine Jo_iloadn 1 dX7_knownAll_31 rfl rfl ?_
    exact Jo_iret rfl dX7_knownAll_32
  · refine Jo_iloadn 1 dX7_knownAll_14 rfl rfl ?_
    refine Jo_aloadn 0 dX7_knownAll_15 rfl rfl ?_
    refine Jo_iloadn 2 dX7_knownAll_16 rfl rfl ?_
    refine Jo_callVi (a := l0) (rest := [.int l1]) [.int l2] cc_7 yF_X7_knownTo yV_X7_knownTo w_665 rfl rfl ⟨Nat.le_of_ble_eq_true rfl, Nat.le_of_ble_eq_true rfl, Nat.le_of_ble_eq_true rfl⟩ dX7_knownAll_17 rfl (K_X7_knownTo E s l0 l2) (fun p3 => ?_)
    refine Jo_callSi (rest := [.int l1]) [.int p3.1] yF_X7_bitsOf yS_X7_bitsOf w_727 rfl rfl ⟨Nat.le_of_ble_eq_true rfl, Nat.le_of_ble_eq_true rfl, Nat.le_of_ble_eq_true rfl⟩ dX7_knownAll_20 rfl (K_X7_bitsOf E p3.2 p3.1) (fun p4 => ?_)
    refine Jo_iadd dX7_knownAll_23 ?_
    refine Jo_nm (fun x5 => ?_)
    refine Jo_istoren (ls' := [(1, .int x5), (0, .ref l0), (2, .int l2)]) dX7_knownAll_24 rfl (by decide) rfl ?_
    refine Jo_iinc (v := (l2 + (1 : Int32))) (ls' := [(2, .int (l2 + (1 : Int32))), (1, .int x5), (0, .ref l0)]) 2 dX7_knownAll_25 rfl rfl (by decide) rfl ?_
    refine Jo_goto 4 dX7_knownAll_28 (by decide) ?_
    refine Jo_sub [2, 1, 0] rfl ?_
    exact h4 p4.2 l0 x5 (l2 + (1 : Int32))
theorem e_X7_knownAll_4 (E : jE)  (n : Nat) : ∀ (s : hS) (l0 : Nat) (l1 : Int32) (l2 : Int32) , Jo E M_X7_knownAll cvI 4 [(0, .ref l0), (1, .int l1), (2, .int l2)] [] s ((jL f_X7_knownAll_b4 (fun _ _ _ _ => none) n) l0 l1 l2 s) :=
  jL_ind (P := fun f => ∀ (s : hS) (l0 : Nat) (l1 : Int32) (l2 : Int32) , Jo E M_X7_knownAll cvI 4 [(0, .ref l0), (1, .int l1), (2, .int l2)] [] s (f l0 l1 l2 s)) (fun _ _ _ _ => Jo_none) (fun b hb s l0 l1 l2 => b_X7_knownAll_4 E  b hb s l0 l1 l2) n
def f_X7_knownAll (s : hS) (a0 : Nat) : Option (Int32 × hS) :=
  jL f_X7_knownAll_b4 (fun _ _ _ _ => none) jF a0 (0 : Int32) (0 : Int32) s
theorem b_X7_knownAll_in (E : jE)  (s : hS) (a0 : Nat)  : Jo E M_X7_knownAll cvI 0 [(0, .ref a0)] [] s (f_X7_knownAll s a0) := by
  unfold f_X7_knownAll
  refine Jo_iconst (v := (0 : Int32)) dX7_knownAll_0 (by decide) ?_
  refine Jo_istoren (ls' := [(1, .int (0 : Int32)), (0, .ref a0)]) dX7_knownAll_1 rfl (by decide) rfl ?_
  refine Jo_iconst (v := (0 : Int32)) dX7_knownAll_2 (by decide) ?_
  refine Jo_istoren (ls' := [(2, .int (0 : Int32)), (1, .int (0 : Int32)), (0, .ref a0)]) dX7_knownAll_3 rfl (by decide) rfl ?_
  refine Jo_sub [2, 1, 0] rfl ?_
  exact e_X7_knownAll_4 E jF s a0 (0 : Int32) (0 : Int32)
theorem K_X7_knownAll (E : jE) (s : hS) (a0 : Nat) : jK E yX7_knownAll M_X7_knownAll cvI [.ref a0] s (f_X7_knownAll s a0) := jK_of ⟨by decide, rfl, rfl⟩ (Nat.le_of_ble_eq_true rfl) (b_X7_knownAll_in E s a0)
