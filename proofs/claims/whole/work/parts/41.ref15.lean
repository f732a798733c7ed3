/-! HeronTalkModel.back()I -/
abbrev M_X7_back : jM := (RX7, cX7_back, 1, (some .int), "back", 1, 22)
theorem yF_X7_back : yF yX7_back M_X7_back 0 := ⟨w_974, w_624, by decide +kernel⟩
theorem yV_X7_back : Cond.instanceMethod yX7_back ∈ tbG ∧ Cond.selects yX7_back.cls yX7_back yX7_back ∈ tbG := ⟨w_975, w_976⟩
theorem dX7_back_0 : dI cX7_back 0 1 (.aload_n 0) 1 := ⟨by decide +kernel, rfl⟩
theorem dX7_back_1 : dI cX7_back 1 4 (.getfield 292) 3 := ⟨by decide +kernel, rfl⟩
theorem dX7_back_4 : decode cX7_back 4 = .ok (.ifCond .ne 6, 3) := by decide +kernel
theorem dX7_back_7 : dI cX7_back 7 9 (.ldc 189) 2 := ⟨by decide +kernel, rfl⟩
theorem dX7_back_9 : dI cX7_back 9 10 (.ireturn) 1 := ⟨by decide +kernel, rfl⟩
theorem dX7_back_10 : dI cX7_back 10 11 (.aload_n 0) 1 := ⟨by decide +kernel, rfl⟩
theorem dX7_back_11 : dI cX7_back 11 14 (.getfield 13) 3 := ⟨by decide +kernel, rfl⟩
theorem dX7_back_14 : dI cX7_back 14 15 (.aload_n 0) 1 := ⟨by decide +kernel, rfl⟩
theorem dX7_back_15 : dI cX7_back 15 18 (.getfield 9) 3 := ⟨by decide +kernel, rfl⟩
theorem dX7_back_18 : decode cX7_back 18 = .ok (.invokestatic 296, 3) := by decide +kernel
theorem dX7_back_21 : dI cX7_back 21 22 (.aload_n 0) 1 := ⟨by decide +kernel, rfl⟩
theorem dX7_back_22 : dI cX7_back 22 25 (.getfield 9) 3 := ⟨by decide +kernel, rfl⟩
theorem dX7_back_25 : dI cX7_back 25 26 (.iconst 3) 1 := ⟨by decide +kernel, rfl⟩
theorem dX7_back_26 : dI cX7_back 26 27 (.iaload) 1 := ⟨by decide +kernel, rfl⟩
theorem dX7_back_27 : dI cX7_back 27 28 (.ireturn) 1 := ⟨by decide +kernel, rfl⟩
def f_X7_back (s : hS) (a0 : Nat) : Option (Int32 × hS) :=
  (gI s a0 7 3).bind fun x1 =>
  if x1 = 0 then
    some ((-1000000002 : Int32), s)
  else
    (gR s a0 7 1).bind fun a2 =>
    (gR s a0 7 0).bind fun a3 =>
    (f_X7_copyAll s a2 a3).bind fun p4 =>
    (gR p4.2 a0 7 0).bind fun a5 =>
    (aI p4.2 a5 10 (3 : Int32)).bind fun x6 =>
    some (x6, p4.2)
theorem b_X7_back_in (E : jE)  (s : hS) (a0 : Nat)  : Jo E M_X7_back cvI 0 [(0, .ref a0)] [] s (f_X7_back s a0) := by
  unfold f_X7_back
  refine Jo_aloadn 0 dX7_back_0 rfl rfl ?_
  refine Jo_getI fF_7_3 fI_7_3 dX7_back_1 w_967 (fun x1 => ?_)
  refine Jo_if_ne 10 dX7_back_4 (by decide) rfl ?_ ?_
  · refine Jo_ldc dX7_back_7 w_811 ?_
    exact Jo_iret rfl dX7_back_9
  · refine Jo_aloadn 0 dX7_back_10 rfl rfl ?_
    refine Jo_getR fF_7_1 fR_7_1 dX7_back_11 w_621 (fun a2 => ?_)
    refine Jo_aloadn 0 dX7_back_14 rfl rfl ?_
    refine Jo_getR fF_7_0 fR_7_0 dX7_back_15 w_598 (fun a3 => ?_)
    refine Jo_callSv (rest := []) [.ref a2, .ref a3] yF_X7_copyAll yS_X7_copyAll w_966 rfl rfl ⟨Nat.le_of_ble_eq_true rfl, Nat.le_of_ble_eq_true rfl, Nat.le_of_ble_eq_true rfl⟩ dX7_back_18 rfl (K_X7_copyAll E s a2 a3) (fun p4 => ?_)
    refine Jo_aloadn 0 dX7_back_21 rfl rfl ?_
    refine Jo_getR fF_7_0 fR_7_0 dX7_back_22 w_598 (fun a5 => ?_)
    refine Jo_iconst (v := (3 : Int32)) dX7_back_25 (by decide) ?_
    refine Jo_iaload dX7_back_26 (fun x6 => ?_)
    exact Jo_iret rfl dX7_back_27
theorem K_X7_back (E : jE) (s : hS) (a0 : Nat) : jK E yX7_back M_X7_back cvI [.ref a0] s (f_X7_back s a0) := jK_of ⟨by decide, rfl, rfl⟩ (Nat.le_of_ble_eq_true rfl) (b_X7_back_in E s a0)
/-! HeronTalkModel.count(I)I -/
abbrev M_X7_count : jM := (RX7, cX7_count, 2, (some .int), "count", 2, 44)
theorem yF_X7_count : yF yX7_count M_X7_count 1 := ⟨w_977, w_624, by decide +kernel⟩
theorem yV_X7_count : Cond.instanceMethod yX7_count ∈ tbG ∧ Cond.selects yX7_count.cls yX7_count yX7_count ∈ tbG := ⟨w_978, w_979⟩
theorem dX7_count_0 : dI cX7_count 0 1 (.iload_n 1) 1 := ⟨by decide +kernel, rfl⟩
theorem dX7_count_1 : decode cX7_count 1 = .ok (.tableswitch 132 0 10 #[59, 66, 73, 80, 87, 94, 102, 107, 115, 120, 125], 59) := by decide +kernel
theorem dX7_count_60 : dI cX7_count 60 61 (.aload_n 0) 1 := ⟨by decide +kernel, rfl⟩
theorem dX7_count_61 : dI cX7_count 61 64 (.getfield 9) 3 := ⟨by decide +kernel, rfl⟩
theorem dX7_count_64 : dI cX7_count 64 65 (.iconst 1) 1 := ⟨by decide +kernel, rfl⟩
theorem dX7_count_65 : dI cX7_count 65 66 (.iaload) 1 := ⟨by decide +kernel, rfl⟩
theorem dX7_count_66 : dI cX7_count 66 67 (.ireturn) 1 := ⟨by decide +kernel, rfl⟩
theorem dX7_count_67 : dI cX7_count 67 68 (.aload_n 0) 1 := ⟨by decide +kernel, rfl⟩
theorem dX7_count_68 : dI cX7_count 68 71 (.getfield 9) 3 := ⟨by decide +kernel, rfl⟩
theorem dX7_count_71 : dI cX7_count 71 72 (.iconst 2) 1 := ⟨by decide +kernel, rfl⟩
theorem dX7_count_72 : dI cX7_count 72 73 (.iaload) 1 := ⟨by decide +kernel, rfl⟩
theorem dX7_count_73 : dI cX7_count 73 74 (.ireturn) 1 := ⟨by decide +kernel, rfl⟩
theorem dX7_count_74 : dI cX7_count 74 75 (.aload_n 0) 1 := ⟨by decide +kernel, rfl⟩
theorem dX7_count_75 : dI cX7_count 75 78 (.getfield 9) 3 := ⟨by decide +kernel, rfl⟩
theorem dX7_count_78 : dI cX7_count 78 79 (.iconst 3) 1 := ⟨by decide +kernel, rfl⟩
theorem dX7_count_79 : dI cX7_count 79 80 (.iaload) 1 := ⟨by decide +kernel, rfl⟩
theorem dX7_count_80 : dI cX7_count 80 81 (.ireturn) 1 := ⟨by decide +kernel, rfl⟩
theorem dX7_count_81 : dI cX7_count 81 82 (.aload_n 0) 1 := ⟨by decide +kernel, rfl⟩
theorem dX7_count_82 : dI cX7_count 82 85 (.getfield 9) 3 := ⟨by decide +kernel, rfl⟩
theorem dX7_count_85 : dI cX7_count 85 86 (.iconst 4) 1 := ⟨by decide +kernel, rfl⟩
theorem dX7_count_86 : dI cX7_count 86 87 (.iaload) 1 := ⟨by decide +kernel, rfl⟩
theorem dX7_count_87 : dI cX7_count 87 88 (.ireturn) 1 := ⟨by decide +kernel, rfl⟩
theorem dX7_count_88 : dI cX7_count 88 89 (.aload_n 0) 1 := ⟨by decide +kernel, rfl⟩
theorem dX7_count_89 : dI cX7_count 89 92 (.getfield 9) 3 := ⟨by decide +kernel, rfl⟩
theorem dX7_count_92 : dI cX7_count 92 93 (.iconst 5) 1 := ⟨by decide +kernel, rfl⟩
theorem dX7_count_93 : dI cX7_count 93 94 (.iaload) 1 := ⟨by decide +kernel, rfl⟩
theorem dX7_count_94 : dI cX7_count 94 95 (.ireturn) 1 := ⟨by decide +kernel, rfl⟩
theorem dX7_count_95 : dI cX7_count 95 96 (.aload_n 0) 1 := ⟨by decide +kernel, rfl⟩
theorem dX7_count_96 : dI cX7_count 96 99 (.getfield 9) 3 := ⟨by decide +kernel, rfl⟩
theorem dX7_count_99 : dI cX7_count 99 101 (.bipush 6) 2 := ⟨by decide +kernel, rfl⟩
theorem dX7_count_101 : dI cX7_count 101 102 (.iaload) 1 := ⟨by decide +kernel, rfl⟩
theorem dX7_count_102 : dI cX7_count 102 103 (.ireturn) 1 := ⟨by decide +kernel, rfl⟩
theorem dX7_count_103 : dI cX7_count 103 104 (.aload_n 0) 1 := ⟨by decide +kernel, rfl⟩
theorem dX7_count_104 : decode cX7_count 104 = .ok (.invokevirtual 151, 3) := by decide +kernel
theorem dX7_count_107 : dI cX7_count 107 108 (.ireturn) 1 := ⟨by decide +kernel, rfl⟩
theorem dX7_count_108 : dI cX7_count 108 109 (.aload_n 0) 1 := ⟨by decide +kernel, rfl⟩
theorem dX7_count_109 : dI cX7_count 109 112 (.getfield 9) 3 := ⟨by decide +kernel, rfl⟩
theorem dX7_count_112 : dI cX7_count 112 114 (.bipush 7) 2 := ⟨by decide +kernel, rfl⟩
theorem dX7_count_114 : dI cX7_count 114 115 (.iaload) 1 := ⟨by decide +kernel, rfl⟩
theorem dX7_count_115 : dI cX7_count 115 116 (.ireturn) 1 := ⟨by decide +kernel, rfl⟩
theorem dX7_count_116 : dI cX7_count 116 117 (.aload_n 0) 1 := ⟨by decide +kernel, rfl⟩
theorem dX7_count_117 : dI cX7_count 117 120 (.getfield 289) 3 := ⟨by decide +kernel, rfl⟩
theorem dX7_count_120 : dI cX7_count 120 121 (.ireturn) 1 := ⟨by decide +kernel, rfl⟩
theorem dX7_count_121 : dI cX7_count 121 122 (.aload_n 0) 1 := ⟨by decide +kernel, rfl⟩
theorem dX7_count_122 : dI cX7_count 122 125 (.getfield 210) 3 := ⟨by decide +kernel, rfl⟩
theorem dX7_count_125 : dI cX7_count 125 126 (.ireturn) 1 := ⟨by decide +kernel, rfl⟩
theorem dX7_count_126 : dI cX7_count 126 127 (.aload_n 0) 1 := ⟨by decide +kernel, rfl⟩
theorem dX7_count_127 : dI cX7_count 127 130 (.getfield 9) 3 := ⟨by decide +kernel, rfl⟩
theorem dX7_count_130 : dI cX7_count 130 131 (.iconst 0) 1 := ⟨by decide +kernel, rfl⟩
theorem dX7_count_131 : dI cX7_count 131 132 (.iaload) 1 := ⟨by decide +kernel, rfl⟩
theorem dX7_count_132 : dI cX7_count 132 133 (.ireturn) 1 := ⟨by decide +kernel, rfl⟩
theorem dX7_count_133 : dI cX7_count 133 135 (.ldc 87) 2 := ⟨by decide +kernel, rfl⟩
theorem dX7_count_135 : dI cX7_count 135 136 (.ireturn) 1 := ⟨by decide +kernel, rfl⟩
def f_X7_count (s : hS) (a0 : Nat) (i1 : Int32) : Option (Int32 × hS) :=
  if i1 = (0 : Int32) then
    (gR s a0 7 0).bind fun a2 =>
    (aI s a2 10 (1 : Int32)).bind fun x3 =>
    some (x3, s)
  else
  if i1 = (1 : Int32) then
    (gR s a0 7 0).bind fun a5 =>
    (aI s a5 10 (2 : Int32)).bind fun x6 =>
    some (x6, s)
  else
  if i1 = (2 : Int32) then
    (gR s a0 7 0).bind fun a8 =>
    (aI s a8 10 (3 : Int32)).bind fun x9 =>
    some (x9, s)
  else
  if i1 = (3 : Int32) then
    (gR s a0 7 0).bind fun a11 =>
    (aI s a11 10 (4 : Int32)).bind fun x12 =>
    some (x12, s)
  else
  if i1 = (4 : Int32) then
    (gR s a0 7 0).bind fun a14 =>
    (aI s a14 10 (5 : Int32)).bind fun x15 =>
    some (x15, s)
  else
  if i1 = (5 : Int32) then
    (gR s a0 7 0).bind fun a17 =>
    (aI s a17 10 (6 : Int32)).bind fun x18 =>
    some (x18, s)
  else
  if i1 = (6 : Int32) then
    (cV s a0 7 (f_X7_knownAll s a0)).bind fun p20 =>
    some (p20.1, p20.2)
  else
  if i1 = (7 : Int32) then
    (gR s a0 7 0).bind fun a22 =>
    (aI s a22 10 (7 : Int32)).bind fun x23 =>
    some (x23, s)
  else
  if i1 = (8 : Int32) then
    (gI s a0 7 33).bind fun x25 =>
    some (x25, s)
  else
  if i1 = (9 : Int32) then
    (gI s a0 7 7).bind fun x27 =>
    some (x27, s)
  else
  if i1 = (10 : Int32) then
    (gR s a0 7 0).bind fun a29 =>
    (aI s a29 10 (0 : Int32)).bind fun x30 =>
    some (x30, s)
  else
  some ((-1000000001 : Int32), s)
theorem b_X7_count_in (E : jE)  (s : hS) (a0 : Nat) (i1 : Int32)  : Jo E M_X7_count cvI 0 [(0, .ref a0), (1, .int i1)] [] s (f_X7_count s a0 i1) := by
  unfold f_X7_count
  refine Jo_iloadn 1 dX7_count_0 rfl rfl ?_
  refine Jo_case ?_ (fun g1 => ?_)
  · refine Jo_tabIn (off := 59) 60 dX7_count_1 (by decide) (by decide) (by decide) (by decide) ?_
    refine Jo_aloadn 0 dX7_count_60 rfl rfl ?_
    refine Jo_getR fF_7_0 fR_7_0 dX7_count_61 w_598 (fun a2 => ?_)
    refine Jo_iconst (v := (1 : Int32)) dX7_count_64 (by decide) ?_
    refine Jo_iaload dX7_count_65 (fun x3 => ?_)
    exact Jo_iret rfl dX7_count_66
  refine Jo_case ?_ (fun g4 => ?_)
  · refine Jo_tabIn (off := 66) 67 dX7_count_1 (by decide) (by decide) (by decide) (by decide) ?_
    refine Jo_aloadn 0 dX7_count_67 rfl rfl ?_
    refine Jo_getR fF_7_0 fR_7_0 dX7_count_68 w_598 (fun a5 => ?_)
    refine Jo_iconst (v := (2 : Int32)) dX7_count_71 (by decide) ?_
    refine Jo_iaload dX7_count_72 (fun x6 => ?_)
    exact Jo_iret rfl dX7_count_73
  refine Jo_case ?_ (fun g7 => ?_)
  · refine Jo_tabIn (off := 73) 74 dX7_count_1 (by decide) (by decide) (by decide) (by decide) ?_
    refine Jo_aloadn 0 dX7_count_74 rfl rfl ?_
    refine Jo_getR fF_7_0 fR_7_0 dX7_count_75 w_598 (fun a8 => ?_)
    refine Jo_iconst (v := (3 : Int32)) dX7_count_78 (by decide) ?_
    refine Jo_iaload dX7_count_79 (fun x9 => ?_)
    exact Jo_iret rfl dX7_count_80
  refine Jo_case ?_ (fun g10 => ?_)
  · refine Jo_tabIn (off := 80) 81 dX7_count_1 (by decide) (by decide) (by decide) (by decide) ?_
    refine Jo_aloadn 0 dX7_count_81 rfl rfl ?_
    refine Jo_getR fF_7_0 fR_7_0 dX7_count_82 w_598 (fun a11 => ?_)
    refine Jo_iconst (v := (4 : Int32)) dX7_count_85 (by decide) ?_
    refine Jo_iaload dX7_count_86 (fun x12 => ?_)
    exact Jo_iret rfl dX7_count_87
  refine Jo_case ?_ (fun g13 => ?_)
  · refine Jo_tabIn (off := 87) 88 dX7_count_1 (by decide) (by decide) (by decide) (by decide) ?_
    refine Jo_aloadn 0 dX7_count_88 rfl rfl ?_
    refine Jo_getR fF_7_0 fR_7_0 dX7_count_89 w_598 (fun a14 => ?_)
    refine Jo_iconst (v := (5 : Int32)) dX7_count_92 (by decide) ?_
    refine Jo_iaload dX7_count_93 (fun x15 => ?_)
    exact Jo_iret rfl dX7_count_94
  refine Jo_case ?_ (fun g16 => ?_)
  · refine Jo_tabIn (off := 94) 95 dX7_count_1 (by decide) (by decide) (by decide) (by decide) ?_
    refine Jo_aloadn 0 dX7_count_95 rfl rfl ?_
    refine Jo_getR fF_7_0 fR_7_0 dX7_count_96 w_598 (fun a17 => ?_)
    refine Jo_bipush (v := (6 : Int32)) dX7_count_99 (by decide) ?_
    refine Jo_iaload dX7_count_101 (fun x18 => ?_)
    exact Jo_iret rfl dX7_count_102
  refine Jo_case ?_ (fun g19 => ?_)
  · refine Jo_tabIn (off := 102) 103 dX7_count_1 (by decide) (by decide) (by decide) (by decide) ?_
    refine Jo_aloadn 0 dX7_count_103 rfl rfl ?_
    refine Jo_callVi (a := a0) (rest := []) [] cc_7 yF_X7_knownAll yV_X7_knownAll w_743 rfl rfl ⟨Nat.le_of_ble_eq_true rfl, Nat.le_of_ble_eq_true rfl, Nat.le_of_ble_eq_true rfl⟩ dX7_count_104 rfl (K_X7_knownAll E s a0) (fun p20 => ?_)
    exact Jo_iret rfl dX7_count_107
  refine Jo_case ?_ (fun g21 => ?_)
  · refine Jo_tabIn (off := 107) 108 dX7_count_1 (by decide) (by decide) (by decide) (by decide) ?_
    refine Jo_aloadn 0 dX7_count_108 rfl rfl ?_
    refine Jo_getR fF_7_0 fR_7_0 dX7_count_109 w_598 (fun a22 => ?_)
    refine Jo_bipush (v := (7 : Int32)) dX7_count_112 (by decide) ?_
    refine Jo_iaload dX7_count_114 (fun x23 => ?_)
    exact Jo_iret rfl dX7_count_115
  refine Jo_case ?_ (fun g24 => ?_)
  · refine Jo_tabIn (off := 115) 116 dX7_count_1 (by decide) (by decide) (by decide) (by decide) ?_
    refine Jo_aloadn 0 dX7_count_116 rfl rfl ?_
    refine Jo_getI fF_7_33 fI_7_33 dX7_count_117 w_962 (fun x25 => ?_)
    exact Jo_iret rfl dX7_count_120
  refine Jo_case ?_ (fun g26 => ?_)
  · refine Jo_tabIn (off := 120) 121 dX7_count_1 (by decide) (by decide) (by decide) (by decide) ?_
    refine Jo_aloadn 0 dX7_count_121 rfl rfl ?_
    refine Jo_getI fF_7_7 fI_7_7 dX7_count_122 w_856 (fun x27 => ?_)
    exact Jo_iret rfl dX7_count_125
  refine Jo_case ?_ (fun g28 => ?_)
  · refine Jo_tabIn (off := 125) 126 dX7_count_1 (by decide) (by decide) (by decide) (by decide) ?_
    refine Jo_aloadn 0 dX7_count_126 rfl rfl ?_
    refine Jo_getR fF_7_0 fR_7_0 dX7_count_127 w_598 (fun a29 => ?_)
    refine Jo_iconst (v := (0 : Int32)) dX7_count_130 (by decide) ?_
    refine Jo_iaload dX7_count_131 (fun x30 => ?_)
    exact Jo_iret rfl dX7_count_132
  refine Jo_tabOut 133 dX7_count_1 (by have qg1 := i32ne 0 (by decide) g1; have qg4 := i32ne 1 (by decide) g4; have qg7 := i32ne 2 (by decide) g7; have qg10 := i32ne 3 (by decide) g10; have qg13 := i32ne 4 (by decide) g13; have qg16 := i32ne 5 (by decide) g16; have qg19 := i32ne 6 (by decide) g19; have qg21 := i32ne 7 (by decide) g21; have qg24 := i32ne 8 (by decide) g24; have qg26 := i32ne 9 (by decide) g26; have qg28 := i32ne 10 (by decide) g28; omega) (by decide) ?_
  refine Jo_ldc dX7_count_133 w_673 ?_
  exact Jo_iret rfl dX7_count_135
theorem K_X7_count (E : jE) (s : hS) (a0 : Nat) (i1 : Int32) : jK E yX7_count M_X7_count cvI [.ref a0, .int i1] s (f_X7_count s a0 i1) := jK_of ⟨by decide, rfl, rfl⟩ (Nat.le_of_ble_eq_true rfl) (b_X7_count_in E s a0 i1)
