/-! HeronTalk.check(I)I -/
abbrev M_X6_check : jM := (RX6, cX6_check, 6, (some .int), "check", 7, 171)
theorem yF_X6_check : yF yX6_check M_X6_check 1 := ⟨w_585, w_278, by decide +kernel⟩
theorem yV_X6_check : Cond.instanceMethod yX6_check ∈ tbG ∧ Cond.selects yX6_check.cls yX6_check yX6_check ∈ tbG := ⟨w_586, w_587⟩
theorem dX6_check_0 : dI cX6_check 0 1 (.aload_n 0) 1 := ⟨by decide +kernel, rfl⟩
theorem dX6_check_1 : dI cX6_check 1 4 (.getfield 56) 3 := ⟨by decide +kernel, rfl⟩
theorem dX6_check_4 : dI cX6_check 4 5 (.istore_n 2) 1 := ⟨by decide +kernel, rfl⟩
theorem dX6_check_5 : dI cX6_check 5 6 (.aload_n 0) 1 := ⟨by decide +kernel, rfl⟩
theorem dX6_check_6 : dI cX6_check 6 7 (.iconst 0) 1 := ⟨by decide +kernel, rfl⟩
theorem dX6_check_7 : dI cX6_check 7 10 (.putfield 56) 3 := ⟨by decide +kernel, rfl⟩
theorem dX6_check_10 : dI cX6_check 10 11 (.iload_n 1) 1 := ⟨by decide +kernel, rfl⟩
theorem dX6_check_11 : dI cX6_check 11 12 (.iconst 1) 1 := ⟨by decide +kernel, rfl⟩
theorem dX6_check_12 : dI cX6_check 12 14 (.bipush 30) 2 := ⟨by decide +kernel, rfl⟩
theorem dX6_check_14 : decode cX6_check 14 = .ok (.invokestatic 63, 3) := by decide +kernel
theorem dX6_check_17 : decode cX6_check 17 = .ok (.ifCond .eq 6, 3) := by decide +kernel
theorem dX6_check_20 : dI cX6_check 20 22 (.ldc 67) 2 := ⟨by decide +kernel, rfl⟩
theorem dX6_check_22 : dI cX6_check 22 23 (.ireturn) 1 := ⟨by decide +kernel, rfl⟩
theorem dX6_check_23 : dI cX6_check 23 24 (.aload_n 0) 1 := ⟨by decide +kernel, rfl⟩
theorem dX6_check_24 : dI cX6_check 24 27 (.getfield 22) 3 := ⟨by decide +kernel, rfl⟩
theorem dX6_check_27 : decode cX6_check 27 = .ok (.ifCond .ne 6, 3) := by decide +kernel
theorem dX6_check_30 : dI cX6_check 30 32 (.ldc 188) 2 := ⟨by decide +kernel, rfl⟩
theorem dX6_check_32 : dI cX6_check 32 33 (.ireturn) 1 := ⟨by decide +kernel, rfl⟩
theorem dX6_check_33 : dI cX6_check 33 34 (.aload_n 0) 1 := ⟨by decide +kernel, rfl⟩
theorem dX6_check_34 : dI cX6_check 34 37 (.getfield 19) 3 := ⟨by decide +kernel, rfl⟩
theorem dX6_check_37 : dI cX6_check 37 38 (.aload_n 0) 1 := ⟨by decide +kernel, rfl⟩
theorem dX6_check_38 : dI cX6_check 38 41 (.getfield 16) 3 := ⟨by decide +kernel, rfl⟩
theorem dX6_check_41 : decode cX6_check 41 = .ok (.invokevirtual 195, 3) := by decide +kernel
theorem dX6_check_44 : dI cX6_check 44 45 (.iconst 0) 1 := ⟨by decide +kernel, rfl⟩
theorem dX6_check_45 : dI cX6_check 45 46 (.istore_n 3) 1 := ⟨by decide +kernel, rfl⟩
theorem dX6_check_46 : dI cX6_check 46 47 (.iconst 0) 1 := ⟨by decide +kernel, rfl⟩
theorem dX6_check_47 : dI cX6_check 47 49 (.istore 4) 2 := ⟨by decide +kernel, rfl⟩
theorem dX6_check_49 : dI cX6_check 49 51 (.iload 4) 2 := ⟨by decide +kernel, rfl⟩
theorem dX6_check_51 : dI cX6_check 51 52 (.iload_n 1) 1 := ⟨by decide +kernel, rfl⟩
theorem dX6_check_52 : decode cX6_check 52 = .ok (.if_icmp .ge 82, 3) := by decide +kernel
theorem dX6_check_55 : dI cX6_check 55 56 (.aload_n 0) 1 := ⟨by decide +kernel, rfl⟩
theorem dX6_check_56 : dI cX6_check 56 59 (.getfield 19) 3 := ⟨by decide +kernel, rfl⟩
theorem dX6_check_59 : dI cX6_check 59 62 (.getfield 140) 3 := ⟨by decide +kernel, rfl⟩
theorem dX6_check_62 : dI cX6_check 62 65 (.sipush 999) 3 := ⟨by decide +kernel, rfl⟩
theorem dX6_check_65 : decode cX6_check 65 = .ok (.if_icmp .ge 69, 3) := by decide +kernel
theorem dX6_check_68 : dI cX6_check 68 69 (.aload_n 0) 1 := ⟨by decide +kernel, rfl⟩
theorem dX6_check_69 : dI cX6_check 69 72 (.getfield 19) 3 := ⟨by decide +kernel, rfl⟩
theorem dX6_check_72 : decode cX6_check 72 = .ok (.invokevirtual 189, 3) := by decide +kernel
theorem dX6_check_75 : dI cX6_check 75 77 (.istore 5) 2 := ⟨by decide +kernel, rfl⟩
theorem dX6_check_77 : dI cX6_check 77 78 (.iload_n 3) 1 := ⟨by decide +kernel, rfl⟩
theorem dX6_check_78 : dI cX6_check 78 79 (.iload_n 2) 1 := ⟨by decide +kernel, rfl⟩
theorem dX6_check_79 : decode cX6_check 79 = .ok (.if_icmp .ge 14, 3) := by decide +kernel
theorem dX6_check_82 : dI cX6_check 82 83 (.aload_n 0) 1 := ⟨by decide +kernel, rfl⟩
theorem dX6_check_83 : dI cX6_check 83 86 (.getfield 52) 3 := ⟨by decide +kernel, rfl⟩
theorem dX6_check_86 : dI cX6_check 86 87 (.iload_n 3) 1 := ⟨by decide +kernel, rfl⟩
theorem dX6_check_87 : dI cX6_check 87 88 (.iaload) 1 := ⟨by decide +kernel, rfl⟩
theorem dX6_check_88 : dI cX6_check 88 90 (.iload 5) 2 := ⟨by decide +kernel, rfl⟩
theorem dX6_check_90 : decode cX6_check 90 = .ok (.if_icmp .eq 7, 3) := by decide +kernel
theorem dX6_check_93 : dI cX6_check 93 94 (.iconst 1) 1 := ⟨by decide +kernel, rfl⟩
theorem dX6_check_94 : dI cX6_check 94 95 (.iload_n 3) 1 := ⟨by decide +kernel, rfl⟩
theorem dX6_check_95 : dI cX6_check 95 96 (.iadd) 1 := ⟨by decide +kernel, rfl⟩
theorem dX6_check_96 : dI cX6_check 96 97 (.ireturn) 1 := ⟨by decide +kernel, rfl⟩
theorem dX6_check_97 : dI cX6_check 97 100 (.iinc 3 1) 3 := ⟨by decide +kernel, rfl⟩
theorem dX6_check_100 : dI cX6_check 100 101 (.iload_n 3) 1 := ⟨by decide +kernel, rfl⟩
theorem dX6_check_101 : dI cX6_check 101 102 (.iload_n 2) 1 := ⟨by decide +kernel, rfl⟩
theorem dX6_check_102 : decode cX6_check 102 = .ok (.if_icmp .ge 19, 3) := by decide +kernel
theorem dX6_check_105 : dI cX6_check 105 106 (.aload_n 0) 1 := ⟨by decide +kernel, rfl⟩
theorem dX6_check_106 : dI cX6_check 106 109 (.getfield 52) 3 := ⟨by decide +kernel, rfl⟩
theorem dX6_check_109 : dI cX6_check 109 110 (.iload_n 3) 1 := ⟨by decide +kernel, rfl⟩
theorem dX6_check_110 : dI cX6_check 110 111 (.iaload) 1 := ⟨by decide +kernel, rfl⟩
theorem dX6_check_111 : dI cX6_check 111 112 (.aload_n 0) 1 := ⟨by decide +kernel, rfl⟩
theorem dX6_check_112 : dI cX6_check 112 115 (.getfield 19) 3 := ⟨by decide +kernel, rfl⟩
theorem dX6_check_115 : decode cX6_check 115 = .ok (.invokevirtual 134, 3) := by decide +kernel
theorem dX6_check_118 : decode cX6_check 118 = .ok (.if_icmp .eq 7, 3) := by decide +kernel
theorem dX6_check_121 : dI cX6_check 121 122 (.iconst 1) 1 := ⟨by decide +kernel, rfl⟩
theorem dX6_check_122 : dI cX6_check 122 123 (.iload_n 3) 1 := ⟨by decide +kernel, rfl⟩
theorem dX6_check_123 : dI cX6_check 123 124 (.iadd) 1 := ⟨by decide +kernel, rfl⟩
theorem dX6_check_124 : dI cX6_check 124 125 (.ireturn) 1 := ⟨by decide +kernel, rfl⟩
theorem dX6_check_125 : dI cX6_check 125 128 (.iinc 3 1) 3 := ⟨by decide +kernel, rfl⟩
theorem dX6_check_128 : dI cX6_check 128 131 (.iinc 4 1) 3 := ⟨by decide +kernel, rfl⟩
theorem dX6_check_131 : decode cX6_check 131 = .ok (.goto (-82), 3) := by decide +kernel
theorem dX6_check_134 : dI cX6_check 134 135 (.iload_n 3) 1 := ⟨by decide +kernel, rfl⟩
theorem dX6_check_135 : dI cX6_check 135 136 (.iload_n 2) 1 := ⟨by decide +kernel, rfl⟩
theorem dX6_check_136 : decode cX6_check 136 = .ok (.if_icmp .ge 9, 3) := by decide +kernel
theorem dX6_check_139 : dI cX6_check 139 140 (.iconst 1) 1 := ⟨by decide +kernel, rfl⟩
theorem dX6_check_140 : dI cX6_check 140 141 (.iload_n 3) 1 := ⟨by decide +kernel, rfl⟩
theorem dX6_check_141 : dI cX6_check 141 142 (.iadd) 1 := ⟨by decide +kernel, rfl⟩
theorem dX6_check_142 : decode cX6_check 142 = .ok (.goto 4, 3) := by decide +kernel
theorem dX6_check_145 : dI cX6_check 145 146 (.iconst 0) 1 := ⟨by decide +kernel, rfl⟩
theorem dX6_check_146 : dI cX6_check 146 147 (.ireturn) 1 := ⟨by decide +kernel, rfl⟩
def f_X6_check_b134 (l2 : Int32) (l3 : Int32) (s : hS) : Option (Int32 × hS) :=
  if l2 ≤ l3 then
    some ((0 : Int32), s)
  else
    some (((1 : Int32) + l3), s)
theorem b_X6_check_134 (E : jE)  (s : hS) (l2 : Int32) (l3 : Int32)  : Jo E M_X6_check cvI 134 [(2, .int l2), (3, .int l3)] [] s (f_X6_check_b134  l2 l3 s) := by
  unfold f_X6_check_b134
  refine Jo_iloadn 1 dX6_check_134 rfl rfl ?_
  refine Jo_iloadn 0 dX6_check_135 rfl rfl ?_
  refine Jo_icmp_ge 145 dX6_check_136 (by decide) rfl ?_ ?_
  · refine Jo_iconst (v := (0 : Int32)) dX6_check_145 (by decide) ?_
    exact Jo_iret rfl dX6_check_146
  · refine Jo_iconst (v := (1 : Int32)) dX6_check_139 (by decide) ?_
    refine Jo_iloadn 1 dX6_check_140 rfl rfl ?_
    refine Jo_iadd dX6_check_141 ?_
    refine Jo_goto 146 dX6_check_142 (by decide) ?_
    exact Jo_iret rfl dX6_check_146
def f_X6_check_b49 (k49 : Nat → Int32 → Int32 → Int32 → Int32 → hS → Option (Int32 × hS)) (l0 : Nat) (l1 : Int32) (l2 : Int32) (l3 : Int32) (l4 : Int32) (s : hS) : Option (Int32 × hS) :=
  if l1 ≤ l4 then
    f_X6_check_b134 l2 l3 s
  else
    (gR s l0 6 2).bind fun a1 =>
    (gI s a1 5 5).bind fun x2 =>
    if (999 : Int32) ≤ x2 then
      f_X6_check_b134 l2 l3 s
    else
      (gR s l0 6 2).bind fun a3 =>
      (cV s a3 5 (f_X5_goRound s a3)).bind fun p4 =>
      if l2 ≤ l3 then
        some (((1 : Int32) + l3), p4.2)
      else
        (gR p4.2 l0 6 8).bind fun a5 =>
        (aI p4.2 a5 10 l3).bind fun x6 =>
        if x6 = p4.1 then
          if l2 ≤ (l3 + (1 : Int32)) then
            some (((1 : Int32) + (l3 + (1 : Int32))), p4.2)
          else
            (gR p4.2 l0 6 8).bind fun a7 =>
            (aI p4.2 a7 10 (l3 + (1 : Int32))).bind fun x8 =>
            (gR p4.2 l0 6 2).bind fun a9 =>
            (cV p4.2 a9 5 (f_X5_knownTogether p4.2 a9)).bind fun p10 =>
            if x8 = p10.1 then
              k49 l0 l1 l2 ((l3 + (1 : Int32)) + (1 : Int32)) (l4 + (1 : Int32)) p10.2
            else
              some (((1 : Int32) + (l3 + (1 : Int32))), p10.2)
        else
          some (((1 : Int32) + l3), p4.2)
theorem b_X6_check_49 (E : jE) (k49 : Nat → Int32 → Int32 → Int32 → Int32 → hS → Option (Int32 × hS)) (h49 : ∀ (s : hS) (l0 : Nat) (l1 : Int32) (l2 : Int32) (l3 : Int32) (l4 : Int32) , Jo E M_X6_check cvI 49 [(0, .ref l0), (1, .int l1), (2, .int l2), (3, .int l3), (4, .int l4)] [] s (k49 l0 l1 l2 l3 l4 s)) (s : hS) (l0 : Nat) (l1 : Int32) (l2 : Int32) (l3 : Int32) (l4 : Int32)  : Jo E M_X6_check cvI 49 [(0, .ref l0), (1, .int l1), (2, .int l2), (3, .int l3), (4, .int l4)] [] s (f_X6_check_b49 k49 l0 l1 l2 l3 l4 s) := by
  unfold f_X6_check_b49
  refine Jo_iload 4 dX6_check_49 rfl ?_
  refine Jo_iloadn 1 dX6_check_51 rfl rfl ?_
  refine Jo_icmp_ge 134 dX6_check_52 (by decide) rfl ?_ ?_
  · refine Jo_sub [2, 3] rfl ?_
    exact b_X6_check_134 E s l2 l3
  · refine Jo_aloadn 0 dX6_check_55 rfl rfl ?_
    refine Jo_getR fF_6_2 fR_6_2 dX6_check_56 w_354 (fun a1 => ?_)
    refine Jo_getI fF_5_5 fI_5_5 dX6_check_59 w_426 (fun x2 => ?_)
    refine Jo_sipush (v := (999 : Int32)) dX6_check_62 (by decide) ?_
    refine Jo_icmp_ge 134 dX6_check_65 (by decide) rfl ?_ ?_
    · refine Jo_sub [2, 3] rfl ?_
      exact b_X6_check_134 E s l2 l3
    · refine Jo_aloadn 0 dX6_check_68 rfl rfl ?_
      refine Jo_getR fF_6_2 fR_6_2 dX6_check_69 w_354 (fun a3 => ?_)
      refine Jo_callVi (a := a3) (rest := []) [] cc_5 yF_X5_goRound yV_X5_goRound w_467 rfl rfl ⟨Nat.le_of_ble_eq_true rfl, Nat.le_of_ble_eq_true rfl, Nat.le_of_ble_eq_true rfl⟩ dX6_check_72 rfl (K_X5_goRound E s a3) (fun p4 => ?_)
      refine Jo_istore (ls' := [(5, .int p4.1), (0, .ref l0), (1, .int l1), (2, .int l2), (3, .int l3), (4, .int l4)]) dX6_check_75 (by decide) rfl ?_
      refine Jo_iloadn 4 dX6_check_77 rfl rfl ?_
      refine Jo_iloadn 3 dX6_check_78 rfl rfl ?_
      refine Jo_icmp_ge 93 dX6_check_79 (by decide) rfl ?_ ?_
      · refine Jo_iconst (v := (1 : Int32)) dX6_check_93 (by decide) ?_
        refine Jo_iloadn 4 dX6_check_94 rfl rfl ?_
        refine Jo_iadd dX6_check_95 ?_
        exact Jo_iret rfl dX6_check_96
      · refine Jo_aloadn 1 dX6_check_82 rfl rfl ?_
        refine Jo_getR fF_6_8 fR_6_8 dX6_check_83 w_339 (fun a5 => ?_)
        refine Jo_iloadn 4 dX6_check_86 rfl rfl ?_
        refine Jo_iaload dX6_check_87 (fun x6 => ?_)
        refine Jo_iload 0 dX6_check_88 rfl ?_
        refine Jo_icmp_eq 97 dX6_check_90 (by decide) rfl ?_ ?_
        · refine Jo_iinc (v := (l3 + (1 : Int32))) (ls' := [(3, .int (l3 + (1 : Int32))), (5, .int p4.1), (0, .ref l0), (1, .int l1), (2, .int l2), (4, .int l4)]) 4 dX6_check_97 rfl rfl (by decide) rfl ?_
          refine Jo_iloadn 0 dX6_check_100 rfl rfl ?_
          refine Jo_iloadn 4 dX6_check_101 rfl rfl ?_
          refine Jo_icmp_ge 121 dX6_check_102 (by decide) rfl ?_ ?_
          · refine Jo_iconst (v := (1 : Int32)) dX6_check_121 (by decide) ?_
            refine Jo_iloadn 0 dX6_check_122 rfl rfl ?_
            refine Jo_iadd dX6_check_123 ?_
            exact Jo_iret rfl dX6_check_124
          · refine Jo_aloadn 2 dX6_check_105 rfl rfl ?_
            refine Jo_getR fF_6_8 fR_6_8 dX6_check_106 w_339 (fun a7 => ?_)
            refine Jo_iloadn 0 dX6_check_109 rfl rfl ?_
            refine Jo_iaload dX6_check_110 (fun x8 => ?_)
            refine Jo_aloadn 2 dX6_check_111 rfl rfl ?_
            refine Jo_getR fF_6_2 fR_6_2 dX6_check_112 w_354 (fun a9 => ?_)
            refine Jo_callVi (a := a9) (rest := [.int x8]) [] cc_5 yF_X5_knownTogether yV_X5_knownTogether w_417 rfl rfl ⟨Nat.le_of_ble_eq_true rfl, Nat.le_of_ble_eq_true rfl, Nat.le_of_ble_eq_true rfl⟩ dX6_check_115 rfl (K_X5_knownTogether E p4.2 a9) (fun p10 => ?_)
            refine Jo_icmp_eq 125 dX6_check_118 (by decide) rfl ?_ ?_
            · refine Jo_iinc (v := ((l3 + (1 : Int32)) + (1 : Int32))) (ls' := [(3, .int ((l3 + (1 : Int32)) + (1 : Int32))), (5, .int p4.1), (0, .ref l0), (1, .int l1), (2, .int l2), (4, .int l4)]) 0 dX6_check_125 rfl rfl (by decide) rfl ?_
              refine Jo_iinc (v := (l4 + (1 : Int32))) (ls' := [(4, .int (l4 + (1 : Int32))), (3, .int ((l3 + (1 : Int32)) + (1 : Int32))), (5, .int p4.1), (0, .ref l0), (1, .int l1), (2, .int l2)]) 5 dX6_check_128 rfl rfl (by decide) rfl ?_
              refine Jo_goto 49 dX6_check_131 (by decide) ?_
              refine Jo_sub [3, 4, 5, 1, 0] rfl ?_
              exact h49 p10.2 l0 l1 l2 ((l3 + (1 : Int32)) + (1 : Int32)) (l4 + (1 : Int32))
            · refine Jo_iconst (v := (1 : Int32)) dX6_check_121 (by decide) ?_
              refine Jo_iloadn 0 dX6_check_122 rfl rfl ?_
              refine Jo_iadd dX6_check_123 ?_
              exact Jo_iret rfl dX6_check_124
        · refine Jo_iconst (v := (1 : Int32)) dX6_check_93 (by decide) ?_
          refine Jo_iloadn 4 dX6_check_94 rfl rfl ?_
          refine Jo_iadd dX6_check_95 ?_
          exact Jo_iret rfl dX6_check_96
theorem e_X6_check_49 (E : jE)  (n : Nat) : ∀ (s : hS) (l0 : Nat) (l1 : Int32) (l2 : Int32) (l3 : Int32) (l4 : Int32) , Jo E M_X6_check cvI 49 [(0, .ref l0), (1, .int l1), (2, .int l2), (3, .int l3), (4, .int l4)] [] s ((jL f_X6_check_b49 (fun _ _ _ _ _ _ => none) n) l0 l1 l2 l3 l4 s) :=
  jL_ind (P := fun f => ∀ (s : hS) (l0 : Nat) (l1 : Int32) (l2 : Int32) (l3 : Int32) (l4 : Int32) , Jo E M_X6_check cvI 49 [(0, .ref l0), (1, .int l1), (2, .int l2), (3, .int l3), (4, .int l4)] [] s (f l0 l1 l2 l3 l4 s)) (fun _ _ _ _ _ _ => Jo_none) (fun b hb s l0 l1 l2 l3 l4 => b_X6_check_49 E  b hb s l0 l1 l2 l3 l4) n
def f_X6_check (s : hS) (a0 : Nat) (i1 : Int32) : Option (Int32 × hS) :=
  (gI s a0 6 9).bind fun x1 =>
  (pI s a0 6 9 (0 : Int32)).bind fun s2 =>
  (f_X6_isOutside s2 i1 (1 : Int32) (30 : Int32)).bind fun p3 =>
  if p3.1 = 0 then
    (gI p3.2 a0 6 3).bind fun x4 =>
    if x4 = 0 then
      some ((-1000000002 : Int32), p3.2)
    else
      (gR p3.2 a0 6 2).bind fun a5 =>
      (gR p3.2 a0 6 1).bind fun a6 =>
      (cV p3.2 a5 5 (f_X5_becomes p3.2 a5 a6)).bind fun p7 =>
      jL f_X6_check_b49 (fun _ _ _ _ _ _ => none) jF a0 i1 x1 (0 : Int32) (0 : Int32) p7.2
  else
    some ((-1000000001 : Int32), p3.2)
theorem b_X6_check_in (E : jE)  (s : hS) (a0 : Nat) (i1 : Int32)  : Jo E M_X6_check cvI 0 [(0, .ref a0), (1, .int i1)] [] s (f_X6_check s a0 i1) := by
  unfold f_X6_check
  refine Jo_aloadn 0 dX6_check_0 rfl rfl ?_
  refine Jo_getI fF_6_9 fI_6_9 dX6_check_1 w_338 (fun x1 => ?_)
  refine Jo_istoren (ls' := [(2, .int x1), (0, .ref a0), (1, .int i1)]) dX6_check_4 rfl (by decide) rfl ?_
  refine Jo_aloadn 1 dX6_check_5 rfl rfl ?_
  refine Jo_iconst (v := (0 : Int32)) dX6_check_6 (by decide) ?_
  refine Jo_putI fF_6_9 fI_6_9 (Or.inl rfl) rfl dX6_check_7 w_338 (fun s2 => ?_)
  refine Jo_iloadn 2 dX6_check_10 rfl rfl ?_
  refine Jo_iconst (v := (1 : Int32)) dX6_check_11 (by decide) ?_
  refine Jo_bipush (v := (30 : Int32)) dX6_check_12 (by decide) ?_
  refine Jo_callSi (rest := []) [.int i1, .int (1 : Int32), .int (30 : Int32)] yF_X6_isOutside yS_X6_isOutside w_369 rfl rfl ⟨Nat.le_of_ble_eq_true rfl, Nat.le_of_ble_eq_true rfl, Nat.le_of_ble_eq_true rfl⟩ dX6_check_14 rfl (K_X6_isOutside E s2 i1 (1 : Int32) (30 : Int32)) (fun p3 => ?_)
  refine Jo_if_eq 23 dX6_check_17 (by decide) rfl ?_ ?_
  · refine Jo_aloadn 1 dX6_check_23 rfl rfl ?_
    refine Jo_getI fF_6_3 fI_6_3 dX6_check_24 w_353 (fun x4 => ?_)
    refine Jo_if_ne 33 dX6_check_27 (by decide) rfl ?_ ?_
    · refine Jo_ldc dX6_check_30 w_468 ?_
      exact Jo_iret rfl dX6_check_32
    · refine Jo_aloadn 1 dX6_check_33 rfl rfl ?_
      refine Jo_getR fF_6_2 fR_6_2 dX6_check_34 w_354 (fun a5 => ?_)
      refine Jo_aloadn 1 dX6_check_37 rfl rfl ?_
      refine Jo_getR fF_6_1 fR_6_1 dX6_check_38 w_358 (fun a6 => ?_)
      refine Jo_callVv (a := a5) (rest := []) [.ref a6] cc_5 yF_X5_becomes yV_X5_becomes w_483 rfl rfl ⟨Nat.le_of_ble_eq_true rfl, Nat.le_of_ble_eq_true rfl, Nat.le_of_ble_eq_true rfl⟩ dX6_check_41 rfl (K_X5_becomes E p3.2 a5 a6) (fun p7 => ?_)
      refine Jo_iconst (v := (0 : Int32)) dX6_check_44 (by decide) ?_
      refine Jo_istoren (ls' := [(3, .int (0 : Int32)), (2, .int x1), (0, .ref a0), (1, .int i1)]) dX6_check_45 rfl (by decide) rfl ?_
      refine Jo_iconst (v := (0 : Int32)) dX6_check_46 (by decide) ?_
      refine Jo_istore (ls' := [(4, .int (0 : Int32)), (3, .int (0 : Int32)), (2, .int x1), (0, .ref a0), (1, .int i1)]) dX6_check_47 (by decide) rfl ?_
      refine Jo_sub [3, 4, 2, 1, 0] rfl ?_
      exact e_X6_check_49 E jF p7.2 a0 i1 x1 (0 : Int32) (0 : Int32)
  · refine Jo_ldc dX6_check_20 w_368 ?_
    exact Jo_iret rfl dX6_check_22
theorem K_X6_check (E : jE) (s : hS) (a0 : Nat) (i1 : Int32) : jK E yX6_check M_X6_check cvI [.ref a0, .int i1] s (f_X6_check s a0 i1) := jK_of ⟨by decide, rfl, rfl⟩ (Nat.le_of_ble_eq_true rfl) (b_X6_check_in E s a0 i1)
/-! HeronTalk.keep()I -/
abbrev M_X6_keep : jM := (RX6, cX6_keep, 1, (some .int), "keep", 1, 22)
theorem yF_X6_keep : yF yX6_keep M_X6_keep 0 := ⟨w_588, w_278, by decide +kernel⟩
theorem yV_X6_keep : Cond.instanceMethod yX6_keep ∈ tbG ∧ Cond.selects yX6_keep.cls yX6_keep yX6_keep ∈ tbG := ⟨w_589, w_590⟩
theorem dX6_keep_0 : dI cX6_keep 0 1 (.aload_n 0) 1 := ⟨by decide +kernel, rfl⟩
theorem dX6_keep_1 : dI cX6_keep 1 4 (.getfield 16) 3 := ⟨by decide +kernel, rfl⟩
theorem dX6_keep_4 : dI cX6_keep 4 5 (.aload_n 0) 1 := ⟨by decide +kernel, rfl⟩
theorem dX6_keep_5 : dI cX6_keep 5 8 (.getfield 10) 3 := ⟨by decide +kernel, rfl⟩
theorem dX6_keep_8 : decode cX6_keep 8 = .ok (.invokevirtual 195, 3) := by decide +kernel
theorem dX6_keep_11 : dI cX6_keep 11 12 (.aload_n 0) 1 := ⟨by decide +kernel, rfl⟩
theorem dX6_keep_12 : dI cX6_keep 12 13 (.iconst 1) 1 := ⟨by decide +kernel, rfl⟩
theorem dX6_keep_13 : dI cX6_keep 13 16 (.putfield 22) 3 := ⟨by decide +kernel, rfl⟩
theorem dX6_keep_16 : dI cX6_keep 16 17 (.aload_n 0) 1 := ⟨by decide +kernel, rfl⟩
theorem dX6_keep_17 : dI cX6_keep 17 20 (.getfield 10) 3 := ⟨by decide +kernel, rfl⟩
theorem dX6_keep_20 : dI cX6_keep 20 23 (.getfield 146) 3 := ⟨by decide +kernel, rfl⟩
theorem dX6_keep_23 : dI cX6_keep 23 24 (.ireturn) 1 := ⟨by decide +kernel, rfl⟩
def f_X6_keep (s : hS) (a0 : Nat) : Option (Int32 × hS) :=
  (gR s a0 6 1).bind fun a1 =>
  (gR s a0 6 0).bind fun a2 =>
  (cV s a1 5 (f_X5_becomes s a1 a2)).bind fun p3 =>
  (pZ p3.2 a0 6 3 (1 : Int32)).bind fun s4 =>
  (gR s4 a0 6 0).bind fun a5 =>
  (gI s4 a5 5 3).bind fun x6 =>
  some (x6, s4)
theorem b_X6_keep_in (E : jE)  (s : hS) (a0 : Nat)  : Jo E M_X6_keep cvI 0 [(0, .ref a0)] [] s (f_X6_keep s a0) := by
  unfold f_X6_keep
  refine Jo_aloadn 0 dX6_keep_0 rfl rfl ?_
  refine Jo_getR fF_6_1 fR_6_1 dX6_keep_1 w_358 (fun a1 => ?_)
  refine Jo_aloadn 0 dX6_keep_4 rfl rfl ?_
  refine Jo_getR fF_6_0 fR_6_0 dX6_keep_5 w_359 (fun a2 => ?_)
  refine Jo_callVv (a := a1) (rest := []) [.ref a2] cc_5 yF_X5_becomes yV_X5_becomes w_483 rfl rfl ⟨Nat.le_of_ble_eq_true rfl, Nat.le_of_ble_eq_true rfl, Nat.le_of_ble_eq_true rfl⟩ dX6_keep_8 rfl (K_X5_becomes E s a1 a2) (fun p3 => ?_)
  refine Jo_aloadn 0 dX6_keep_11 rfl rfl ?_
  refine Jo_iconst (v := (1 : Int32)) dX6_keep_12 (by decide) ?_
  refine Jo_putZ fF_6_3 fI_6_3 (Or.inl rfl) rfl dX6_keep_13 w_353 (fun s4 => ?_)
  refine Jo_aloadn 0 dX6_keep_16 rfl rfl ?_
  refine Jo_getR fF_6_0 fR_6_0 dX6_keep_17 w_359 (fun a5 => ?_)
  refine Jo_getI fF_5_3 fI_5_3 dX6_keep_20 w_433 (fun x6 => ?_)
  exact Jo_iret rfl dX6_keep_23
theorem K_X6_keep (E : jE) (s : hS) (a0 : Nat) : jK E yX6_keep M_X6_keep cvI [.ref a0] s (f_X6_keep s a0) := jK_of ⟨by decide, rfl, rfl⟩ (Nat.le_of_ble_eq_true rfl) (b_X6_keep_in E s a0)
/-! HeronTalk.back()I -/
abbrev M_X6_back : jM := (RX6, cX6_back, 1, (some .int), "back", 1, 22)
theorem yF_X6_back : yF yX6_back M_X6_back 0 := ⟨w_591, w_278, by decide +kernel⟩
theorem yV_X6_back : Cond.instanceMethod yX6_back ∈ tbG ∧ Cond.selects yX6_back.cls yX6_back yX6_back ∈ tbG := ⟨w_592, w_593⟩
theorem dX6_back_0 : dI cX6_back 0 1 (.aload_n 0) 1 := ⟨by decide +kernel, rfl⟩
theorem dX6_back_1 : dI cX6_back 1 4 (.getfield 22) 3 := ⟨by decide +kernel, rfl⟩
theorem dX6_back_4 : decode cX6_back 4 = .ok (.ifCond .ne 6, 3) := by decide +kernel
theorem dX6_back_7 : dI cX6_back 7 9 (.ldc 188) 2 := ⟨by decide +kernel, rfl⟩
theorem dX6_back_9 : dI cX6_back 9 10 (.ireturn) 1 := ⟨by decide +kernel, rfl⟩
theorem dX6_back_10 : dI cX6_back 10 11 (.aload_n 0) 1 := ⟨by decide +kernel, rfl⟩
theorem dX6_back_11 : dI cX6_back 11 14 (.getfield 10) 3 := ⟨by decide +kernel, rfl⟩
theorem dX6_back_14 : dI cX6_back 14 15 (.aload_n 0) 1 := ⟨by decide +kernel, rfl⟩
theorem dX6_back_15 : dI cX6_back 15 18 (.getfield 16) 3 := ⟨by decide +kernel, rfl⟩
theorem dX6_back_18 : decode cX6_back 18 = .ok (.invokevirtual 195, 3) := by decide +kernel
theorem dX6_back_21 : dI cX6_back 21 22 (.aload_n 0) 1 := ⟨by decide +kernel, rfl⟩
theorem dX6_back_22 : dI cX6_back 22 25 (.getfield 10) 3 := ⟨by decide +kernel, rfl⟩
theorem dX6_back_25 : dI cX6_back 25 28 (.getfield 146) 3 := ⟨by decide +kernel, rfl⟩
theorem dX6_back_28 : dI cX6_back 28 29 (.ireturn) 1 := ⟨by decide +kernel, rfl⟩
def f_X6_back (s : hS) (a0 : Nat) : Option (Int32 × hS) :=
  (gI s a0 6 3).bind fun x1 =>
  if x1 = 0 then
    some ((-1000000002 : Int32), s)
  else
    (gR s a0 6 0).bind fun a2 =>
    (gR s a0 6 1).bind fun a3 =>
    (cV s a2 5 (f_X5_becomes s a2 a3)).bind fun p4 =>
    (gR p4.2 a0 6 0).bind fun a5 =>
    (gI p4.2 a5 5 3).bind fun x6 =>
    some (x6, p4.2)
theorem b_X6_back_in (E : jE)  (s : hS) (a0 : Nat)  : Jo E M_X6_back cvI 0 [(0, .ref a0)] [] s (f_X6_back s a0) := by
  unfold f_X6_back
  refine Jo_aloadn 0 dX6_back_0 rfl rfl ?_
  refine Jo_getI fF_6_3 fI_6_3 dX6_back_1 w_353 (fun x1 => ?_)
  refine Jo_if_ne 10 dX6_back_4 (by decide) rfl ?_ ?_
  · refine Jo_ldc dX6_back_7 w_468 ?_
    exact Jo_iret rfl dX6_back_9
  · refine Jo_aloadn 0 dX6_back_10 rfl rfl ?_
    refine Jo_getR fF_6_0 fR_6_0 dX6_back_11 w_359 (fun a2 => ?_)
    refine Jo_aloadn 0 dX6_back_14 rfl rfl ?_
    refine Jo_getR fF_6_1 fR_6_1 dX6_back_15 w_358 (fun a3 => ?_)
    refine Jo_callVv (a := a2) (rest := []) [.ref a3] cc_5 yF_X5_becomes yV_X5_becomes w_483 rfl rfl ⟨Nat.le_of_ble_eq_true rfl, Nat.le_of_ble_eq_true rfl, Nat.le_of_ble_eq_true rfl⟩ dX6_back_18 rfl (K_X5_becomes E s a2 a3) (fun p4 => ?_)
    refine Jo_aloadn 0 dX6_back_21 rfl rfl ?_
    refine Jo_getR fF_6_0 fR_6_0 dX6_back_22 w_359 (fun a5 => ?_)
    refine Jo_getI fF_5_3 fI_5_3 dX6_back_25 w_433 (fun x6 => ?_)
    exact Jo_iret rfl dX6_back_28
theorem K_X6_back (E : jE) (s : hS) (a0 : Nat) : jK E yX6_back M_X6_back cvI [.ref a0] s (f_X6_back s a0) := jK_of ⟨by decide, rfl, rfl⟩ (Nat.le_of_ble_eq_true rfl) (b_X6_back_in E s a0)
/-! HeronTalk.count(I)I -/
abbrev M_X6_count : jM := (RX6, cX6_count, 2, (some .int), "count", 2, 42)
theorem yF_X6_count : yF yX6_count M_X6_count 1 := ⟨w_595, w_278, by decide +kernel⟩
theorem yV_X6_count : Cond.instanceMethod yX6_count ∈ tbG ∧ Cond.selects yX6_count.cls yX6_count yX6_count ∈ tbG := ⟨w_596, w_597⟩
theorem dX6_count_0 : dI cX6_count 0 1 (.iload_n 1) 1 := ⟨by decide +kernel, rfl⟩
theorem dX6_count_1 : decode cX6_count 1 = .ok (.tableswitch 144 0 10 #[59, 67, 75, 83, 91, 99, 107, 115, 123, 128, 136], 59) := by decide +kernel
theorem dX6_count_60 : dI cX6_count 60 61 (.aload_n 0) 1 := ⟨by decide +kernel, rfl⟩
theorem dX6_count_61 : dI cX6_count 61 64 (.getfield 10) 3 := ⟨by decide +kernel, rfl⟩
theorem dX6_count_64 : dI cX6_count 64 67 (.getfield 68) 3 := ⟨by decide +kernel, rfl⟩
theorem dX6_count_67 : dI cX6_count 67 68 (.ireturn) 1 := ⟨by decide +kernel, rfl⟩
theorem dX6_count_68 : dI cX6_count 68 69 (.aload_n 0) 1 := ⟨by decide +kernel, rfl⟩
theorem dX6_count_69 : dI cX6_count 69 72 (.getfield 10) 3 := ⟨by decide +kernel, rfl⟩
theorem dX6_count_72 : dI cX6_count 72 75 (.getfield 92) 3 := ⟨by decide +kernel, rfl⟩
theorem dX6_count_75 : dI cX6_count 75 76 (.ireturn) 1 := ⟨by decide +kernel, rfl⟩
theorem dX6_count_76 : dI cX6_count 76 77 (.aload_n 0) 1 := ⟨by decide +kernel, rfl⟩
theorem dX6_count_77 : dI cX6_count 77 80 (.getfield 10) 3 := ⟨by decide +kernel, rfl⟩
theorem dX6_count_80 : dI cX6_count 80 83 (.getfield 146) 3 := ⟨by decide +kernel, rfl⟩
theorem dX6_count_83 : dI cX6_count 83 84 (.ireturn) 1 := ⟨by decide +kernel, rfl⟩
theorem dX6_count_84 : dI cX6_count 84 85 (.aload_n 0) 1 := ⟨by decide +kernel, rfl⟩
theorem dX6_count_85 : dI cX6_count 85 88 (.getfield 10) 3 := ⟨by decide +kernel, rfl⟩
theorem dX6_count_88 : dI cX6_count 88 91 (.getfield 120) 3 := ⟨by decide +kernel, rfl⟩
theorem dX6_count_91 : dI cX6_count 91 92 (.ireturn) 1 := ⟨by decide +kernel, rfl⟩
theorem dX6_count_92 : dI cX6_count 92 93 (.aload_n 0) 1 := ⟨by decide +kernel, rfl⟩
theorem dX6_count_93 : dI cX6_count 93 96 (.getfield 10) 3 := ⟨by decide +kernel, rfl⟩
theorem dX6_count_96 : dI cX6_count 96 99 (.getfield 140) 3 := ⟨by decide +kernel, rfl⟩
theorem dX6_count_99 : dI cX6_count 99 100 (.ireturn) 1 := ⟨by decide +kernel, rfl⟩
theorem dX6_count_100 : dI cX6_count 100 101 (.aload_n 0) 1 := ⟨by decide +kernel, rfl⟩
theorem dX6_count_101 : dI cX6_count 101 104 (.getfield 10) 3 := ⟨by decide +kernel, rfl⟩
theorem dX6_count_104 : dI cX6_count 104 107 (.getfield 327) 3 := ⟨by decide +kernel, rfl⟩
theorem dX6_count_107 : dI cX6_count 107 108 (.ireturn) 1 := ⟨by decide +kernel, rfl⟩
theorem dX6_count_108 : dI cX6_count 108 109 (.aload_n 0) 1 := ⟨by decide +kernel, rfl⟩
theorem dX6_count_109 : dI cX6_count 109 112 (.getfield 10) 3 := ⟨by decide +kernel, rfl⟩
theorem dX6_count_112 : decode cX6_count 112 = .ok (.invokevirtual 134, 3) := by decide +kernel
theorem dX6_count_115 : dI cX6_count 115 116 (.ireturn) 1 := ⟨by decide +kernel, rfl⟩
theorem dX6_count_116 : dI cX6_count 116 117 (.aload_n 0) 1 := ⟨by decide +kernel, rfl⟩
theorem dX6_count_117 : dI cX6_count 117 120 (.getfield 10) 3 := ⟨by decide +kernel, rfl⟩
theorem dX6_count_120 : dI cX6_count 120 123 (.getfield 237) 3 := ⟨by decide +kernel, rfl⟩
theorem dX6_count_123 : dI cX6_count 123 124 (.ireturn) 1 := ⟨by decide +kernel, rfl⟩
theorem dX6_count_124 : dI cX6_count 124 125 (.aload_n 0) 1 := ⟨by decide +kernel, rfl⟩
theorem dX6_count_125 : dI cX6_count 125 128 (.getfield 56) 3 := ⟨by decide +kernel, rfl⟩
theorem dX6_count_128 : dI cX6_count 128 129 (.ireturn) 1 := ⟨by decide +kernel, rfl⟩
theorem dX6_count_129 : dI cX6_count 129 130 (.aload_n 0) 1 := ⟨by decide +kernel, rfl⟩
theorem dX6_count_130 : dI cX6_count 130 133 (.getfield 37) 3 := ⟨by decide +kernel, rfl⟩
theorem dX6_count_133 : dI cX6_count 133 136 (.getfield 225) 3 := ⟨by decide +kernel, rfl⟩
theorem dX6_count_136 : dI cX6_count 136 137 (.ireturn) 1 := ⟨by decide +kernel, rfl⟩
theorem dX6_count_137 : dI cX6_count 137 138 (.aload_n 0) 1 := ⟨by decide +kernel, rfl⟩
theorem dX6_count_138 : dI cX6_count 138 141 (.getfield 10) 3 := ⟨by decide +kernel, rfl⟩
theorem dX6_count_141 : dI cX6_count 141 144 (.getfield 137) 3 := ⟨by decide +kernel, rfl⟩
theorem dX6_count_144 : dI cX6_count 144 145 (.ireturn) 1 := ⟨by decide +kernel, rfl⟩
theorem dX6_count_145 : dI cX6_count 145 147 (.ldc 67) 2 := ⟨by decide +kernel, rfl⟩
theorem dX6_count_147 : dI cX6_count 147 148 (.ireturn) 1 := ⟨by decide +kernel, rfl⟩
def f_X6_count (s : hS) (a0 : Nat) (i1 : Int32) : Option (Int32 × hS) :=
  if i1 = (0 : Int32) then
    (gR s a0 6 0).bind fun a2 =>
    (gI s a2 5 0).bind fun x3 =>
    some (x3, s)
  else
  if i1 = (1 : Int32) then
    (gR s a0 6 0).bind fun a5 =>
    (gI s a5 5 1).bind fun x6 =>
    some (x6, s)
  else
  if i1 = (2 : Int32) then
    (gR s a0 6 0).bind fun a8 =>
    (gI s a8 5 3).bind fun x9 =>
    some (x9, s)
  else
  if i1 = (3 : Int32) then
    (gR s a0 6 0).bind fun a11 =>
    (gI s a11 5 2).bind fun x12 =>
    some (x12, s)
  else
  if i1 = (4 : Int32) then
    (gR s a0 6 0).bind fun a14 =>
    (gI s a14 5 5).bind fun x15 =>
    some (x15, s)
  else
  if i1 = (5 : Int32) then
    (gR s a0 6 0).bind fun a17 =>
    (gI s a17 5 6).bind fun x18 =>
    some (x18, s)
  else
  if i1 = (6 : Int32) then
    (gR s a0 6 0).bind fun a20 =>
    (cV s a20 5 (f_X5_knownTogether s a20)).bind fun p21 =>
    some (p21.1, p21.2)
  else
  if i1 = (7 : Int32) then
    (gR s a0 6 0).bind fun a23 =>
    (gI s a23 5 4).bind fun x24 =>
    some (x24, s)
  else
  if i1 = (8 : Int32) then
    (gI s a0 6 9).bind fun x26 =>
    some (x26, s)
  else
  if i1 = (9 : Int32) then
    (gR s a0 6 4).bind fun a28 =>
    (gI s a28 3 1).bind fun x29 =>
    some (x29, s)
  else
  if i1 = (10 : Int32) then
    (gR s a0 6 0).bind fun a31 =>
    (gI s a31 5 7).bind fun x32 =>
    some (x32, s)
  else
  some ((-1000000001 : Int32), s)
theorem b_X6_count_in (E : jE)  (s : hS) (a0 : Nat) (i1 : Int32)  : Jo E M_X6_count cvI 0 [(0, .ref a0), (1, .int i1)] [] s (f_X6_count s a0 i1) := by
  unfold f_X6_count
  refine Jo_iloadn 1 dX6_count_0 rfl rfl ?_
  refine Jo_case ?_ (fun g1 => ?_)
  · refine Jo_tabIn (off := 59) 60 dX6_count_1 (by decide) (by decide) (by decide) (by decide) ?_
    refine Jo_aloadn 0 dX6_count_60 rfl rfl ?_
    refine Jo_getR fF_6_0 fR_6_0 dX6_count_61 w_359 (fun a2 => ?_)
    refine Jo_getI fF_5_0 fI_5_0 dX6_count_64 w_367 (fun x3 => ?_)
    exact Jo_iret rfl dX6_count_67
  refine Jo_case ?_ (fun g4 => ?_)
  · refine Jo_tabIn (off := 67) 68 dX6_count_1 (by decide) (by decide) (by decide) (by decide) ?_
    refine Jo_aloadn 0 dX6_count_68 rfl rfl ?_
    refine Jo_getR fF_6_0 fR_6_0 dX6_count_69 w_359 (fun a5 => ?_)
    refine Jo_getI fF_5_1 fI_5_1 dX6_count_72 w_388 (fun x6 => ?_)
    exact Jo_iret rfl dX6_count_75
  refine Jo_case ?_ (fun g7 => ?_)
  · refine Jo_tabIn (off := 75) 76 dX6_count_1 (by decide) (by decide) (by decide) (by decide) ?_
    refine Jo_aloadn 0 dX6_count_76 rfl rfl ?_
    refine Jo_getR fF_6_0 fR_6_0 dX6_count_77 w_359 (fun a8 => ?_)
    refine Jo_getI fF_5_3 fI_5_3 dX6_count_80 w_433 (fun x9 => ?_)
    exact Jo_iret rfl dX6_count_83
  refine Jo_case ?_ (fun g10 => ?_)
  · refine Jo_tabIn (off := 83) 84 dX6_count_1 (by decide) (by decide) (by decide) (by decide) ?_
    refine Jo_aloadn 0 dX6_count_84 rfl rfl ?_
    refine Jo_getR fF_6_0 fR_6_0 dX6_count_85 w_359 (fun a11 => ?_)
    refine Jo_getI fF_5_2 fI_5_2 dX6_count_88 w_409 (fun x12 => ?_)
    exact Jo_iret rfl dX6_count_91
  refine Jo_case ?_ (fun g13 => ?_)
  · refine Jo_tabIn (off := 91) 92 dX6_count_1 (by decide) (by decide) (by decide) (by decide) ?_
    refine Jo_aloadn 0 dX6_count_92 rfl rfl ?_
    refine Jo_getR fF_6_0 fR_6_0 dX6_count_93 w_359 (fun a14 => ?_)
    refine Jo_getI fF_5_5 fI_5_5 dX6_count_96 w_426 (fun x15 => ?_)
    exact Jo_iret rfl dX6_count_99
  refine Jo_case ?_ (fun g16 => ?_)
  · refine Jo_tabIn (off := 99) 100 dX6_count_1 (by decide) (by decide) (by decide) (by decide) ?_
    refine Jo_aloadn 0 dX6_count_100 rfl rfl ?_
    refine Jo_getR fF_6_0 fR_6_0 dX6_count_101 w_359 (fun a17 => ?_)
    refine Jo_getI fF_5_6 fI_5_6 dX6_count_104 w_594 (fun x18 => ?_)
    exact Jo_iret rfl dX6_count_107
  refine Jo_case ?_ (fun g19 => ?_)
  · refine Jo_tabIn (off := 107) 108 dX6_count_1 (by decide) (by decide) (by decide) (by decide) ?_
    refine Jo_aloadn 0 dX6_count_108 rfl rfl ?_
    refine Jo_getR fF_6_0 fR_6_0 dX6_count_109 w_359 (fun a20 => ?_)
    refine Jo_callVi (a := a20) (rest := []) [] cc_5 yF_X5_knownTogether yV_X5_knownTogether w_417 rfl rfl ⟨Nat.le_of_ble_eq_true rfl, Nat.le_of_ble_eq_true rfl, Nat.le_of_ble_eq_true rfl⟩ dX6_count_112 rfl (K_X5_knownTogether E s a20) (fun p21 => ?_)
    exact Jo_iret rfl dX6_count_115
  refine Jo_case ?_ (fun g22 => ?_)
  · refine Jo_tabIn (off := 115) 116 dX6_count_1 (by decide) (by decide) (by decide) (by decide) ?_
    refine Jo_aloadn 0 dX6_count_116 rfl rfl ?_
    refine Jo_getR fF_6_0 fR_6_0 dX6_count_117 w_359 (fun a23 => ?_)
    refine Jo_getI fF_5_4 fI_5_4 dX6_count_120 w_513 (fun x24 => ?_)
    exact Jo_iret rfl dX6_count_123
  refine Jo_case ?_ (fun g25 => ?_)
  · refine Jo_tabIn (off := 123) 124 dX6_count_1 (by decide) (by decide) (by decide) (by decide) ?_
    refine Jo_aloadn 0 dX6_count_124 rfl rfl ?_
    refine Jo_getI fF_6_9 fI_6_9 dX6_count_125 w_338 (fun x26 => ?_)
    exact Jo_iret rfl dX6_count_128
  refine Jo_case ?_ (fun g27 => ?_)
  · refine Jo_tabIn (off := 128) 129 dX6_count_1 (by decide) (by decide) (by decide) (by decide) ?_
    refine Jo_aloadn 0 dX6_count_129 rfl rfl ?_
    refine Jo_getR fF_6_4 fR_6_4 dX6_count_130 w_347 (fun a28 => ?_)
    refine Jo_getI fF_3_1 fI_3_1 dX6_count_133 w_503 (fun x29 => ?_)
    exact Jo_iret rfl dX6_count_136
  refine Jo_case ?_ (fun g30 => ?_)
  · refine Jo_tabIn (off := 136) 137 dX6_count_1 (by decide) (by decide) (by decide) (by decide) ?_
    refine Jo_aloadn 0 dX6_count_137 rfl rfl ?_
    refine Jo_getR fF_6_0 fR_6_0 dX6_count_138 w_359 (fun a31 => ?_)
    refine Jo_getI fF_5_7 fI_5_7 dX6_count_141 w_422 (fun x32 => ?_)
    exact Jo_iret rfl dX6_count_144
  refine Jo_tabOut 145 dX6_count_1 (by have qg1 := i32ne 0 (by decide) g1; have qg4 := i32ne 1 (by decide) g4; have qg7 := i32ne 2 (by decide) g7; have qg10 := i32ne 3 (by decide) g10; have qg13 := i32ne 4 (by decide) g13; have qg16 := i32ne 5 (by decide) g16; have qg19 := i32ne 6 (by decide) g19; have qg22 := i32ne 7 (by decide) g22; have qg25 := i32ne 8 (by decide) g25; have qg27 := i32ne 9 (by decide) g27; have qg30 := i32ne 10 (by decide) g30; omega) (by decide) ?_
  refine Jo_ldc dX6_count_145 w_368 ?_
  exact Jo_iret rfl dX6_count_147
theorem K_X6_count (E : jE) (s : hS) (a0 : Nat) (i1 : Int32) : jK E yX6_count M_X6_count cvI [.ref a0, .int i1] s (f_X6_count s a0 i1) := jK_of ⟨by decide, rfl, rfl⟩ (Nat.le_of_ble_eq_true rfl) (b_X6_count_in E s a0 i1)
