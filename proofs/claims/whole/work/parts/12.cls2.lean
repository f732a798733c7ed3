/-! HeronTalk$Reader.takeSign(I)I -/
abbrev M_X0_takeSign : jM := (RX0, cX0_takeSign, 4, (some .int), "takeSign", 3, 62)
theorem yF_X0_takeSign : yF yX0_takeSign M_X0_takeSign 1 := ⟨w_112, w_32, by decide +kernel⟩
theorem yV_X0_takeSign : Cond.instanceMethod yX0_takeSign ∈ tbG ∧ Cond.selects yX0_takeSign.cls yX0_takeSign yX0_takeSign ∈ tbG := ⟨w_113, w_114⟩
theorem dX0_takeSign_0 : dI cX0_takeSign 0 1 (.aload_n 0) 1 := ⟨by decide +kernel, rfl⟩
theorem dX0_takeSign_1 : dI cX0_takeSign 1 4 (.getfield 12) 3 := ⟨by decide +kernel, rfl⟩
theorem dX0_takeSign_4 : dI cX0_takeSign 4 5 (.iload_n 1) 1 := ⟨by decide +kernel, rfl⟩
theorem dX0_takeSign_5 : decode cX0_takeSign 5 = .ok (.invokevirtual 91, 3) := by decide +kernel
theorem dX0_takeSign_8 : dI cX0_takeSign 8 9 (.istore_n 2) 1 := ⟨by decide +kernel, rfl⟩
theorem dX0_takeSign_9 : dI cX0_takeSign 9 10 (.iload_n 2) 1 := ⟨by decide +kernel, rfl⟩
theorem dX0_takeSign_10 : dI cX0_takeSign 10 12 (.bipush 41) 2 := ⟨by decide +kernel, rfl⟩
theorem dX0_takeSign_12 : decode cX0_takeSign 12 = .ok (.if_icmp .ne 52, 3) := by decide +kernel
theorem dX0_takeSign_15 : dI cX0_takeSign 15 16 (.aload_n 0) 1 := ⟨by decide +kernel, rfl⟩
theorem dX0_takeSign_16 : dI cX0_takeSign 16 19 (.getfield 35) 3 := ⟨by decide +kernel, rfl⟩
theorem dX0_takeSign_19 : decode cX0_takeSign 19 = .ok (.ifCond .eq 10, 3) := by decide +kernel
theorem dX0_takeSign_22 : dI cX0_takeSign 22 23 (.aload_n 0) 1 := ⟨by decide +kernel, rfl⟩
theorem dX0_takeSign_23 : dI cX0_takeSign 23 26 (.getfield 29) 3 := ⟨by decide +kernel, rfl⟩
theorem dX0_takeSign_26 : decode cX0_takeSign 26 = .ok (.ifCond .ne 5, 3) := by decide +kernel
theorem dX0_takeSign_29 : dI cX0_takeSign 29 30 (.iconst (-1)) 1 := ⟨by decide +kernel, rfl⟩
theorem dX0_takeSign_30 : dI cX0_takeSign 30 31 (.ireturn) 1 := ⟨by decide +kernel, rfl⟩
theorem dX0_takeSign_31 : dI cX0_takeSign 31 32 (.aload_n 0) 1 := ⟨by decide +kernel, rfl⟩
theorem dX0_takeSign_32 : dI cX0_takeSign 32 33 (.iconst 1) 1 := ⟨by decide +kernel, rfl⟩
theorem dX0_takeSign_33 : decode cX0_takeSign 33 = .ok (.invokevirtual 72, 3) := by decide +kernel
theorem dX0_takeSign_36 : dI cX0_takeSign 36 37 (.aload_n 0) 1 := ⟨by decide +kernel, rfl⟩
theorem dX0_takeSign_37 : dI cX0_takeSign 37 38 (.dup) 1 := ⟨by decide +kernel, rfl⟩
theorem dX0_takeSign_38 : dI cX0_takeSign 38 41 (.getfield 29) 3 := ⟨by decide +kernel, rfl⟩
theorem dX0_takeSign_41 : dI cX0_takeSign 41 42 (.iconst 1) 1 := ⟨by decide +kernel, rfl⟩
theorem dX0_takeSign_42 : dI cX0_takeSign 42 43 (.isub) 1 := ⟨by decide +kernel, rfl⟩
theorem dX0_takeSign_43 : dI cX0_takeSign 43 46 (.putfield 29) 3 := ⟨by decide +kernel, rfl⟩
theorem dX0_takeSign_46 : dI cX0_takeSign 46 47 (.aload_n 0) 1 := ⟨by decide +kernel, rfl⟩
theorem dX0_takeSign_47 : dI cX0_takeSign 47 48 (.dup) 1 := ⟨by decide +kernel, rfl⟩
theorem dX0_takeSign_48 : dI cX0_takeSign 48 51 (.getfield 35) 3 := ⟨by decide +kernel, rfl⟩
theorem dX0_takeSign_51 : dI cX0_takeSign 51 52 (.iconst 1) 1 := ⟨by decide +kernel, rfl⟩
theorem dX0_takeSign_52 : dI cX0_takeSign 52 53 (.isub) 1 := ⟨by decide +kernel, rfl⟩
theorem dX0_takeSign_53 : dI cX0_takeSign 53 56 (.putfield 35) 3 := ⟨by decide +kernel, rfl⟩
theorem dX0_takeSign_56 : dI cX0_takeSign 56 57 (.aload_n 0) 1 := ⟨by decide +kernel, rfl⟩
theorem dX0_takeSign_57 : decode cX0_takeSign 57 = .ok (.invokevirtual 109, 3) := by decide +kernel
theorem dX0_takeSign_60 : dI cX0_takeSign 60 61 (.iload_n 1) 1 := ⟨by decide +kernel, rfl⟩
theorem dX0_takeSign_61 : dI cX0_takeSign 61 62 (.iconst 1) 1 := ⟨by decide +kernel, rfl⟩
theorem dX0_takeSign_62 : dI cX0_takeSign 62 63 (.iadd) 1 := ⟨by decide +kernel, rfl⟩
theorem dX0_takeSign_63 : dI cX0_takeSign 63 64 (.ireturn) 1 := ⟨by decide +kernel, rfl⟩
theorem dX0_takeSign_64 : dI cX0_takeSign 64 65 (.aload_n 0) 1 := ⟨by decide +kernel, rfl⟩
theorem dX0_takeSign_65 : dI cX0_takeSign 65 66 (.iload_n 2) 1 := ⟨by decide +kernel, rfl⟩
theorem dX0_takeSign_66 : decode cX0_takeSign 66 = .ok (.invokevirtual 112, 3) := by decide +kernel
theorem dX0_takeSign_69 : dI cX0_takeSign 69 70 (.istore_n 3) 1 := ⟨by decide +kernel, rfl⟩
theorem dX0_takeSign_70 : dI cX0_takeSign 70 71 (.iload_n 3) 1 := ⟨by decide +kernel, rfl⟩
theorem dX0_takeSign_71 : decode cX0_takeSign 71 = .ok (.ifCond .ne 5, 3) := by decide +kernel
theorem dX0_takeSign_74 : dI cX0_takeSign 74 75 (.iconst (-1)) 1 := ⟨by decide +kernel, rfl⟩
theorem dX0_takeSign_75 : dI cX0_takeSign 75 76 (.ireturn) 1 := ⟨by decide +kernel, rfl⟩
theorem dX0_takeSign_76 : dI cX0_takeSign 76 77 (.aload_n 0) 1 := ⟨by decide +kernel, rfl⟩
theorem dX0_takeSign_77 : dI cX0_takeSign 77 78 (.iload_n 3) 1 := ⟨by decide +kernel, rfl⟩
theorem dX0_takeSign_78 : dI cX0_takeSign 78 79 (.iconst 3) 1 := ⟨by decide +kernel, rfl⟩
theorem dX0_takeSign_79 : decode cX0_takeSign 79 = .ok (.if_icmp .ne 9, 3) := by decide +kernel
theorem dX0_takeSign_82 : dI cX0_takeSign 82 83 (.iload_n 3) 1 := ⟨by decide +kernel, rfl⟩
theorem dX0_takeSign_83 : dI cX0_takeSign 83 84 (.iconst 1) 1 := ⟨by decide +kernel, rfl⟩
theorem dX0_takeSign_84 : dI cX0_takeSign 84 85 (.iadd) 1 := ⟨by decide +kernel, rfl⟩
theorem dX0_takeSign_85 : decode cX0_takeSign 85 = .ok (.goto 4, 3) := by decide +kernel
theorem dX0_takeSign_88 : dI cX0_takeSign 88 89 (.iload_n 3) 1 := ⟨by decide +kernel, rfl⟩
theorem dX0_takeSign_89 : decode cX0_takeSign 89 = .ok (.invokevirtual 72, 3) := by decide +kernel
theorem dX0_takeSign_92 : dI cX0_takeSign 92 93 (.iload_n 3) 1 := ⟨by decide +kernel, rfl⟩
theorem dX0_takeSign_93 : dI cX0_takeSign 93 94 (.iconst 3) 1 := ⟨by decide +kernel, rfl⟩
theorem dX0_takeSign_94 : decode cX0_takeSign 94 = .ok (.if_icmp .ne 13, 3) := by decide +kernel
theorem dX0_takeSign_97 : dI cX0_takeSign 97 98 (.aload_n 0) 1 := ⟨by decide +kernel, rfl⟩
theorem dX0_takeSign_98 : decode cX0_takeSign 98 = .ok (.invokevirtual 115, 3) := by decide +kernel
theorem dX0_takeSign_101 : dI cX0_takeSign 101 102 (.iconst 3) 1 := ⟨by decide +kernel, rfl⟩
theorem dX0_takeSign_102 : decode cX0_takeSign 102 = .ok (.if_icmp .ne 5, 3) := by decide +kernel
theorem dX0_takeSign_105 : dI cX0_takeSign 105 106 (.iconst (-1)) 1 := ⟨by decide +kernel, rfl⟩
theorem dX0_takeSign_106 : dI cX0_takeSign 106 107 (.ireturn) 1 := ⟨by decide +kernel, rfl⟩
theorem dX0_takeSign_107 : dI cX0_takeSign 107 108 (.aload_n 0) 1 := ⟨by decide +kernel, rfl⟩
theorem dX0_takeSign_108 : dI cX0_takeSign 108 109 (.iload_n 2) 1 := ⟨by decide +kernel, rfl⟩
theorem dX0_takeSign_109 : decode cX0_takeSign 109 = .ok (.invokevirtual 106, 3) := by decide +kernel
theorem dX0_takeSign_112 : dI cX0_takeSign 112 113 (.aload_n 0) 1 := ⟨by decide +kernel, rfl⟩
theorem dX0_takeSign_113 : dI cX0_takeSign 113 114 (.iconst 1) 1 := ⟨by decide +kernel, rfl⟩
theorem dX0_takeSign_114 : dI cX0_takeSign 114 117 (.putfield 41) 3 := ⟨by decide +kernel, rfl⟩
theorem dX0_takeSign_117 : dI cX0_takeSign 117 118 (.iload_n 1) 1 := ⟨by decide +kernel, rfl⟩
theorem dX0_takeSign_118 : dI cX0_takeSign 118 119 (.iconst 1) 1 := ⟨by decide +kernel, rfl⟩
theorem dX0_takeSign_119 : dI cX0_takeSign 119 120 (.iadd) 1 := ⟨by decide +kernel, rfl⟩
theorem dX0_takeSign_120 : dI cX0_takeSign 120 121 (.ireturn) 1 := ⟨by decide +kernel, rfl⟩
def f_X0_takeSign_b107 (l0 : Nat) (l1 : Int32) (l2 : Int32) (s : hS) : Option (Int32 × hS) :=
  (cV s l0 0 (f_X0_pileUp s l0 l2)).bind fun p1 =>
  (pZ p1.2 l0 0 9 (1 : Int32)).bind fun s2 =>
  some ((l1 + (1 : Int32)), s2)
theorem b_X0_takeSign_107 (E : jE)  (s : hS) (l0 : Nat) (l1 : Int32) (l2 : Int32)  : Jo E M_X0_takeSign cvI 107 [(0, .ref l0), (1, .int l1), (2, .int l2)] [] s (f_X0_takeSign_b107  l0 l1 l2 s) := by
  unfold f_X0_takeSign_b107
  refine Jo_aloadn 0 dX0_takeSign_107 rfl rfl ?_
  refine Jo_iloadn 2 dX0_takeSign_108 rfl rfl ?_
  refine Jo_callVv (a := l0) (rest := []) [.int l2] cc_0 yF_X0_pileUp yV_X0_pileUp w_88 rfl rfl ⟨Nat.le_of_ble_eq_true rfl, Nat.le_of_ble_eq_true rfl, Nat.le_of_ble_eq_true rfl⟩ dX0_takeSign_109 rfl (K_X0_pileUp E s l0 l2) (fun p1 => ?_)
  refine Jo_aloadn 0 dX0_takeSign_112 rfl rfl ?_
  refine Jo_iconst (v := (1 : Int32)) dX0_takeSign_113 (by decide) ?_
  refine Jo_putZ fF_0_9 fI_0_9 (Or.inl rfl) rfl dX0_takeSign_114 w_72 (fun s2 => ?_)
  refine Jo_iloadn 1 dX0_takeSign_117 rfl rfl ?_
  refine Jo_iconst (v := (1 : Int32)) dX0_takeSign_118 (by decide) ?_
  refine Jo_iadd dX0_takeSign_119 ?_
  exact Jo_iret rfl dX0_takeSign_120
def f_X0_takeSign_b89 (l0 : Nat) (l1 : Int32) (l2 : Int32) (l3 : Int32) (t0 : Nat) (t1 : Int32) (s : hS) : Option (Int32 × hS) :=
  (cV s t0 0 (f_X0_release s t0 t1)).bind fun p1 =>
  if l3 = (3 : Int32) then
    (cV p1.2 l0 0 (f_X0_topRank p1.2 l0)).bind fun p2 =>
    if p2.1 = (3 : Int32) then
      some ((-1 : Int32), p2.2)
    else
      f_X0_takeSign_b107 l0 l1 l2 p2.2
  else
    f_X0_takeSign_b107 l0 l1 l2 p1.2
theorem b_X0_takeSign_89 (E : jE)  (s : hS) (l0 : Nat) (l1 : Int32) (l2 : Int32) (l3 : Int32) (t0 : Nat) (t1 : Int32) : Jo E M_X0_takeSign cvI 89 [(0, .ref l0), (1, .int l1), (2, .int l2), (3, .int l3)] [.int t1, .ref t0] s (f_X0_takeSign_b89  l0 l1 l2 l3 t0 t1 s) := by
  unfold f_X0_takeSign_b89
  refine Jo_callVv (a := t0) (rest := []) [.int t1] cc_0 yF_X0_release yV_X0_release w_111 rfl rfl ⟨Nat.le_of_ble_eq_true rfl, Nat.le_of_ble_eq_true rfl, Nat.le_of_ble_eq_true rfl⟩ dX0_takeSign_89 rfl (K_X0_release E s t0 t1) (fun p1 => ?_)
  refine Jo_iloadn 3 dX0_takeSign_92 rfl rfl ?_
  refine Jo_iconst (v := (3 : Int32)) dX0_takeSign_93 (by decide) ?_
  refine Jo_icmp_ne 107 dX0_takeSign_94 (by decide) rfl ?_ ?_
  · refine Jo_aloadn 0 dX0_takeSign_97 rfl rfl ?_
    refine Jo_callVi (a := l0) (rest := []) [] cc_0 yF_X0_topRank yV_X0_topRank w_107 rfl rfl ⟨Nat.le_of_ble_eq_true rfl, Nat.le_of_ble_eq_true rfl, Nat.le_of_ble_eq_true rfl⟩ dX0_takeSign_98 rfl (K_X0_topRank E p1.2 l0) (fun p2 => ?_)
    refine Jo_iconst (v := (3 : Int32)) dX0_takeSign_101 (by decide) ?_
    refine Jo_icmp_ne 107 dX0_takeSign_102 (by decide) rfl ?_ ?_
    · refine Jo_iconst (v := (-1 : Int32)) dX0_takeSign_105 (by decide) ?_
      exact Jo_iret rfl dX0_takeSign_106
    · refine Jo_sub [0, 1, 2] rfl ?_
      exact b_X0_takeSign_107 E p2.2 l0 l1 l2
  · refine Jo_sub [0, 1, 2] rfl ?_
    exact b_X0_takeSign_107 E p1.2 l0 l1 l2
def f_X0_takeSign (s : hS) (a0 : Nat) (i1 : Int32) : Option (Int32 × hS) :=
  (gR s a0 0 0).bind fun a1 =>
  (cV s a1 3 (f_X3_at s a1 i1)).bind fun p2 =>
  if p2.1 = (41 : Int32) then
    (gI p2.2 a0 0 7).bind fun x4 =>
    if x4 = 0 then
      some ((-1 : Int32), p2.2)
    else
      (gI p2.2 a0 0 4).bind fun x5 =>
      if x5 = 0 then
        some ((-1 : Int32), p2.2)
      else
        (cV p2.2 a0 0 (f_X0_release p2.2 a0 (1 : Int32))).bind fun p6 =>
        (gI p6.2 a0 0 4).bind fun x7 =>
        (pI p6.2 a0 0 4 (x7 - (1 : Int32))).bind fun s8 =>
        (gI s8 a0 0 7).bind fun x9 =>
        (pI s8 a0 0 7 (x9 - (1 : Int32))).bind fun s10 =>
        (cV s10 a0 0 (f_X0_endPiece s10 a0)).bind fun p11 =>
        some ((i1 + (1 : Int32)), p11.2)
  else
    (cV p2.2 a0 0 (f_X0_rankOf p2.2 a0 p2.1)).bind fun p3 =>
    if p3.1 = 0 then
      some ((-1 : Int32), p3.2)
    else
      if p3.1 = (3 : Int32) then
        f_X0_takeSign_b89 a0 i1 p2.1 p3.1 a0 (p3.1 + (1 : Int32)) p3.2
      else
        f_X0_takeSign_b89 a0 i1 p2.1 p3.1 a0 p3.1 p3.2
theorem b_X0_takeSign_in (E : jE)  (s : hS) (a0 : Nat) (i1 : Int32)  : Jo E M_X0_takeSign cvI 0 [(0, .ref a0), (1, .int i1)] [] s (f_X0_takeSign s a0 i1) := by
  unfold f_X0_takeSign
  refine Jo_aloadn 0 dX0_takeSign_0 rfl rfl ?_
  refine Jo_getR fF_0_0 fR_0_0 dX0_takeSign_1 w_26 (fun a1 => ?_)
  refine Jo_iloadn 1 dX0_takeSign_4 rfl rfl ?_
  refine Jo_callVi (a := a1) (rest := []) [.int i1] cc_3 yF_X3_at yV_X3_at w_95 rfl rfl ⟨Nat.le_of_ble_eq_true rfl, Nat.le_of_ble_eq_true rfl, Nat.le_of_ble_eq_true rfl⟩ dX0_takeSign_5 rfl (K_X3_at E s a1 i1) (fun p2 => ?_)
  refine Jo_istoren (ls' := [(2, .int p2.1), (0, .ref a0), (1, .int i1)]) dX0_takeSign_8 rfl (by decide) rfl ?_
  refine Jo_iloadn 0 dX0_takeSign_9 rfl rfl ?_
  refine Jo_bipush (v := (41 : Int32)) dX0_takeSign_10 (by decide) ?_
  refine Jo_icmp_ne 64 dX0_takeSign_12 (by decide) rfl ?_ ?_
  · refine Jo_aloadn 1 dX0_takeSign_15 rfl rfl ?_
    refine Jo_getI fF_0_7 fI_0_7 dX0_takeSign_16 w_89 (fun x4 => ?_)
    refine Jo_if_eq 29 dX0_takeSign_19 (by decide) rfl ?_ ?_
    · refine Jo_iconst (v := (-1 : Int32)) dX0_takeSign_29 (by decide) ?_
      exact Jo_iret rfl dX0_takeSign_30
    · refine Jo_aloadn 1 dX0_takeSign_22 rfl rfl ?_
      refine Jo_getI fF_0_4 fI_0_4 dX0_takeSign_23 w_71 (fun x5 => ?_)
      refine Jo_if_ne 31 dX0_takeSign_26 (by decide) rfl ?_ ?_
      · refine Jo_iconst (v := (-1 : Int32)) dX0_takeSign_29 (by decide) ?_
        exact Jo_iret rfl dX0_takeSign_30
      · refine Jo_aloadn 1 dX0_takeSign_31 rfl rfl ?_
        refine Jo_iconst (v := (1 : Int32)) dX0_takeSign_32 (by decide) ?_
        refine Jo_callVv (a := a0) (rest := []) [.int (1 : Int32)] cc_0 yF_X0_release yV_X0_release w_111 rfl rfl ⟨Nat.le_of_ble_eq_true rfl, Nat.le_of_ble_eq_true rfl, Nat.le_of_ble_eq_true rfl⟩ dX0_takeSign_33 rfl (K_X0_release E p2.2 a0 (1 : Int32)) (fun p6 => ?_)
        refine Jo_aloadn 1 dX0_takeSign_36 rfl rfl ?_
        refine Jo_dup dX0_takeSign_37 rfl ?_
        refine Jo_getI fF_0_4 fI_0_4 dX0_takeSign_38 w_71 (fun x7 => ?_)
        refine Jo_iconst (v := (1 : Int32)) dX0_takeSign_41 (by decide) ?_
        refine Jo_isub dX0_takeSign_42 ?_
        refine Jo_putI fF_0_4 fI_0_4 (Or.inl rfl) rfl dX0_takeSign_43 w_71 (fun s8 => ?_)
        refine Jo_aloadn 1 dX0_takeSign_46 rfl rfl ?_
        refine Jo_dup dX0_takeSign_47 rfl ?_
        refine Jo_getI fF_0_7 fI_0_7 dX0_takeSign_48 w_89 (fun x9 => ?_)
        refine Jo_iconst (v := (1 : Int32)) dX0_takeSign_51 (by decide) ?_
        refine Jo_isub dX0_takeSign_52 ?_
        refine Jo_putI fF_0_7 fI_0_7 (Or.inl rfl) rfl dX0_takeSign_53 w_89 (fun s10 => ?_)
        refine Jo_aloadn 1 dX0_takeSign_56 rfl rfl ?_
        refine Jo_callVv (a := a0) (rest := []) [] cc_0 yF_X0_endPiece yV_X0_endPiece w_76 rfl rfl ⟨Nat.le_of_ble_eq_true rfl, Nat.le_of_ble_eq_true rfl, Nat.le_of_ble_eq_true rfl⟩ dX0_takeSign_57 rfl (K_X0_endPiece E s10 a0) (fun p11 => ?_)
        refine Jo_iloadn 2 dX0_takeSign_60 rfl rfl ?_
        refine Jo_iconst (v := (1 : Int32)) dX0_takeSign_61 (by decide) ?_
        refine Jo_iadd dX0_takeSign_62 ?_
        exact Jo_iret rfl dX0_takeSign_63
  · refine Jo_aloadn 1 dX0_takeSign_64 rfl rfl ?_
    refine Jo_iloadn 0 dX0_takeSign_65 rfl rfl ?_
    refine Jo_callVi (a := a0) (rest := []) [.int p2.1] cc_0 yF_X0_rankOf yV_X0_rankOf w_103 rfl rfl ⟨Nat.le_of_ble_eq_true rfl, Nat.le_of_ble_eq_true rfl, Nat.le_of_ble_eq_true rfl⟩ dX0_takeSign_66 rfl (K_X0_rankOf E p2.2 a0 p2.1) (fun p3 => ?_)
    refine Jo_istoren (ls' := [(3, .int p3.1), (2, .int p2.1), (0, .ref a0), (1, .int i1)]) dX0_takeSign_69 rfl (by decide) rfl ?_
    refine Jo_iloadn 0 dX0_takeSign_70 rfl rfl ?_
    refine Jo_if_ne 76 dX0_takeSign_71 (by decide) rfl ?_ ?_
    · refine Jo_iconst (v := (-1 : Int32)) dX0_takeSign_74 (by decide) ?_
      exact Jo_iret rfl dX0_takeSign_75
    · refine Jo_aloadn 2 dX0_takeSign_76 rfl rfl ?_
      refine Jo_iloadn 0 dX0_takeSign_77 rfl rfl ?_
      refine Jo_iconst (v := (3 : Int32)) dX0_takeSign_78 (by decide) ?_
      refine Jo_icmp_ne 88 dX0_takeSign_79 (by decide) rfl ?_ ?_
      · refine Jo_iloadn 0 dX0_takeSign_82 rfl rfl ?_
        refine Jo_iconst (v := (1 : Int32)) dX0_takeSign_83 (by decide) ?_
        refine Jo_iadd dX0_takeSign_84 ?_
        refine Jo_goto 89 dX0_takeSign_85 (by decide) ?_
        refine Jo_sub [2, 3, 1, 0] rfl ?_
        exact b_X0_takeSign_89 E p3.2 a0 i1 p2.1 p3.1 a0 (p3.1 + (1 : Int32))
      · refine Jo_iloadn 0 dX0_takeSign_88 rfl rfl ?_
        refine Jo_sub [2, 3, 1, 0] rfl ?_
        exact b_X0_takeSign_89 E p3.2 a0 i1 p2.1 p3.1 a0 p3.1
theorem K_X0_takeSign (E : jE) (s : hS) (a0 : Nat) (i1 : Int32) : jK E yX0_takeSign M_X0_takeSign cvI [.ref a0, .int i1] s (f_X0_takeSign s a0 i1) := jK_of ⟨by decide, rfl, rfl⟩ (Nat.le_of_ble_eq_true rfl) (b_X0_takeSign_in E s a0 i1)
/-! HeronTalk$Reader.findFault()I -/
abbrev M_X0_findFault : jM := (RX0, cX0_findFault, 4, (some .int), "findFault", 7, 196)
theorem yF_X0_findFault : yF yX0_findFault M_X0_findFault 0 := ⟨w_120, w_32, by decide +kernel⟩
theorem yV_X0_findFault : Cond.instanceMethod yX0_findFault ∈ tbG ∧ Cond.selects yX0_findFault.cls yX0_findFault yX0_findFault ∈ tbG := ⟨w_121, w_122⟩
theorem dX0_findFault_0 : dI cX0_findFault 0 1 (.aload_n 0) 1 := ⟨by decide +kernel, rfl⟩
theorem dX0_findFault_1 : dI cX0_findFault 1 2 (.iconst 0) 1 := ⟨by decide +kernel, rfl⟩
theorem dX0_findFault_2 : dI cX0_findFault 2 5 (.putfield 25) 3 := ⟨by decide +kernel, rfl⟩
theorem dX0_findFault_5 : dI cX0_findFault 5 6 (.aload_n 0) 1 := ⟨by decide +kernel, rfl⟩
theorem dX0_findFault_6 : dI cX0_findFault 6 7 (.iconst 0) 1 := ⟨by decide +kernel, rfl⟩
theorem dX0_findFault_7 : dI cX0_findFault 7 10 (.putfield 29) 3 := ⟨by decide +kernel, rfl⟩
theorem dX0_findFault_10 : dI cX0_findFault 10 11 (.aload_n 0) 1 := ⟨by decide +kernel, rfl⟩
theorem dX0_findFault_11 : dI cX0_findFault 11 12 (.iconst 0) 1 := ⟨by decide +kernel, rfl⟩
theorem dX0_findFault_12 : dI cX0_findFault 12 15 (.putfield 32) 3 := ⟨by decide +kernel, rfl⟩
theorem dX0_findFault_15 : dI cX0_findFault 15 16 (.aload_n 0) 1 := ⟨by decide +kernel, rfl⟩
theorem dX0_findFault_16 : dI cX0_findFault 16 17 (.iconst 0) 1 := ⟨by decide +kernel, rfl⟩
theorem dX0_findFault_17 : dI cX0_findFault 17 20 (.putfield 35) 3 := ⟨by decide +kernel, rfl⟩
theorem dX0_findFault_20 : dI cX0_findFault 20 21 (.aload_n 0) 1 := ⟨by decide +kernel, rfl⟩
theorem dX0_findFault_21 : dI cX0_findFault 21 22 (.iconst 0) 1 := ⟨by decide +kernel, rfl⟩
theorem dX0_findFault_22 : dI cX0_findFault 22 25 (.putfield 38) 3 := ⟨by decide +kernel, rfl⟩
theorem dX0_findFault_25 : dI cX0_findFault 25 26 (.aload_n 0) 1 := ⟨by decide +kernel, rfl⟩
theorem dX0_findFault_26 : dI cX0_findFault 26 27 (.iconst 1) 1 := ⟨by decide +kernel, rfl⟩
theorem dX0_findFault_27 : dI cX0_findFault 27 30 (.putfield 41) 3 := ⟨by decide +kernel, rfl⟩
theorem dX0_findFault_30 : dI cX0_findFault 30 31 (.aload_n 0) 1 := ⟨by decide +kernel, rfl⟩
theorem dX0_findFault_31 : dI cX0_findFault 31 34 (.getfield 12) 3 := ⟨by decide +kernel, rfl⟩
theorem dX0_findFault_34 : dI cX0_findFault 34 35 (.iconst 0) 1 := ⟨by decide +kernel, rfl⟩
theorem dX0_findFault_35 : decode cX0_findFault 35 = .ok (.invokevirtual 45, 3) := by decide +kernel
theorem dX0_findFault_38 : dI cX0_findFault 38 39 (.istore_n 1) 1 := ⟨by decide +kernel, rfl⟩
theorem dX0_findFault_39 : dI cX0_findFault 39 40 (.aload_n 0) 1 := ⟨by decide +kernel, rfl⟩
theorem dX0_findFault_40 : dI cX0_findFault 40 43 (.getfield 12) 3 := ⟨by decide +kernel, rfl⟩
theorem dX0_findFault_43 : dI cX0_findFault 43 44 (.iload_n 1) 1 := ⟨by decide +kernel, rfl⟩
theorem dX0_findFault_44 : decode cX0_findFault 44 = .ok (.invokevirtual 49, 3) := by decide +kernel
theorem dX0_findFault_47 : dI cX0_findFault 47 48 (.istore_n 2) 1 := ⟨by decide +kernel, rfl⟩
theorem dX0_findFault_48 : dI cX0_findFault 48 49 (.aload_n 0) 1 := ⟨by decide +kernel, rfl⟩
theorem dX0_findFault_49 : dI cX0_findFault 49 50 (.aload_n 0) 1 := ⟨by decide +kernel, rfl⟩
theorem dX0_findFault_50 : dI cX0_findFault 50 51 (.iload_n 1) 1 := ⟨by decide +kernel, rfl⟩
theorem dX0_findFault_51 : dI cX0_findFault 51 52 (.iload_n 2) 1 := ⟨by decide +kernel, rfl⟩
theorem dX0_findFault_52 : decode cX0_findFault 52 = .ok (.invokevirtual 52, 3) := by decide +kernel
theorem dX0_findFault_55 : dI cX0_findFault 55 58 (.putfield 56) 3 := ⟨by decide +kernel, rfl⟩
theorem dX0_findFault_58 : dI cX0_findFault 58 59 (.aload_n 0) 1 := ⟨by decide +kernel, rfl⟩
theorem dX0_findFault_59 : dI cX0_findFault 59 62 (.getfield 56) 3 := ⟨by decide +kernel, rfl⟩
theorem dX0_findFault_62 : dI cX0_findFault 62 63 (.iconst (-1)) 1 := ⟨by decide +kernel, rfl⟩
theorem dX0_findFault_63 : decode cX0_findFault 63 = .ok (.if_icmp .ne 5, 3) := by decide +kernel
theorem dX0_findFault_66 : dI cX0_findFault 66 67 (.iload_n 1) 1 := ⟨by decide +kernel, rfl⟩
theorem dX0_findFault_67 : dI cX0_findFault 67 68 (.ireturn) 1 := ⟨by decide +kernel, rfl⟩
theorem dX0_findFault_68 : dI cX0_findFault 68 69 (.aload_n 0) 1 := ⟨by decide +kernel, rfl⟩
theorem dX0_findFault_69 : dI cX0_findFault 69 72 (.getfield 12) 3 := ⟨by decide +kernel, rfl⟩
theorem dX0_findFault_72 : dI cX0_findFault 72 73 (.iload_n 2) 1 := ⟨by decide +kernel, rfl⟩
theorem dX0_findFault_73 : decode cX0_findFault 73 = .ok (.invokevirtual 59, 3) := by decide +kernel
theorem dX0_findFault_76 : decode cX0_findFault 76 = .ok (.ifCond .eq 5, 3) := by decide +kernel
theorem dX0_findFault_79 : dI cX0_findFault 79 80 (.iload_n 2) 1 := ⟨by decide +kernel, rfl⟩
theorem dX0_findFault_80 : dI cX0_findFault 80 81 (.ireturn) 1 := ⟨by decide +kernel, rfl⟩
theorem dX0_findFault_81 : dI cX0_findFault 81 82 (.iconst 0) 1 := ⟨by decide +kernel, rfl⟩
theorem dX0_findFault_82 : dI cX0_findFault 82 83 (.istore_n 3) 1 := ⟨by decide +kernel, rfl⟩
theorem dX0_findFault_83 : dI cX0_findFault 83 84 (.iload_n 3) 1 := ⟨by decide +kernel, rfl⟩
theorem dX0_findFault_84 : dI cX0_findFault 84 86 (.bipush 96) 2 := ⟨by decide +kernel, rfl⟩
theorem dX0_findFault_86 : decode cX0_findFault 86 = .ok (.if_icmp .ge 60, 3) := by decide +kernel
theorem dX0_findFault_89 : dI cX0_findFault 89 90 (.aload_n 0) 1 := ⟨by decide +kernel, rfl⟩
theorem dX0_findFault_90 : dI cX0_findFault 90 93 (.getfield 12) 3 := ⟨by decide +kernel, rfl⟩
theorem dX0_findFault_93 : dI cX0_findFault 93 94 (.iload_n 2) 1 := ⟨by decide +kernel, rfl⟩
theorem dX0_findFault_94 : decode cX0_findFault 94 = .ok (.invokevirtual 45, 3) := by decide +kernel
theorem dX0_findFault_97 : dI cX0_findFault 97 98 (.istore_n 1) 1 := ⟨by decide +kernel, rfl⟩
theorem dX0_findFault_98 : dI cX0_findFault 98 99 (.iload_n 1) 1 := ⟨by decide +kernel, rfl⟩
theorem dX0_findFault_99 : dI cX0_findFault 99 100 (.aload_n 0) 1 := ⟨by decide +kernel, rfl⟩
theorem dX0_findFault_100 : dI cX0_findFault 100 103 (.getfield 12) 3 := ⟨by decide +kernel, rfl⟩
theorem dX0_findFault_103 : dI cX0_findFault 103 106 (.getfield 63) 3 := ⟨by decide +kernel, rfl⟩
theorem dX0_findFault_106 : decode cX0_findFault 106 = .ok (.if_icmp .lt 6, 3) := by decide +kernel
theorem dX0_findFault_109 : decode cX0_findFault 109 = .ok (.goto 37, 3) := by decide +kernel
theorem dX0_findFault_112 : dI cX0_findFault 112 113 (.aload_n 0) 1 := ⟨by decide +kernel, rfl⟩
theorem dX0_findFault_113 : dI cX0_findFault 113 116 (.getfield 41) 3 := ⟨by decide +kernel, rfl⟩
theorem dX0_findFault_116 : decode cX0_findFault 116 = .ok (.ifCond .eq 11, 3) := by decide +kernel
theorem dX0_findFault_119 : dI cX0_findFault 119 120 (.aload_n 0) 1 := ⟨by decide +kernel, rfl⟩
theorem dX0_findFault_120 : dI cX0_findFault 120 121 (.iload_n 1) 1 := ⟨by decide +kernel, rfl⟩
theorem dX0_findFault_121 : decode cX0_findFault 121 = .ok (.invokevirtual 66, 3) := by decide +kernel
theorem dX0_findFault_124 : decode cX0_findFault 124 = .ok (.goto 8, 3) := by decide +kernel
theorem dX0_findFault_127 : dI cX0_findFault 127 128 (.aload_n 0) 1 := ⟨by decide +kernel, rfl⟩
theorem dX0_findFault_128 : dI cX0_findFault 128 129 (.iload_n 1) 1 := ⟨by decide +kernel, rfl⟩
theorem dX0_findFault_129 : decode cX0_findFault 129 = .ok (.invokevirtual 69, 3) := by decide +kernel
theorem dX0_findFault_132 : dI cX0_findFault 132 133 (.istore_n 2) 1 := ⟨by decide +kernel, rfl⟩
theorem dX0_findFault_133 : dI cX0_findFault 133 134 (.iload_n 2) 1 := ⟨by decide +kernel, rfl⟩
theorem dX0_findFault_134 : dI cX0_findFault 134 135 (.iconst (-1)) 1 := ⟨by decide +kernel, rfl⟩
theorem dX0_findFault_135 : decode cX0_findFault 135 = .ok (.if_icmp .ne 5, 3) := by decide +kernel
theorem dX0_findFault_138 : dI cX0_findFault 138 139 (.iload_n 1) 1 := ⟨by decide +kernel, rfl⟩
theorem dX0_findFault_139 : dI cX0_findFault 139 140 (.ireturn) 1 := ⟨by decide +kernel, rfl⟩
theorem dX0_findFault_140 : dI cX0_findFault 140 143 (.iinc 3 1) 3 := ⟨by decide +kernel, rfl⟩
theorem dX0_findFault_143 : decode cX0_findFault 143 = .ok (.goto (-60), 3) := by decide +kernel
theorem dX0_findFault_146 : dI cX0_findFault 146 147 (.aload_n 0) 1 := ⟨by decide +kernel, rfl⟩
theorem dX0_findFault_147 : dI cX0_findFault 147 150 (.getfield 41) 3 := ⟨by decide +kernel, rfl⟩
theorem dX0_findFault_150 : decode cX0_findFault 150 = .ok (.ifCond .ne 10, 3) := by decide +kernel
theorem dX0_findFault_153 : dI cX0_findFault 153 154 (.aload_n 0) 1 := ⟨by decide +kernel, rfl⟩
theorem dX0_findFault_154 : dI cX0_findFault 154 157 (.getfield 35) 3 := ⟨by decide +kernel, rfl⟩
theorem dX0_findFault_157 : decode cX0_findFault 157 = .ok (.ifCond .le 11, 3) := by decide +kernel
theorem dX0_findFault_160 : dI cX0_findFault 160 161 (.aload_n 0) 1 := ⟨by decide +kernel, rfl⟩
theorem dX0_findFault_161 : dI cX0_findFault 161 164 (.getfield 12) 3 := ⟨by decide +kernel, rfl⟩
theorem dX0_findFault_164 : dI cX0_findFault 164 167 (.getfield 63) 3 := ⟨by decide +kernel, rfl⟩
theorem dX0_findFault_167 : dI cX0_findFault 167 168 (.ireturn) 1 := ⟨by decide +kernel, rfl⟩
theorem dX0_findFault_168 : dI cX0_findFault 168 169 (.aload_n 0) 1 := ⟨by decide +kernel, rfl⟩
theorem dX0_findFault_169 : dI cX0_findFault 169 170 (.iconst 1) 1 := ⟨by decide +kernel, rfl⟩
theorem dX0_findFault_170 : decode cX0_findFault 170 = .ok (.invokevirtual 72, 3) := by decide +kernel
theorem dX0_findFault_173 : dI cX0_findFault 173 174 (.iconst (-1)) 1 := ⟨by decide +kernel, rfl⟩
theorem dX0_findFault_174 : dI cX0_findFault 174 175 (.ireturn) 1 := ⟨by decide +kernel, rfl⟩
def f_X0_findFault_b146 (l0 : Nat) (s : hS) : Option (Int32 × hS) :=
  (gI s l0 0 9).bind fun x1 =>
  if x1 = 0 then
    (gI s l0 0 7).bind fun x4 =>
    if x4 ≤ 0 then
      (cV s l0 0 (f_X0_release s l0 (1 : Int32))).bind fun p5 =>
      some ((-1 : Int32), p5.2)
    else
      (gR s l0 0 0).bind fun a6 =>
      (gI s a6 3 1).bind fun x7 =>
      some (x7, s)
  else
    (gR s l0 0 0).bind fun a2 =>
    (gI s a2 3 1).bind fun x3 =>
    some (x3, s)
theorem b_X0_findFault_146 (E : jE)  (s : hS) (l0 : Nat)  : Jo E M_X0_findFault cvI 146 [(0, .ref l0)] [] s (f_X0_findFault_b146  l0 s) := by
  unfold f_X0_findFault_b146
  refine Jo_aloadn 0 dX0_findFault_146 rfl rfl ?_
  refine Jo_getI fF_0_9 fI_0_9 dX0_findFault_147 w_72 (fun x1 => ?_)
  refine Jo_if_ne 160 dX0_findFault_150 (by decide) rfl ?_ ?_
  · refine Jo_aloadn 0 dX0_findFault_153 rfl rfl ?_
    refine Jo_getI fF_0_7 fI_0_7 dX0_findFault_154 w_89 (fun x4 => ?_)
    refine Jo_if_le 168 dX0_findFault_157 (by decide) rfl ?_ ?_
    · refine Jo_aloadn 0 dX0_findFault_168 rfl rfl ?_
      refine Jo_iconst (v := (1 : Int32)) dX0_findFault_169 (by decide) ?_
      refine Jo_callVv (a := l0) (rest := []) [.int (1 : Int32)] cc_0 yF_X0_release yV_X0_release w_111 rfl rfl ⟨Nat.le_of_ble_eq_true rfl, Nat.le_of_ble_eq_true rfl, Nat.le_of_ble_eq_true rfl⟩ dX0_findFault_170 rfl (K_X0_release E s l0 (1 : Int32)) (fun p5 => ?_)
      refine Jo_iconst (v := (-1 : Int32)) dX0_findFault_173 (by decide) ?_
      exact Jo_iret rfl dX0_findFault_174
    · refine Jo_aloadn 0 dX0_findFault_160 rfl rfl ?_
      refine Jo_getR fF_0_0 fR_0_0 dX0_findFault_161 w_26 (fun a6 => ?_)
      refine Jo_getI fF_3_1 fI_3_1 dX0_findFault_164 w_115 (fun x7 => ?_)
      exact Jo_iret rfl dX0_findFault_167
  · refine Jo_aloadn 0 dX0_findFault_160 rfl rfl ?_
    refine Jo_getR fF_0_0 fR_0_0 dX0_findFault_161 w_26 (fun a2 => ?_)
    refine Jo_getI fF_3_1 fI_3_1 dX0_findFault_164 w_115 (fun x3 => ?_)
    exact Jo_iret rfl dX0_findFault_167
def f_X0_findFault_b132 (k83 : Nat → Int32 → Int32 → hS → Option (Int32 × hS)) (l0 : Nat) (l1 : Int32) (l3 : Int32) (t0 : Int32) (s : hS) : Option (Int32 × hS) :=
  if t0 = (-1 : Int32) then
    some (l1, s)
  else
    k83 l0 t0 (l3 + (1 : Int32)) s
theorem b_X0_findFault_132 (E : jE) (k83 : Nat → Int32 → Int32 → hS → Option (Int32 × hS)) (h83 : ∀ (s : hS) (l0 : Nat) (l2 : Int32) (l3 : Int32) , Jo E M_X0_findFault cvI 83 [(0, .ref l0), (2, .int l2), (3, .int l3)] [] s (k83 l0 l2 l3 s)) (s : hS) (l0 : Nat) (l1 : Int32) (l3 : Int32) (t0 : Int32) : Jo E M_X0_findFault cvI 132 [(0, .ref l0), (1, .int l1), (3, .int l3)] [.int t0] s (f_X0_findFault_b132 k83 l0 l1 l3 t0 s) := by
  unfold f_X0_findFault_b132
  refine Jo_istoren (ls' := [(2, .int t0), (0, .ref l0), (1, .int l1), (3, .int l3)]) dX0_findFault_132 rfl (by decide) rfl ?_
  refine Jo_iloadn 0 dX0_findFault_133 rfl rfl ?_
  refine Jo_iconst (v := (-1 : Int32)) dX0_findFault_134 (by decide) ?_
  refine Jo_icmp_ne 140 dX0_findFault_135 (by decide) rfl ?_ ?_
  · refine Jo_iloadn 2 dX0_findFault_138 rfl rfl ?_
    exact Jo_iret rfl dX0_findFault_139
  · refine Jo_iinc (v := (l3 + (1 : Int32))) (ls' := [(3, .int (l3 + (1 : Int32))), (2, .int t0), (0, .ref l0), (1, .int l1)]) 3 dX0_findFault_140 rfl rfl (by decide) rfl ?_
    refine Jo_goto 83 dX0_findFault_143 (by decide) ?_
    refine Jo_sub [2, 1, 0] rfl ?_
    exact h83 s l0 t0 (l3 + (1 : Int32))
def f_X0_findFault_b83 (k83 : Nat → Int32 → Int32 → hS → Option (Int32 × hS)) (l0 : Nat) (l2 : Int32) (l3 : Int32) (s : hS) : Option (Int32 × hS) :=
  if (96 : Int32) ≤ l3 then
    f_X0_findFault_b146 l0 s
  else
    (gR s l0 0 0).bind fun a1 =>
    (cV s a1 3 (f_X3_behindBlanks s a1 l2)).bind fun p2 =>
    (gR p2.2 l0 0 0).bind fun a3 =>
    (gI p2.2 a3 3 1).bind fun x4 =>
    if p2.1 < x4 then
      (gI p2.2 l0 0 9).bind fun x5 =>
      if x5 = 0 then
        (cV p2.2 l0 0 (f_X0_takeSign p2.2 l0 p2.1)).bind fun p6 =>
        f_X0_findFault_b132 k83 l0 p2.1 l3 p6.1 p6.2
      else
        (cV p2.2 l0 0 (f_X0_takePiece p2.2 l0 p2.1)).bind fun p7 =>
        f_X0_findFault_b132 k83 l0 p2.1 l3 p7.1 p7.2
    else
      f_X0_findFault_b146 l0 p2.2
theorem b_X0_findFault_83 (E : jE) (k83 : Nat → Int32 → Int32 → hS → Option (Int32 × hS)) (h83 : ∀ (s : hS) (l0 : Nat) (l2 : Int32) (l3 : Int32) , Jo E M_X0_findFault cvI 83 [(0, .ref l0), (2, .int l2), (3, .int l3)] [] s (k83 l0 l2 l3 s)) (s : hS) (l0 : Nat) (l2 : Int32) (l3 : Int32)  : Jo E M_X0_findFault cvI 83 [(0, .ref l0), (2, .int l2), (3, .int l3)] [] s (f_X0_findFault_b83 k83 l0 l2 l3 s) := by
  unfold f_X0_findFault_b83
  refine Jo_iloadn 2 dX0_findFault_83 rfl rfl ?_
  refine Jo_bipush (v := (96 : Int32)) dX0_findFault_84 (by decide) ?_
  refine Jo_icmp_ge 146 dX0_findFault_86 (by decide) rfl ?_ ?_
  · refine Jo_sub [0] rfl ?_
    exact b_X0_findFault_146 E s l0
  · refine Jo_aloadn 0 dX0_findFault_89 rfl rfl ?_
    refine Jo_getR fF_0_0 fR_0_0 dX0_findFault_90 w_26 (fun a1 => ?_)
    refine Jo_iloadn 1 dX0_findFault_93 rfl rfl ?_
    refine Jo_callVi (a := a1) (rest := []) [.int l2] cc_3 yF_X3_behindBlanks yV_X3_behindBlanks w_118 rfl rfl ⟨Nat.le_of_ble_eq_true rfl, Nat.le_of_ble_eq_true rfl, Nat.le_of_ble_eq_true rfl⟩ dX0_findFault_94 rfl (K_X3_behindBlanks E s a1 l2) (fun p2 => ?_)
    refine Jo_istoren (ls' := [(1, .int p2.1), (0, .ref l0), (2, .int l2), (3, .int l3)]) dX0_findFault_97 rfl (by decide) rfl ?_
    refine Jo_iloadn 0 dX0_findFault_98 rfl rfl ?_
    refine Jo_aloadn 1 dX0_findFault_99 rfl rfl ?_
    refine Jo_getR fF_0_0 fR_0_0 dX0_findFault_100 w_26 (fun a3 => ?_)
    refine Jo_getI fF_3_1 fI_3_1 dX0_findFault_103 w_115 (fun x4 => ?_)
    refine Jo_icmp_lt 112 dX0_findFault_106 (by decide) rfl ?_ ?_
    · refine Jo_aloadn 1 dX0_findFault_112 rfl rfl ?_
      refine Jo_getI fF_0_9 fI_0_9 dX0_findFault_113 w_72 (fun x5 => ?_)
      refine Jo_if_eq 127 dX0_findFault_116 (by decide) rfl ?_ ?_
      · refine Jo_aloadn 1 dX0_findFault_127 rfl rfl ?_
        refine Jo_iloadn 0 dX0_findFault_128 rfl rfl ?_
        refine Jo_callVi (a := l0) (rest := []) [.int p2.1] cc_0 yF_X0_takeSign yV_X0_takeSign w_116 rfl rfl ⟨Nat.le_of_ble_eq_true rfl, Nat.le_of_ble_eq_true rfl, Nat.le_of_ble_eq_true rfl⟩ dX0_findFault_129 rfl (K_X0_takeSign E p2.2 l0 p2.1) (fun p6 => ?_)
        refine Jo_sub [1, 0, 3] rfl ?_
        exact b_X0_findFault_132 E k83 h83 p6.2 l0 p2.1 l3 p6.1
      · refine Jo_aloadn 1 dX0_findFault_119 rfl rfl ?_
        refine Jo_iloadn 0 dX0_findFault_120 rfl rfl ?_
        refine Jo_callVi (a := l0) (rest := []) [.int p2.1] cc_0 yF_X0_takePiece yV_X0_takePiece w_117 rfl rfl ⟨Nat.le_of_ble_eq_true rfl, Nat.le_of_ble_eq_true rfl, Nat.le_of_ble_eq_true rfl⟩ dX0_findFault_121 rfl (K_X0_takePiece E p2.2 l0 p2.1) (fun p7 => ?_)
        refine Jo_goto 132 dX0_findFault_124 (by decide) ?_
        refine Jo_sub [1, 0, 3] rfl ?_
        exact b_X0_findFault_132 E k83 h83 p7.2 l0 p2.1 l3 p7.1
    · refine Jo_goto 146 dX0_findFault_109 (by decide) ?_
      refine Jo_sub [1] rfl ?_
      exact b_X0_findFault_146 E p2.2 l0
theorem e_X0_findFault_83 (E : jE)  (n : Nat) : ∀ (s : hS) (l0 : Nat) (l2 : Int32) (l3 : Int32) , Jo E M_X0_findFault cvI 83 [(0, .ref l0), (2, .int l2), (3, .int l3)] [] s ((jL f_X0_findFault_b83 (fun _ _ _ _ => none) n) l0 l2 l3 s) :=
  jL_ind (P := fun f => ∀ (s : hS) (l0 : Nat) (l2 : Int32) (l3 : Int32) , Jo E M_X0_findFault cvI 83 [(0, .ref l0), (2, .int l2), (3, .int l3)] [] s (f l0 l2 l3 s)) (fun _ _ _ _ => Jo_none) (fun b hb s l0 l2 l3 => b_X0_findFault_83 E  b hb s l0 l2 l3) n
def f_X0_findFault (s : hS) (a0 : Nat) : Option (Int32 × hS) :=
  (pI s a0 0 2 (0 : Int32)).bind fun s1 =>
  (pI s1 a0 0 4 (0 : Int32)).bind fun s2 =>
  (pI s2 a0 0 6 (0 : Int32)).bind fun s3 =>
  (pI s3 a0 0 7 (0 : Int32)).bind fun s4 =>
  (pI s4 a0 0 8 (0 : Int32)).bind fun s5 =>
  (pZ s5 a0 0 9 (1 : Int32)).bind fun s6 =>
  (gR s6 a0 0 0).bind fun a7 =>
  (cV s6 a7 3 (f_X3_behindBlanks s6 a7 (0 : Int32))).bind fun p8 =>
  (gR p8.2 a0 0 0).bind fun a9 =>
  (cV p8.2 a9 3 (f_X3_behindWord p8.2 a9 p8.1)).bind fun p10 =>
  (cV p10.2 a0 0 (f_X0_keyAt p10.2 a0 p8.1 p10.1)).bind fun p11 =>
  (pI p11.2 a0 0 5 p11.1).bind fun s12 =>
  (gI s12 a0 0 5).bind fun x13 =>
  if x13 = (-1 : Int32) then
    some (p8.1, s12)
  else
    (gR s12 a0 0 0).bind fun a14 =>
    (cV s12 a14 3 (f_X3_hasDigit s12 a14 p10.1)).bind fun p15 =>
    if p15.1 = 0 then
      jL f_X0_findFault_b83 (fun _ _ _ _ => none) jF a0 p10.1 (0 : Int32) p15.2
    else
      some (p10.1, p15.2)
theorem b_X0_findFault_in (E : jE)  (s : hS) (a0 : Nat)  : Jo E M_X0_findFault cvI 0 [(0, .ref a0)] [] s (f_X0_findFault s a0) := by
  unfold f_X0_findFault
  refine Jo_aloadn 0 dX0_findFault_0 rfl rfl ?_
  refine Jo_iconst (v := (0 : Int32)) dX0_findFault_1 (by decide) ?_
  refine Jo_putI fF_0_2 fI_0_2 (Or.inl rfl) rfl dX0_findFault_2 w_65 (fun s1 => ?_)
  refine Jo_aloadn 0 dX0_findFault_5 rfl rfl ?_
  refine Jo_iconst (v := (0 : Int32)) dX0_findFault_6 (by decide) ?_
  refine Jo_putI fF_0_4 fI_0_4 (Or.inl rfl) rfl dX0_findFault_7 w_71 (fun s2 => ?_)
  refine Jo_aloadn 0 dX0_findFault_10 rfl rfl ?_
  refine Jo_iconst (v := (0 : Int32)) dX0_findFault_11 (by decide) ?_
  refine Jo_putI fF_0_6 fI_0_6 (Or.inl rfl) rfl dX0_findFault_12 w_77 (fun s3 => ?_)
  refine Jo_aloadn 0 dX0_findFault_15 rfl rfl ?_
  refine Jo_iconst (v := (0 : Int32)) dX0_findFault_16 (by decide) ?_
  refine Jo_putI fF_0_7 fI_0_7 (Or.inl rfl) rfl dX0_findFault_17 w_89 (fun s4 => ?_)
  refine Jo_aloadn 0 dX0_findFault_20 rfl rfl ?_
  refine Jo_iconst (v := (0 : Int32)) dX0_findFault_21 (by decide) ?_
  refine Jo_putI fF_0_8 fI_0_8 (Or.inl rfl) rfl dX0_findFault_22 w_70 (fun s5 => ?_)
  refine Jo_aloadn 0 dX0_findFault_25 rfl rfl ?_
  refine Jo_iconst (v := (1 : Int32)) dX0_findFault_26 (by decide) ?_
  refine Jo_putZ fF_0_9 fI_0_9 (Or.inl rfl) rfl dX0_findFault_27 w_72 (fun s6 => ?_)
  refine Jo_aloadn 0 dX0_findFault_30 rfl rfl ?_
  refine Jo_getR fF_0_0 fR_0_0 dX0_findFault_31 w_26 (fun a7 => ?_)
  refine Jo_iconst (v := (0 : Int32)) dX0_findFault_34 (by decide) ?_
  refine Jo_callVi (a := a7) (rest := []) [.int (0 : Int32)] cc_3 yF_X3_behindBlanks yV_X3_behindBlanks w_118 rfl rfl ⟨Nat.le_of_ble_eq_true rfl, Nat.le_of_ble_eq_true rfl, Nat.le_of_ble_eq_true rfl⟩ dX0_findFault_35 rfl (K_X3_behindBlanks E s6 a7 (0 : Int32)) (fun p8 => ?_)
  refine Jo_istoren (ls' := [(1, .int p8.1), (0, .ref a0)]) dX0_findFault_38 rfl (by decide) rfl ?_
  refine Jo_aloadn 1 dX0_findFault_39 rfl rfl ?_
  refine Jo_getR fF_0_0 fR_0_0 dX0_findFault_40 w_26 (fun a9 => ?_)
  refine Jo_iloadn 0 dX0_findFault_43 rfl rfl ?_
  refine Jo_callVi (a := a9) (rest := []) [.int p8.1] cc_3 yF_X3_behindWord yV_X3_behindWord w_96 rfl rfl ⟨Nat.le_of_ble_eq_true rfl, Nat.le_of_ble_eq_true rfl, Nat.le_of_ble_eq_true rfl⟩ dX0_findFault_44 rfl (K_X3_behindWord E p8.2 a9 p8.1) (fun p10 => ?_)
  refine Jo_istoren (ls' := [(2, .int p10.1), (1, .int p8.1), (0, .ref a0)]) dX0_findFault_47 rfl (by decide) rfl ?_
  refine Jo_aloadn 2 dX0_findFault_48 rfl rfl ?_
  refine Jo_aloadn 2 dX0_findFault_49 rfl rfl ?_
  refine Jo_iloadn 1 dX0_findFault_50 rfl rfl ?_
  refine Jo_iloadn 0 dX0_findFault_51 rfl rfl ?_
  refine Jo_callVi (a := a0) (rest := [.ref a0]) [.int p8.1, .int p10.1] cc_0 yF_X0_keyAt yV_X0_keyAt w_119 rfl rfl ⟨Nat.le_of_ble_eq_true rfl, Nat.le_of_ble_eq_true rfl, Nat.le_of_ble_eq_true rfl⟩ dX0_findFault_52 rfl (K_X0_keyAt E p10.2 a0 p8.1 p10.1) (fun p11 => ?_)
  refine Jo_putI fF_0_5 fI_0_5 (Or.inl rfl) rfl dX0_findFault_55 w_81 (fun s12 => ?_)
  refine Jo_aloadn 2 dX0_findFault_58 rfl rfl ?_
  refine Jo_getI fF_0_5 fI_0_5 dX0_findFault_59 w_81 (fun x13 => ?_)
  refine Jo_iconst (v := (-1 : Int32)) dX0_findFault_62 (by decide) ?_
  refine Jo_icmp_ne 68 dX0_findFault_63 (by decide) rfl ?_ ?_
  · refine Jo_iloadn 1 dX0_findFault_66 rfl rfl ?_
    exact Jo_iret rfl dX0_findFault_67
  · refine Jo_aloadn 2 dX0_findFault_68 rfl rfl ?_
    refine Jo_getR fF_0_0 fR_0_0 dX0_findFault_69 w_26 (fun a14 => ?_)
    refine Jo_iloadn 0 dX0_findFault_72 rfl rfl ?_
    refine Jo_callVi (a := a14) (rest := []) [.int p10.1] cc_3 yF_X3_hasDigit yV_X3_hasDigit w_94 rfl rfl ⟨Nat.le_of_ble_eq_true rfl, Nat.le_of_ble_eq_true rfl, Nat.le_of_ble_eq_true rfl⟩ dX0_findFault_73 rfl (K_X3_hasDigit E s12 a14 p10.1) (fun p15 => ?_)
    refine Jo_if_eq 81 dX0_findFault_76 (by decide) rfl ?_ ?_
    · refine Jo_iconst (v := (0 : Int32)) dX0_findFault_81 (by decide) ?_
      refine Jo_istoren (ls' := [(3, .int (0 : Int32)), (2, .int p10.1), (1, .int p8.1), (0, .ref a0)]) dX0_findFault_82 rfl (by decide) rfl ?_
      refine Jo_sub [3, 1, 0] rfl ?_
      exact e_X0_findFault_83 E jF p15.2 a0 p10.1 (0 : Int32)
    · refine Jo_iloadn 0 dX0_findFault_79 rfl rfl ?_
      exact Jo_iret rfl dX0_findFault_80
theorem K_X0_findFault (E : jE) (s : hS) (a0 : Nat) : jK E yX0_findFault M_X0_findFault cvI [.ref a0] s (f_X0_findFault s a0) := jK_of ⟨by decide, rfl, rfl⟩ (Nat.le_of_ble_eq_true rfl) (b_X0_findFault_in E s a0)
/-! HeronTalk$Text.<init>(II[I)V -/
abbrev M_X4_init : jM := (RX4, cX4_init, 4, (none : Option Jvm.ClassFile.FieldType), "<init>", 1, 20)
theorem yF_X4_init : yF yX4_init M_X4_init 3 := ⟨w_128, w_129, by decide +kernel⟩
theorem yV_X4_init : Cond.instanceMethod yX4_init ∈ tbG ∧ yX4_init.name = "<init>" := ⟨w_130, rfl⟩
theorem dX4_init_0 : dI cX4_init 0 1 (.aload_n 0) 1 := ⟨by decide +kernel, rfl⟩
theorem dX4_init_1 : dI cX4_init 1 4 (.invokespecial 3) 3 := ⟨by decide +kernel, rfl⟩
theorem dX4_init_4 : dI cX4_init 4 5 (.aload_n 0) 1 := ⟨by decide +kernel, rfl⟩
theorem dX4_init_5 : dI cX4_init 5 6 (.iload_n 1) 1 := ⟨by decide +kernel, rfl⟩
theorem dX4_init_6 : dI cX4_init 6 9 (.putfield 9) 3 := ⟨by decide +kernel, rfl⟩
theorem dX4_init_9 : dI cX4_init 9 10 (.aload_n 0) 1 := ⟨by decide +kernel, rfl⟩
theorem dX4_init_10 : dI cX4_init 10 11 (.iload_n 2) 1 := ⟨by decide +kernel, rfl⟩
theorem dX4_init_11 : dI cX4_init 11 14 (.putfield 15) 3 := ⟨by decide +kernel, rfl⟩
theorem dX4_init_14 : dI cX4_init 14 15 (.aload_n 0) 1 := ⟨by decide +kernel, rfl⟩
theorem dX4_init_15 : dI cX4_init 15 16 (.aload_n 3) 1 := ⟨by decide +kernel, rfl⟩
theorem dX4_init_16 : dI cX4_init 16 19 (.putfield 18) 3 := ⟨by decide +kernel, rfl⟩
theorem dX4_init_19 : dI cX4_init 19 20 (.aload_n 0) 1 := ⟨by decide +kernel, rfl⟩
theorem dX4_init_20 : dI cX4_init 20 21 (.aload_n 3) 1 := ⟨by decide +kernel, rfl⟩
theorem dX4_init_21 : dI cX4_init 21 22 (.arraylength) 1 := ⟨by decide +kernel, rfl⟩
theorem dX4_init_22 : dI cX4_init 22 24 (.newarray .int) 2 := ⟨by decide +kernel, rfl⟩
theorem dX4_init_24 : dI cX4_init 24 27 (.putfield 22) 3 := ⟨by decide +kernel, rfl⟩
theorem dX4_init_27 : dI cX4_init 27 28 (.return_) 1 := ⟨by decide +kernel, rfl⟩
def f_X4_init (s : hS) (a0 : Nat) (i1 : Int32) (i2 : Int32) (a3 : Nat) : Option (Unit × hS) :=
  (pI s a0 4 0 i1).bind fun s1 =>
  (pI s1 a0 4 1 i2).bind fun s2 =>
  (pR s2 a0 4 2 a3).bind fun s3 =>
  (aL s3 a3 10).bind fun x4 =>
  (nA s3 10 x4).bind fun s5 =>
  (pR s5 a0 4 3 s3.1).bind fun s6 =>
  some ((), s6)
theorem b_X4_init_in (E : jE)  (s : hS) (a0 : Nat) (i1 : Int32) (i2 : Int32) (a3 : Nat)  : Jo E M_X4_init cvV 0 [(0, .ref a0), (1, .int i1), (2, .int i2), (3, .ref a3)] [] s (f_X4_init s a0 i1 i2 a3) := by
  unfold f_X4_init
  refine Jo_aloadn 0 dX4_init_0 rfl rfl ?_
  refine Jo_objInit dX4_init_1 ⟨w_127, w_oi1, w_oi2⟩ ⟨by decide, Nat.le_of_ble_eq_true rfl⟩ ?_
  refine Jo_aloadn 0 dX4_init_4 rfl rfl ?_
  refine Jo_iloadn 1 dX4_init_5 rfl rfl ?_
  refine Jo_putI fF_4_0 fI_4_0 (Or.inr ⟨rfl, rfl, rfl⟩) rfl dX4_init_6 w_126 (fun s1 => ?_)
  refine Jo_aloadn 0 dX4_init_9 rfl rfl ?_
  refine Jo_iloadn 2 dX4_init_10 rfl rfl ?_
  refine Jo_putI fF_4_1 fI_4_1 (Or.inr ⟨rfl, rfl, rfl⟩) rfl dX4_init_11 w_125 (fun s2 => ?_)
  refine Jo_aloadn 0 dX4_init_14 rfl rfl ?_
  refine Jo_aloadn 3 dX4_init_15 rfl rfl ?_
  refine Jo_putR fF_4_2 fR_4_2 (Or.inr ⟨rfl, rfl, rfl⟩) ⟨rfl, rfl⟩ dX4_init_16 w_124 (fun s3 => ?_)
  refine Jo_aloadn 0 dX4_init_19 rfl rfl ?_
  refine Jo_aloadn 3 dX4_init_20 rfl rfl ?_
  refine Jo_alen hti_10 dX4_init_21 (fun x4 => ?_)
  refine Jo_newarr htn_10 nty_10 w_24 dX4_init_22 (fun s5 => ?_)
  refine Jo_putR fF_4_3 fR_4_3 (Or.inr ⟨rfl, rfl, rfl⟩) ⟨rfl, rfl⟩ dX4_init_24 w_123 (fun s6 => ?_)
  exact Jo_vret rfl dX4_init_27
theorem K_X4_init (E : jE) (s : hS) (a0 : Nat) (i1 : Int32) (i2 : Int32) (a3 : Nat) : jK E yX4_init M_X4_init cvV [.ref a0, .int i1, .int i2, .ref a3] s (f_X4_init s a0 i1 i2 a3) := jK_of ⟨by decide, rfl, rfl⟩ (Nat.le_of_ble_eq_true rfl) (b_X4_init_in E s a0 i1 i2 a3)
/-! HeronTalk$Reader.makeText()LHeronTalk$Text; -/
abbrev M_X0_makeText : jM := (RX0, cX0_makeText, 3, (some (.object "HeronTalk$Text")), "makeText", 2, 43)
theorem yF_X0_makeText : yF yX0_makeText M_X0_makeText 0 := ⟨w_134, w_32, by decide +kernel⟩
theorem yV_X0_makeText : Cond.instanceMethod yX0_makeText ∈ tbG ∧ Cond.selects yX0_makeText.cls yX0_makeText yX0_makeText ∈ tbG := ⟨w_135, w_136⟩
theorem dX0_makeText_0 : dI cX0_makeText 0 1 (.aload_n 0) 1 := ⟨by decide +kernel, rfl⟩
theorem dX0_makeText_1 : dI cX0_makeText 1 4 (.getfield 25) 3 := ⟨by decide +kernel, rfl⟩
theorem dX0_makeText_4 : dI cX0_makeText 4 6 (.newarray .int) 2 := ⟨by decide +kernel, rfl⟩
theorem dX0_makeText_6 : dI cX0_makeText 6 7 (.astore_n 1) 1 := ⟨by decide +kernel, rfl⟩
theorem dX0_makeText_7 : dI cX0_makeText 7 8 (.iconst 0) 1 := ⟨by decide +kernel, rfl⟩
theorem dX0_makeText_8 : dI cX0_makeText 8 9 (.istore_n 2) 1 := ⟨by decide +kernel, rfl⟩
theorem dX0_makeText_9 : dI cX0_makeText 9 10 (.iload_n 2) 1 := ⟨by decide +kernel, rfl⟩
theorem dX0_makeText_10 : dI cX0_makeText 10 11 (.aload_n 0) 1 := ⟨by decide +kernel, rfl⟩
theorem dX0_makeText_11 : dI cX0_makeText 11 14 (.getfield 25) 3 := ⟨by decide +kernel, rfl⟩
theorem dX0_makeText_14 : decode cX0_makeText 14 = .ok (.if_icmp .ge 18, 3) := by decide +kernel
theorem dX0_makeText_17 : dI cX0_makeText 17 18 (.aload_n 1) 1 := ⟨by decide +kernel, rfl⟩
theorem dX0_makeText_18 : dI cX0_makeText 18 19 (.iload_n 2) 1 := ⟨by decide +kernel, rfl⟩
theorem dX0_makeText_19 : dI cX0_makeText 19 20 (.aload_n 0) 1 := ⟨by decide +kernel, rfl⟩
theorem dX0_makeText_20 : dI cX0_makeText 20 23 (.getfield 18) 3 := ⟨by decide +kernel, rfl⟩
theorem dX0_makeText_23 : dI cX0_makeText 23 24 (.iload_n 2) 1 := ⟨by decide +kernel, rfl⟩
theorem dX0_makeText_24 : dI cX0_makeText 24 25 (.iaload) 1 := ⟨by decide +kernel, rfl⟩
theorem dX0_makeText_25 : dI cX0_makeText 25 26 (.iastore) 1 := ⟨by decide +kernel, rfl⟩
theorem dX0_makeText_26 : dI cX0_makeText 26 29 (.iinc 2 1) 3 := ⟨by decide +kernel, rfl⟩
theorem dX0_makeText_29 : decode cX0_makeText 29 = .ok (.goto (-20), 3) := by decide +kernel
theorem dX0_makeText_32 : dI cX0_makeText 32 35 (.new 76) 3 := ⟨by decide +kernel, rfl⟩
theorem dX0_makeText_35 : dI cX0_makeText 35 36 (.dup) 1 := ⟨by decide +kernel, rfl⟩
theorem dX0_makeText_36 : dI cX0_makeText 36 37 (.aload_n 0) 1 := ⟨by decide +kernel, rfl⟩
theorem dX0_makeText_37 : dI cX0_makeText 37 40 (.getfield 56) 3 := ⟨by decide +kernel, rfl⟩
theorem dX0_makeText_40 : dI cX0_makeText 40 41 (.aload_n 0) 1 := ⟨by decide +kernel, rfl⟩
theorem dX0_makeText_41 : dI cX0_makeText 41 44 (.getfield 32) 3 := ⟨by decide +kernel, rfl⟩
theorem dX0_makeText_44 : dI cX0_makeText 44 45 (.aload_n 1) 1 := ⟨by decide +kernel, rfl⟩
theorem dX0_makeText_45 : decode cX0_makeText 45 = .ok (.invokespecial 78, 3) := by decide +kernel
theorem dX0_makeText_48 : dI cX0_makeText 48 49 (.areturn) 1 := ⟨by decide +kernel, rfl⟩
def f_X0_makeText_b9 (k9 : Nat → Nat → Int32 → hS → Option (Nat × hS)) (l0 : Nat) (l1 : Nat) (l2 : Int32) (s : hS) : Option (Nat × hS) :=
  (gI s l0 0 2).bind fun x1 =>
  if x1 ≤ l2 then
    (nB s 4 4).bind fun s2 =>
    (gI s2 l0 0 5).bind fun x3 =>
    (gI s2 l0 0 6).bind fun x4 =>
    (f_X4_init s2 s.1 x3 x4 l1).bind fun p5 =>
    some (s.1, p5.2)
  else
    (gR s l0 0 1).bind fun a6 =>
    (aI s a6 10 l2).bind fun x7 =>
    (sI s l1 10 l2 x7).bind fun s8 =>
    k9 l0 l1 (l2 + (1 : Int32)) s8
theorem b_X0_makeText_9 (E : jE) (k9 : Nat → Nat → Int32 → hS → Option (Nat × hS)) (h9 : ∀ (s : hS) (l0 : Nat) (l1 : Nat) (l2 : Int32) , Jo E M_X0_makeText cvR 9 [(0, .ref l0), (1, .ref l1), (2, .int l2)] [] s (k9 l0 l1 l2 s)) (s : hS) (l0 : Nat) (l1 : Nat) (l2 : Int32)  : Jo E M_X0_makeText cvR 9 [(0, .ref l0), (1, .ref l1), (2, .int l2)] [] s (f_X0_makeText_b9 k9 l0 l1 l2 s) := by
  unfold f_X0_makeText_b9
  refine Jo_iloadn 2 dX0_makeText_9 rfl rfl ?_
  refine Jo_aloadn 0 dX0_makeText_10 rfl rfl ?_
  refine Jo_getI fF_0_2 fI_0_2 dX0_makeText_11 w_65 (fun x1 => ?_)
  refine Jo_icmp_ge 32 dX0_makeText_14 (by decide) rfl ?_ ?_
  · refine Jo_newB nf_4 ⟨w_132, w_133, w_129⟩ n0_4 dX0_makeText_32 (fun s2 => ?_)
    refine Jo_dup dX0_makeText_35 rfl ?_
    refine Jo_aloadn 0 dX0_makeText_36 rfl rfl ?_
    refine Jo_getI fF_0_5 fI_0_5 dX0_makeText_37 w_81 (fun x3 => ?_)
    refine Jo_aloadn 0 dX0_makeText_40 rfl rfl ?_
    refine Jo_getI fF_0_6 fI_0_6 dX0_makeText_41 w_77 (fun x4 => ?_)
    refine Jo_aloadn 1 dX0_makeText_44 rfl rfl ?_
    refine Jo_callCv (a := s.1) (rest := [.ref s.1]) [.int x3, .int x4, .ref l1] rfl yF_X4_init yV_X4_init w_131 rfl rfl ⟨Nat.le_of_ble_eq_true rfl, Nat.le_of_ble_eq_true rfl, Nat.le_of_ble_eq_true rfl⟩ dX0_makeText_45 rfl (K_X4_init E s2 s.1 x3 x4 l1) (fun p5 => ?_)
    exact Jo_aret rfl dX0_makeText_48
  · refine Jo_aloadn 1 dX0_makeText_17 rfl rfl ?_
    refine Jo_iloadn 2 dX0_makeText_18 rfl rfl ?_
    refine Jo_aloadn 0 dX0_makeText_19 rfl rfl ?_
    refine Jo_getR fF_0_1 fR_0_1 dX0_makeText_20 w_25 (fun a6 => ?_)
    refine Jo_iloadn 2 dX0_makeText_23 rfl rfl ?_
    refine Jo_iaload dX0_makeText_24 (fun x7 => ?_)
    refine Jo_iastore dX0_makeText_25 (fun s8 => ?_)
    refine Jo_iinc (v := (l2 + (1 : Int32))) (ls' := [(2, .int (l2 + (1 : Int32))), (0, .ref l0), (1, .ref l1)]) 2 dX0_makeText_26 rfl rfl (by decide) rfl ?_
    refine Jo_goto 9 dX0_makeText_29 (by decide) ?_
    refine Jo_sub [1, 2, 0] rfl ?_
    exact h9 s8 l0 l1 (l2 + (1 : Int32))
theorem e_X0_makeText_9 (E : jE)  (n : Nat) : ∀ (s : hS) (l0 : Nat) (l1 : Nat) (l2 : Int32) , Jo E M_X0_makeText cvR 9 [(0, .ref l0), (1, .ref l1), (2, .int l2)] [] s ((jL f_X0_makeText_b9 (fun _ _ _ _ => none) n) l0 l1 l2 s) :=
  jL_ind (P := fun f => ∀ (s : hS) (l0 : Nat) (l1 : Nat) (l2 : Int32) , Jo E M_X0_makeText cvR 9 [(0, .ref l0), (1, .ref l1), (2, .int l2)] [] s (f l0 l1 l2 s)) (fun _ _ _ _ => Jo_none) (fun b hb s l0 l1 l2 => b_X0_makeText_9 E  b hb s l0 l1 l2) n
def f_X0_makeText (s : hS) (a0 : Nat) : Option (Nat × hS) :=
  (gI s a0 0 2).bind fun x1 =>
  (nA s 10 x1).bind fun s2 =>
  jL f_X0_makeText_b9 (fun _ _ _ _ => none) jF a0 s.1 (0 : Int32) s2
theorem b_X0_makeText_in (E : jE)  (s : hS) (a0 : Nat)  : Jo E M_X0_makeText cvR 0 [(0, .ref a0)] [] s (f_X0_makeText s a0) := by
  unfold f_X0_makeText
  refine Jo_aloadn 0 dX0_makeText_0 rfl rfl ?_
  refine Jo_getI fF_0_2 fI_0_2 dX0_makeText_1 w_65 (fun x1 => ?_)
  refine Jo_newarr htn_10 nty_10 w_24 dX0_makeText_4 (fun s2 => ?_)
  refine Jo_astoren (ls' := [(1, .ref s.1), (0, .ref a0)]) dX0_makeText_6 rfl (by decide) rfl ?_
  refine Jo_iconst (v := (0 : Int32)) dX0_makeText_7 (by decide) ?_
  refine Jo_istoren (ls' := [(2, .int (0 : Int32)), (1, .ref s.1), (0, .ref a0)]) dX0_makeText_8 rfl (by decide) rfl ?_
  refine Jo_sub [2, 1, 0] rfl ?_
  exact e_X0_makeText_9 E jF s2 a0 s.1 (0 : Int32)
theorem K_X0_makeText (E : jE) (s : hS) (a0 : Nat) : jK E yX0_makeText M_X0_makeText cvR [.ref a0] s (f_X0_makeText s a0) := jK_of ⟨by decide, rfl, rfl⟩ (Nat.le_of_ble_eq_true rfl) (b_X0_makeText_in E s a0)
/-! HeronTalk$Sheet.<init>()V -/
abbrev M_X1_init : jM := (RX1, cX1_init, 1, (none : Option Jvm.ClassFile.FieldType), "<init>", 1, 20)
theorem yF_X1_init : yF yX1_init M_X1_init 0 := ⟨w_141, w_142, by decide +kernel⟩
theorem yV_X1_init : Cond.instanceMethod yX1_init ∈ tbG ∧ yX1_init.name = "<init>" := ⟨w_143, rfl⟩
theorem dX1_init_0 : dI cX1_init 0 1 (.aload_n 0) 1 := ⟨by decide +kernel, rfl⟩
theorem dX1_init_1 : dI cX1_init 1 4 (.invokespecial 3) 3 := ⟨by decide +kernel, rfl⟩
theorem dX1_init_4 : dI cX1_init 4 5 (.aload_n 0) 1 := ⟨by decide +kernel, rfl⟩
theorem dX1_init_5 : dI cX1_init 5 6 (.iconst (-1)) 1 := ⟨by decide +kernel, rfl⟩
theorem dX1_init_6 : dI cX1_init 6 9 (.putfield 9) 3 := ⟨by decide +kernel, rfl⟩
theorem dX1_init_9 : dI cX1_init 9 10 (.aload_n 0) 1 := ⟨by decide +kernel, rfl⟩
theorem dX1_init_10 : dI cX1_init 10 11 (.iconst 0) 1 := ⟨by decide +kernel, rfl⟩
theorem dX1_init_11 : dI cX1_init 11 14 (.putfield 15) 3 := ⟨by decide +kernel, rfl⟩
theorem dX1_init_14 : dI cX1_init 14 15 (.aload_n 0) 1 := ⟨by decide +kernel, rfl⟩
theorem dX1_init_15 : dI cX1_init 15 17 (.bipush 24) 2 := ⟨by decide +kernel, rfl⟩
theorem dX1_init_17 : dI cX1_init 17 19 (.newarray .int) 2 := ⟨by decide +kernel, rfl⟩
theorem dX1_init_19 : dI cX1_init 19 22 (.putfield 18) 3 := ⟨by decide +kernel, rfl⟩
theorem dX1_init_22 : dI cX1_init 22 23 (.return_) 1 := ⟨by decide +kernel, rfl⟩
def f_X1_init (s : hS) (a0 : Nat) : Option (Unit × hS) :=
  (pI s a0 1 0 (-1 : Int32)).bind fun s1 =>
  (pI s1 a0 1 1 (0 : Int32)).bind fun s2 =>
  (nA s2 10 (24 : Int32)).bind fun s3 =>
  (pR s3 a0 1 2 s2.1).bind fun s4 =>
  some ((), s4)
theorem b_X1_init_in (E : jE)  (s : hS) (a0 : Nat)  : Jo E M_X1_init cvV 0 [(0, .ref a0)] [] s (f_X1_init s a0) := by
  unfold f_X1_init
  refine Jo_aloadn 0 dX1_init_0 rfl rfl ?_
  refine Jo_objInit dX1_init_1 ⟨w_140, w_oi1, w_oi2⟩ ⟨by decide, Nat.le_of_ble_eq_true rfl⟩ ?_
  refine Jo_aloadn 0 dX1_init_4 rfl rfl ?_
  refine Jo_iconst (v := (-1 : Int32)) dX1_init_5 (by decide) ?_
  refine Jo_putI fF_1_0 fI_1_0 (Or.inl rfl) rfl dX1_init_6 w_139 (fun s1 => ?_)
  refine Jo_aloadn 0 dX1_init_9 rfl rfl ?_
  refine Jo_iconst (v := (0 : Int32)) dX1_init_10 (by decide) ?_
  refine Jo_putI fF_1_1 fI_1_1 (Or.inl rfl) rfl dX1_init_11 w_138 (fun s2 => ?_)
  refine Jo_aloadn 0 dX1_init_14 rfl rfl ?_
  refine Jo_bipush (v := (24 : Int32)) dX1_init_15 (by decide) ?_
  refine Jo_newarr htn_10 nty_10 w_24 dX1_init_17 (fun s3 => ?_)
  refine Jo_putR fF_1_2 fR_1_2 (Or.inr ⟨rfl, rfl, rfl⟩) ⟨rfl, rfl⟩ dX1_init_19 w_137 (fun s4 => ?_)
  exact Jo_vret rfl dX1_init_22
theorem K_X1_init (E : jE) (s : hS) (a0 : Nat) : jK E yX1_init M_X1_init cvV [.ref a0] s (f_X1_init s a0) := jK_of ⟨by decide, rfl, rfl⟩ (Nat.le_of_ble_eq_true rfl) (b_X1_init_in E s a0)
/-! HeronTalk$Sheet.lieAnew(II)V -/
abbrev M_X1_lieAnew : jM := (RX1, cX1_lieAnew, 4, (none : Option Jvm.ClassFile.FieldType), "lieAnew", 0, 0)
theorem yF_X1_lieAnew : yF yX1_lieAnew M_X1_lieAnew 2 := ⟨w_144, w_142, by decide +kernel⟩
theorem yV_X1_lieAnew : Cond.instanceMethod yX1_lieAnew ∈ tbG ∧ Cond.selects yX1_lieAnew.cls yX1_lieAnew yX1_lieAnew ∈ tbG := ⟨w_145, w_146⟩
theorem dX1_lieAnew_0 : dI cX1_lieAnew 0 1 (.aload_n 0) 1 := ⟨by decide +kernel, rfl⟩
theorem dX1_lieAnew_1 : dI cX1_lieAnew 1 2 (.iload_n 1) 1 := ⟨by decide +kernel, rfl⟩
theorem dX1_lieAnew_2 : dI cX1_lieAnew 2 5 (.putfield 9) 3 := ⟨by decide +kernel, rfl⟩
theorem dX1_lieAnew_5 : dI cX1_lieAnew 5 6 (.aload_n 0) 1 := ⟨by decide +kernel, rfl⟩
theorem dX1_lieAnew_6 : dI cX1_lieAnew 6 7 (.iload_n 2) 1 := ⟨by decide +kernel, rfl⟩
theorem dX1_lieAnew_7 : dI cX1_lieAnew 7 10 (.putfield 15) 3 := ⟨by decide +kernel, rfl⟩
theorem dX1_lieAnew_10 : dI cX1_lieAnew 10 11 (.iconst 0) 1 := ⟨by decide +kernel, rfl⟩
theorem dX1_lieAnew_11 : dI cX1_lieAnew 11 12 (.istore_n 3) 1 := ⟨by decide +kernel, rfl⟩
theorem dX1_lieAnew_12 : dI cX1_lieAnew 12 13 (.iload_n 3) 1 := ⟨by decide +kernel, rfl⟩
theorem dX1_lieAnew_13 : dI cX1_lieAnew 13 15 (.bipush 24) 2 := ⟨by decide +kernel, rfl⟩
theorem dX1_lieAnew_15 : decode cX1_lieAnew 15 = .ok (.if_icmp .ge 16, 3) := by decide +kernel
theorem dX1_lieAnew_18 : dI cX1_lieAnew 18 19 (.aload_n 0) 1 := ⟨by decide +kernel, rfl⟩
theorem dX1_lieAnew_19 : dI cX1_lieAnew 19 22 (.getfield 18) 3 := ⟨by decide +kernel, rfl⟩
theorem dX1_lieAnew_22 : dI cX1_lieAnew 22 23 (.iload_n 3) 1 := ⟨by decide +kernel, rfl⟩
theorem dX1_lieAnew_23 : dI cX1_lieAnew 23 24 (.iconst 0) 1 := ⟨by decide +kernel, rfl⟩
theorem dX1_lieAnew_24 : dI cX1_lieAnew 24 25 (.iastore) 1 := ⟨by decide +kernel, rfl⟩
theorem dX1_lieAnew_25 : dI cX1_lieAnew 25 28 (.iinc 3 1) 3 := ⟨by decide +kernel, rfl⟩
theorem dX1_lieAnew_28 : decode cX1_lieAnew 28 = .ok (.goto (-16), 3) := by decide +kernel
theorem dX1_lieAnew_31 : dI cX1_lieAnew 31 32 (.return_) 1 := ⟨by decide +kernel, rfl⟩
def f_X1_lieAnew_b12 (k12 : Nat → Int32 → hS → Option (Unit × hS)) (l0 : Nat) (l3 : Int32) (s : hS) : Option (Unit × hS) :=
  if (24 : Int32) ≤ l3 then
    some ((), s)
  else
    (gR s l0 1 2).bind fun a1 =>
    (sI s a1 10 l3 (0 : Int32)).bind fun s2 =>
    k12 l0 (l3 + (1 : Int32)) s2
theorem b_X1_lieAnew_12 (E : jE) (k12 : Nat → Int32 → hS → Option (Unit × hS)) (h12 : ∀ (s : hS) (l0 : Nat) (l3 : Int32) , Jo E M_X1_lieAnew cvV 12 [(0, .ref l0), (3, .int l3)] [] s (k12 l0 l3 s)) (s : hS) (l0 : Nat) (l3 : Int32)  : Jo E M_X1_lieAnew cvV 12 [(0, .ref l0), (3, .int l3)] [] s (f_X1_lieAnew_b12 k12 l0 l3 s) := by
  unfold f_X1_lieAnew_b12
  refine Jo_iloadn 1 dX1_lieAnew_12 rfl rfl ?_
  refine Jo_bipush (v := (24 : Int32)) dX1_lieAnew_13 (by decide) ?_
  refine Jo_icmp_ge 31 dX1_lieAnew_15 (by decide) rfl ?_ ?_
  · exact Jo_vret rfl dX1_lieAnew_31
  · refine Jo_aloadn 0 dX1_lieAnew_18 rfl rfl ?_
    refine Jo_getR fF_1_2 fR_1_2 dX1_lieAnew_19 w_137 (fun a1 => ?_)
    refine Jo_iloadn 1 dX1_lieAnew_22 rfl rfl ?_
    refine Jo_iconst (v := (0 : Int32)) dX1_lieAnew_23 (by decide) ?_
    refine Jo_iastore dX1_lieAnew_24 (fun s2 => ?_)
    refine Jo_iinc (v := (l3 + (1 : Int32))) (ls' := [(3, .int (l3 + (1 : Int32))), (0, .ref l0)]) 1 dX1_lieAnew_25 rfl rfl (by decide) rfl ?_
    refine Jo_goto 12 dX1_lieAnew_28 (by decide) ?_
    refine Jo_sub [1, 0] rfl ?_
    exact h12 s2 l0 (l3 + (1 : Int32))
theorem e_X1_lieAnew_12 (E : jE)  (n : Nat) : ∀ (s : hS) (l0 : Nat) (l3 : Int32) , Jo E M_X1_lieAnew cvV 12 [(0, .ref l0), (3, .int l3)] [] s ((jL f_X1_lieAnew_b12 (fun _ _ _ => none) n) l0 l3 s) :=
  jL_ind (P := fun f => ∀ (s : hS) (l0 : Nat) (l3 : Int32) , Jo E M_X1_lieAnew cvV 12 [(0, .ref l0), (3, .int l3)] [] s (f l0 l3 s)) (fun _ _ _ => Jo_none) (fun b hb s l0 l3 => b_X1_lieAnew_12 E  b hb s l0 l3) n
def f_X1_lieAnew (s : hS) (a0 : Nat) (i1 : Int32) (i2 : Int32) : Option (Unit × hS) :=
  (pI s a0 1 0 i1).bind fun s1 =>
  (pI s1 a0 1 1 i2).bind fun s2 =>
  jL f_X1_lieAnew_b12 (fun _ _ _ => none) jF a0 (0 : Int32) s2
theorem b_X1_lieAnew_in (E : jE)  (s : hS) (a0 : Nat) (i1 : Int32) (i2 : Int32)  : Jo E M_X1_lieAnew cvV 0 [(0, .ref a0), (1, .int i1), (2, .int i2)] [] s (f_X1_lieAnew s a0 i1 i2) := by
  unfold f_X1_lieAnew
  refine Jo_aloadn 0 dX1_lieAnew_0 rfl rfl ?_
  refine Jo_iloadn 1 dX1_lieAnew_1 rfl rfl ?_
  refine Jo_putI fF_1_0 fI_1_0 (Or.inl rfl) rfl dX1_lieAnew_2 w_139 (fun s1 => ?_)
  refine Jo_aloadn 0 dX1_lieAnew_5 rfl rfl ?_
  refine Jo_iloadn 2 dX1_lieAnew_6 rfl rfl ?_
  refine Jo_putI fF_1_1 fI_1_1 (Or.inl rfl) rfl dX1_lieAnew_7 w_138 (fun s2 => ?_)
  refine Jo_iconst (v := (0 : Int32)) dX1_lieAnew_10 (by decide) ?_
  refine Jo_istoren (ls' := [(3, .int (0 : Int32)), (0, .ref a0), (1, .int i1), (2, .int i2)]) dX1_lieAnew_11 rfl (by decide) rfl ?_
  refine Jo_sub [1, 0] rfl ?_
  exact e_X1_lieAnew_12 E jF s2 a0 (0 : Int32)
theorem K_X1_lieAnew (E : jE) (s : hS) (a0 : Nat) (i1 : Int32) (i2 : Int32) : jK E yX1_lieAnew M_X1_lieAnew cvV [.ref a0, .int i1, .int i2] s (f_X1_lieAnew s a0 i1 i2) := jK_of ⟨by decide, rfl, rfl⟩ (Nat.le_of_ble_eq_true rfl) (b_X1_lieAnew_in E s a0 i1 i2)
/-! HeronTalk$Sheet.becomes(LHeronTalk$Sheet;)V -/
abbrev M_X1_becomes : jM := (RX1, cX1_becomes, 3, (none : Option Jvm.ClassFile.FieldType), "becomes", 0, 0)
theorem yF_X1_becomes : yF yX1_becomes M_X1_becomes 1 := ⟨w_147, w_142, by decide +kernel⟩
theorem yV_X1_becomes : Cond.instanceMethod yX1_becomes ∈ tbG ∧ Cond.selects yX1_becomes.cls yX1_becomes yX1_becomes ∈ tbG := ⟨w_148, w_149⟩
theorem dX1_becomes_0 : dI cX1_becomes 0 1 (.aload_n 0) 1 := ⟨by decide +kernel, rfl⟩
theorem dX1_becomes_1 : dI cX1_becomes 1 2 (.aload_n 1) 1 := ⟨by decide +kernel, rfl⟩
theorem dX1_becomes_2 : dI cX1_becomes 2 5 (.getfield 9) 3 := ⟨by decide +kernel, rfl⟩
theorem dX1_becomes_5 : dI cX1_becomes 5 8 (.putfield 9) 3 := ⟨by decide +kernel, rfl⟩
theorem dX1_becomes_8 : dI cX1_becomes 8 9 (.aload_n 0) 1 := ⟨by decide +kernel, rfl⟩
theorem dX1_becomes_9 : dI cX1_becomes 9 10 (.aload_n 1) 1 := ⟨by decide +kernel, rfl⟩
theorem dX1_becomes_10 : dI cX1_becomes 10 13 (.getfield 15) 3 := ⟨by decide +kernel, rfl⟩
theorem dX1_becomes_13 : dI cX1_becomes 13 16 (.putfield 15) 3 := ⟨by decide +kernel, rfl⟩
theorem dX1_becomes_16 : dI cX1_becomes 16 17 (.iconst 0) 1 := ⟨by decide +kernel, rfl⟩
theorem dX1_becomes_17 : dI cX1_becomes 17 18 (.istore_n 2) 1 := ⟨by decide +kernel, rfl⟩
theorem dX1_becomes_18 : dI cX1_becomes 18 19 (.iload_n 2) 1 := ⟨by decide +kernel, rfl⟩
theorem dX1_becomes_19 : dI cX1_becomes 19 21 (.bipush 24) 2 := ⟨by decide +kernel, rfl⟩
theorem dX1_becomes_21 : decode cX1_becomes 21 = .ok (.if_icmp .ge 21, 3) := by decide +kernel
theorem dX1_becomes_24 : dI cX1_becomes 24 25 (.aload_n 0) 1 := ⟨by decide +kernel, rfl⟩
theorem dX1_becomes_25 : dI cX1_becomes 25 28 (.getfield 18) 3 := ⟨by decide +kernel, rfl⟩
theorem dX1_becomes_28 : dI cX1_becomes 28 29 (.iload_n 2) 1 := ⟨by decide +kernel, rfl⟩
theorem dX1_becomes_29 : dI cX1_becomes 29 30 (.aload_n 1) 1 := ⟨by decide +kernel, rfl⟩
theorem dX1_becomes_30 : dI cX1_becomes 30 33 (.getfield 18) 3 := ⟨by decide +kernel, rfl⟩
theorem dX1_becomes_33 : dI cX1_becomes 33 34 (.iload_n 2) 1 := ⟨by decide +kernel, rfl⟩
theorem dX1_becomes_34 : dI cX1_becomes 34 35 (.iaload) 1 := ⟨by decide +kernel, rfl⟩
theorem dX1_becomes_35 : dI cX1_becomes 35 36 (.iastore) 1 := ⟨by decide +kernel, rfl⟩
theorem dX1_becomes_36 : dI cX1_becomes 36 39 (.iinc 2 1) 3 := ⟨by decide +kernel, rfl⟩
theorem dX1_becomes_39 : decode cX1_becomes 39 = .ok (.goto (-21), 3) := by decide +kernel
theorem dX1_becomes_42 : dI cX1_becomes 42 43 (.return_) 1 := ⟨by decide +kernel, rfl⟩
def f_X1_becomes_b18 (k18 : Nat → Nat → Int32 → hS → Option (Unit × hS)) (l0 : Nat) (l1 : Nat) (l2 : Int32) (s : hS) : Option (Unit × hS) :=
  if (24 : Int32) ≤ l2 then
    some ((), s)
  else
    (gR s l0 1 2).bind fun a1 =>
    (gR s l1 1 2).bind fun a2 =>
    (aI s a2 10 l2).bind fun x3 =>
    (sI s a1 10 l2 x3).bind fun s4 =>
    k18 l0 l1 (l2 + (1 : Int32)) s4
theorem b_X1_becomes_18 (E : jE) (k18 : Nat → Nat → Int32 → hS → Option (Unit × hS)) (h18 : ∀ (s : hS) (l0 : Nat) (l1 : Nat) (l2 : Int32) , Jo E M_X1_becomes cvV 18 [(0, .ref l0), (1, .ref l1), (2, .int l2)] [] s (k18 l0 l1 l2 s)) (s : hS) (l0 : Nat) (l1 : Nat) (l2 : Int32)  : Jo E M_X1_becomes cvV 18 [(0, .ref l0), (1, .ref l1), (2, .int l2)] [] s (f_X1_becomes_b18 k18 l0 l1 l2 s) := by
  unfold f_X1_becomes_b18
  refine Jo_iloadn 2 dX1_becomes_18 rfl rfl ?_
  refine Jo_bipush (v := (24 : Int32)) dX1_becomes_19 (by decide) ?_
  refine Jo_icmp_ge 42 dX1_becomes_21 (by decide) rfl ?_ ?_
  · exact Jo_vret rfl dX1_becomes_42
  · refine Jo_aloadn 0 dX1_becomes_24 rfl rfl ?_
    refine Jo_getR fF_1_2 fR_1_2 dX1_becomes_25 w_137 (fun a1 => ?_)
    refine Jo_iloadn 2 dX1_becomes_28 rfl rfl ?_
    refine Jo_aloadn 1 dX1_becomes_29 rfl rfl ?_
    refine Jo_getR fF_1_2 fR_1_2 dX1_becomes_30 w_137 (fun a2 => ?_)
    refine Jo_iloadn 2 dX1_becomes_33 rfl rfl ?_
    refine Jo_iaload dX1_becomes_34 (fun x3 => ?_)
    refine Jo_iastore dX1_becomes_35 (fun s4 => ?_)
    refine Jo_iinc (v := (l2 + (1 : Int32))) (ls' := [(2, .int (l2 + (1 : Int32))), (0, .ref l0), (1, .ref l1)]) 2 dX1_becomes_36 rfl rfl (by decide) rfl ?_
    refine Jo_goto 18 dX1_becomes_39 (by decide) ?_
    refine Jo_sub [1, 2, 0] rfl ?_
    exact h18 s4 l0 l1 (l2 + (1 : Int32))
theorem e_X1_becomes_18 (E : jE)  (n : Nat) : ∀ (s : hS) (l0 : Nat) (l1 : Nat) (l2 : Int32) , Jo E M_X1_becomes cvV 18 [(0, .ref l0), (1, .ref l1), (2, .int l2)] [] s ((jL f_X1_becomes_b18 (fun _ _ _ _ => none) n) l0 l1 l2 s) :=
  jL_ind (P := fun f => ∀ (s : hS) (l0 : Nat) (l1 : Nat) (l2 : Int32) , Jo E M_X1_becomes cvV 18 [(0, .ref l0), (1, .ref l1), (2, .int l2)] [] s (f l0 l1 l2 s)) (fun _ _ _ _ => Jo_none) (fun b hb s l0 l1 l2 => b_X1_becomes_18 E  b hb s l0 l1 l2) n
def f_X1_becomes (s : hS) (a0 : Nat) (a1 : Nat) : Option (Unit × hS) :=
  (gI s a1 1 0).bind fun x1 =>
  (pI s a0 1 0 x1).bind fun s2 =>
  (gI s2 a1 1 1).bind fun x3 =>
  (pI s2 a0 1 1 x3).bind fun s4 =>
  jL f_X1_becomes_b18 (fun _ _ _ _ => none) jF a0 a1 (0 : Int32) s4
theorem b_X1_becomes_in (E : jE)  (s : hS) (a0 : Nat) (a1 : Nat)  : Jo E M_X1_becomes cvV 0 [(0, .ref a0), (1, .ref a1)] [] s (f_X1_becomes s a0 a1) := by
  unfold f_X1_becomes
  refine Jo_aloadn 0 dX1_becomes_0 rfl rfl ?_
  refine Jo_aloadn 1 dX1_becomes_1 rfl rfl ?_
  refine Jo_getI fF_1_0 fI_1_0 dX1_becomes_2 w_139 (fun x1 => ?_)
  refine Jo_putI fF_1_0 fI_1_0 (Or.inl rfl) rfl dX1_becomes_5 w_139 (fun s2 => ?_)
  refine Jo_aloadn 0 dX1_becomes_8 rfl rfl ?_
  refine Jo_aloadn 1 dX1_becomes_9 rfl rfl ?_
  refine Jo_getI fF_1_1 fI_1_1 dX1_becomes_10 w_138 (fun x3 => ?_)
  refine Jo_putI fF_1_1 fI_1_1 (Or.inl rfl) rfl dX1_becomes_13 w_138 (fun s4 => ?_)
  refine Jo_iconst (v := (0 : Int32)) dX1_becomes_16 (by decide) ?_
  refine Jo_istoren (ls' := [(2, .int (0 : Int32)), (0, .ref a0), (1, .ref a1)]) dX1_becomes_17 rfl (by decide) rfl ?_
  refine Jo_sub [1, 2, 0] rfl ?_
  exact e_X1_becomes_18 E jF s4 a0 a1 (0 : Int32)
theorem K_X1_becomes (E : jE) (s : hS) (a0 : Nat) (a1 : Nat) : jK E yX1_becomes M_X1_becomes cvV [.ref a0, .ref a1] s (f_X1_becomes s a0 a1) := jK_of ⟨by decide, rfl, rfl⟩ (Nat.le_of_ble_eq_true rfl) (b_X1_becomes_in E s a0 a1)
/-! HeronTalk$Sheet.hasNoPlace(I)Z -/
abbrev M_X1_hasNoPlace : jM := (RX1, cX1_hasNoPlace, 2, (some .boolean), "hasNoPlace", 0, 0)
theorem yF_X1_hasNoPlace : yF yX1_hasNoPlace M_X1_hasNoPlace 1 := ⟨w_150, w_142, by decide +kernel⟩
theorem yV_X1_hasNoPlace : Cond.instanceMethod yX1_hasNoPlace ∈ tbG ∧ Cond.selects yX1_hasNoPlace.cls yX1_hasNoPlace yX1_hasNoPlace ∈ tbG := ⟨w_151, w_152⟩
theorem dX1_hasNoPlace_0 : dI cX1_hasNoPlace 0 1 (.iload_n 1) 1 := ⟨by decide +kernel, rfl⟩
theorem dX1_hasNoPlace_1 : decode cX1_hasNoPlace 1 = .ok (.ifCond .lt 11, 3) := by decide +kernel
theorem dX1_hasNoPlace_4 : dI cX1_hasNoPlace 4 5 (.iload_n 1) 1 := ⟨by decide +kernel, rfl⟩
theorem dX1_hasNoPlace_5 : dI cX1_hasNoPlace 5 6 (.aload_n 0) 1 := ⟨by decide +kernel, rfl⟩
theorem dX1_hasNoPlace_6 : dI cX1_hasNoPlace 6 9 (.getfield 15) 3 := ⟨by decide +kernel, rfl⟩
theorem dX1_hasNoPlace_9 : decode cX1_hasNoPlace 9 = .ok (.if_icmp .lt 7, 3) := by decide +kernel
theorem dX1_hasNoPlace_12 : dI cX1_hasNoPlace 12 13 (.iconst 1) 1 := ⟨by decide +kernel, rfl⟩
theorem dX1_hasNoPlace_13 : decode cX1_hasNoPlace 13 = .ok (.goto 4, 3) := by decide +kernel
theorem dX1_hasNoPlace_16 : dI cX1_hasNoPlace 16 17 (.iconst 0) 1 := ⟨by decide +kernel, rfl⟩
theorem dX1_hasNoPlace_17 : dI cX1_hasNoPlace 17 18 (.ireturn) 1 := ⟨by decide +kernel, rfl⟩
def f_X1_hasNoPlace_b12 (s : hS) : Option (Int32 × hS) :=
  some ((1 : Int32), s)
theorem b_X1_hasNoPlace_12 (E : jE)  (s : hS)   : Jo E M_X1_hasNoPlace cvI 12 [] [] s (f_X1_hasNoPlace_b12   s) := by
  unfold f_X1_hasNoPlace_b12
  refine Jo_iconst (v := (1 : Int32)) dX1_hasNoPlace_12 (by decide) ?_
  refine Jo_goto 17 dX1_hasNoPlace_13 (by decide) ?_
  exact Jo_zret1 rfl dX1_hasNoPlace_17
def f_X1_hasNoPlace (s : hS) (a0 : Nat) (i1 : Int32) : Option (Int32 × hS) :=
  if i1 < 0 then
    f_X1_hasNoPlace_b12  s
  else
    (gI s a0 1 1).bind fun x1 =>
    if i1 < x1 then
      some ((0 : Int32), s)
    else
      f_X1_hasNoPlace_b12  s
theorem b_X1_hasNoPlace_in (E : jE)  (s : hS) (a0 : Nat) (i1 : Int32)  : Jo E M_X1_hasNoPlace cvI 0 [(0, .ref a0), (1, .int i1)] [] s (f_X1_hasNoPlace s a0 i1) := by
  unfold f_X1_hasNoPlace
  refine Jo_iloadn 1 dX1_hasNoPlace_0 rfl rfl ?_
  refine Jo_if_lt 12 dX1_hasNoPlace_1 (by decide) rfl ?_ ?_
  · refine Jo_sub [] rfl ?_
    exact b_X1_hasNoPlace_12 E s 
  · refine Jo_iloadn 1 dX1_hasNoPlace_4 rfl rfl ?_
    refine Jo_aloadn 0 dX1_hasNoPlace_5 rfl rfl ?_
    refine Jo_getI fF_1_1 fI_1_1 dX1_hasNoPlace_6 w_138 (fun x1 => ?_)
    refine Jo_icmp_lt 16 dX1_hasNoPlace_9 (by decide) rfl ?_ ?_
    · refine Jo_iconst (v := (0 : Int32)) dX1_hasNoPlace_16 (by decide) ?_
      exact Jo_zret0 rfl dX1_hasNoPlace_17
    · refine Jo_sub [] rfl ?_
      exact b_X1_hasNoPlace_12 E s 
theorem K_X1_hasNoPlace (E : jE) (s : hS) (a0 : Nat) (i1 : Int32) : jK E yX1_hasNoPlace M_X1_hasNoPlace cvI [.ref a0, .int i1] s (f_X1_hasNoPlace s a0 i1) := jK_of ⟨by decide, rfl, rfl⟩ (Nat.le_of_ble_eq_true rfl) (b_X1_hasNoPlace_in E s a0 i1)
