/-! HeronTalkModel.rank(I)I -/
abbrev M_X7_rank : jM := (RX7, cX7_rank, 1, (some .int), "rank", 0, 0)
theorem yF_X7_rank : yF yX7_rank M_X7_rank 1 := ⟨w_887, w_624, by decide +kernel⟩
theorem yS_X7_rank : Cond.static yX7_rank ∈ tbG := w_888
theorem dX7_rank_0 : dI cX7_rank 0 1 (.iload_n 0) 1 := ⟨by decide +kernel, rfl⟩
theorem dX7_rank_1 : dI cX7_rank 1 2 (.iconst (-1)) 1 := ⟨by decide +kernel, rfl⟩
theorem dX7_rank_2 : decode cX7_rank 2 = .ok (.if_icmp .ne 7, 3) := by decide +kernel
theorem dX7_rank_5 : dI cX7_rank 5 6 (.iconst 1) 1 := ⟨by decide +kernel, rfl⟩
theorem dX7_rank_6 : decode cX7_rank 6 = .ok (.goto 45, 3) := by decide +kernel
theorem dX7_rank_9 : dI cX7_rank 9 10 (.iload_n 0) 1 := ⟨by decide +kernel, rfl⟩
theorem dX7_rank_10 : dI cX7_rank 10 12 (.bipush (-2)) 2 := ⟨by decide +kernel, rfl⟩
theorem dX7_rank_12 : decode cX7_rank 12 = .ok (.if_icmp .ne 7, 3) := by decide +kernel
theorem dX7_rank_15 : dI cX7_rank 15 16 (.iconst 2) 1 := ⟨by decide +kernel, rfl⟩
theorem dX7_rank_16 : decode cX7_rank 16 = .ok (.goto 35, 3) := by decide +kernel
theorem dX7_rank_19 : dI cX7_rank 19 20 (.iload_n 0) 1 := ⟨by decide +kernel, rfl⟩
theorem dX7_rank_20 : dI cX7_rank 20 22 (.bipush (-5)) 2 := ⟨by decide +kernel, rfl⟩
theorem dX7_rank_22 : decode cX7_rank 22 = .ok (.if_icmp .lt 7, 3) := by decide +kernel
theorem dX7_rank_25 : dI cX7_rank 25 26 (.iconst 3) 1 := ⟨by decide +kernel, rfl⟩
theorem dX7_rank_26 : decode cX7_rank 26 = .ok (.goto 25, 3) := by decide +kernel
theorem dX7_rank_29 : dI cX7_rank 29 30 (.iload_n 0) 1 := ⟨by decide +kernel, rfl⟩
theorem dX7_rank_30 : dI cX7_rank 30 32 (.bipush (-7)) 2 := ⟨by decide +kernel, rfl⟩
theorem dX7_rank_32 : decode cX7_rank 32 = .ok (.if_icmp .lt 7, 3) := by decide +kernel
theorem dX7_rank_35 : dI cX7_rank 35 36 (.iconst 4) 1 := ⟨by decide +kernel, rfl⟩
theorem dX7_rank_36 : decode cX7_rank 36 = .ok (.goto 15, 3) := by decide +kernel
theorem dX7_rank_39 : dI cX7_rank 39 40 (.iload_n 0) 1 := ⟨by decide +kernel, rfl⟩
theorem dX7_rank_40 : dI cX7_rank 40 42 (.bipush (-9)) 2 := ⟨by decide +kernel, rfl⟩
theorem dX7_rank_42 : decode cX7_rank 42 = .ok (.if_icmp .lt 7, 3) := by decide +kernel
theorem dX7_rank_45 : dI cX7_rank 45 46 (.iconst 5) 1 := ⟨by decide +kernel, rfl⟩
theorem dX7_rank_46 : decode cX7_rank 46 = .ok (.goto 5, 3) := by decide +kernel
theorem dX7_rank_49 : dI cX7_rank 49 51 (.bipush 6) 2 := ⟨by decide +kernel, rfl⟩
theorem dX7_rank_51 : dI cX7_rank 51 52 (.ireturn) 1 := ⟨by decide +kernel, rfl⟩
def f_X7_rank (s : hS) (i0 : Int32) : Option (Int32 × hS) :=
  if i0 = (-1 : Int32) then
    some ((1 : Int32), s)
  else
    if i0 = (-2 : Int32) then
      some ((2 : Int32), s)
    else
      if i0 < (-5 : Int32) then
        if i0 < (-7 : Int32) then
          if i0 < (-9 : Int32) then
            some ((6 : Int32), s)
          else
            some ((5 : Int32), s)
        else
          some ((4 : Int32), s)
      else
        some ((3 : Int32), s)
theorem b_X7_rank_in (E : jE)  (s : hS) (i0 : Int32)  : Jo E M_X7_rank cvI 0 [(0, .int i0)] [] s (f_X7_rank s i0) := by
  unfold f_X7_rank
  refine Jo_iloadn 0 dX7_rank_0 rfl rfl ?_
  refine Jo_iconst (v := (-1 : Int32)) dX7_rank_1 (by decide) ?_
  refine Jo_icmp_ne 9 dX7_rank_2 (by decide) rfl ?_ ?_
  · refine Jo_iconst (v := (1 : Int32)) dX7_rank_5 (by decide) ?_
    refine Jo_goto 51 dX7_rank_6 (by decide) ?_
    exact Jo_iret rfl dX7_rank_51
  · refine Jo_iloadn 0 dX7_rank_9 rfl rfl ?_
    refine Jo_bipush (v := (-2 : Int32)) dX7_rank_10 (by decide) ?_
    refine Jo_icmp_ne 19 dX7_rank_12 (by decide) rfl ?_ ?_
    · refine Jo_iconst (v := (2 : Int32)) dX7_rank_15 (by decide) ?_
      refine Jo_goto 51 dX7_rank_16 (by decide) ?_
      exact Jo_iret rfl dX7_rank_51
    · refine Jo_iloadn 0 dX7_rank_19 rfl rfl ?_
      refine Jo_bipush (v := (-5 : Int32)) dX7_rank_20 (by decide) ?_
      refine Jo_icmp_lt 29 dX7_rank_22 (by decide) rfl ?_ ?_
      · refine Jo_iloadn 0 dX7_rank_29 rfl rfl ?_
        refine Jo_bipush (v := (-7 : Int32)) dX7_rank_30 (by decide) ?_
        refine Jo_icmp_lt 39 dX7_rank_32 (by decide) rfl ?_ ?_
        · refine Jo_iloadn 0 dX7_rank_39 rfl rfl ?_
          refine Jo_bipush (v := (-9 : Int32)) dX7_rank_40 (by decide) ?_
          refine Jo_icmp_lt 49 dX7_rank_42 (by decide) rfl ?_ ?_
          · refine Jo_bipush (v := (6 : Int32)) dX7_rank_49 (by decide) ?_
            exact Jo_iret rfl dX7_rank_51
          · refine Jo_iconst (v := (5 : Int32)) dX7_rank_45 (by decide) ?_
            refine Jo_goto 51 dX7_rank_46 (by decide) ?_
            exact Jo_iret rfl dX7_rank_51
        · refine Jo_iconst (v := (4 : Int32)) dX7_rank_35 (by decide) ?_
          refine Jo_goto 51 dX7_rank_36 (by decide) ?_
          exact Jo_iret rfl dX7_rank_51
      · refine Jo_iconst (v := (3 : Int32)) dX7_rank_25 (by decide) ?_
        refine Jo_goto 51 dX7_rank_26 (by decide) ?_
        exact Jo_iret rfl dX7_rank_51
theorem K_X7_rank (E : jE) (s : hS) (i0 : Int32) : jK E yX7_rank M_X7_rank cvI [.int i0] s (f_X7_rank s i0) := jK_of ⟨by decide, rfl, rfl⟩ (Nat.le_of_ble_eq_true rfl) (b_X7_rank_in E s i0)
/-! HeronTalkModel.settle(I)V -/
abbrev M_X7_settle : jM := (RX7, cX7_settle, 2, (none : Option Jvm.ClassFile.FieldType), "settle", 1, 20)
theorem yF_X7_settle : yF yX7_settle M_X7_settle 1 := ⟨w_892, w_624, by decide +kernel⟩
theorem yV_X7_settle : Cond.instanceMethod yX7_settle ∈ tbG ∧ Cond.selects yX7_settle.cls yX7_settle yX7_settle ∈ tbG := ⟨w_893, w_894⟩
theorem dX7_settle_0 : dI cX7_settle 0 1 (.aload_n 0) 1 := ⟨by decide +kernel, rfl⟩
theorem dX7_settle_1 : dI cX7_settle 1 4 (.getfield 241) 3 := ⟨by decide +kernel, rfl⟩
theorem dX7_settle_4 : decode cX7_settle 4 = .ok (.ifCond .le 78, 3) := by decide +kernel
theorem dX7_settle_7 : dI cX7_settle 7 8 (.aload_n 0) 1 := ⟨by decide +kernel, rfl⟩
theorem dX7_settle_8 : dI cX7_settle 8 11 (.getfield 38) 3 := ⟨by decide +kernel, rfl⟩
theorem dX7_settle_11 : dI cX7_settle 11 12 (.aload_n 0) 1 := ⟨by decide +kernel, rfl⟩
theorem dX7_settle_12 : dI cX7_settle 12 15 (.getfield 241) 3 := ⟨by decide +kernel, rfl⟩
theorem dX7_settle_15 : dI cX7_settle 15 16 (.iconst 1) 1 := ⟨by decide +kernel, rfl⟩
theorem dX7_settle_16 : dI cX7_settle 16 17 (.isub) 1 := ⟨by decide +kernel, rfl⟩
theorem dX7_settle_17 : dI cX7_settle 17 18 (.iaload) 1 := ⟨by decide +kernel, rfl⟩
theorem dX7_settle_18 : dI cX7_settle 18 20 (.bipush (-11)) 2 := ⟨by decide +kernel, rfl⟩
theorem dX7_settle_20 : decode cX7_settle 20 = .ok (.if_icmp .eq 62, 3) := by decide +kernel
theorem dX7_settle_23 : dI cX7_settle 23 24 (.aload_n 0) 1 := ⟨by decide +kernel, rfl⟩
theorem dX7_settle_24 : dI cX7_settle 24 27 (.getfield 38) 3 := ⟨by decide +kernel, rfl⟩
theorem dX7_settle_27 : dI cX7_settle 27 28 (.aload_n 0) 1 := ⟨by decide +kernel, rfl⟩
theorem dX7_settle_28 : dI cX7_settle 28 31 (.getfield 241) 3 := ⟨by decide +kernel, rfl⟩
theorem dX7_settle_31 : dI cX7_settle 31 32 (.iconst 1) 1 := ⟨by decide +kernel, rfl⟩
theorem dX7_settle_32 : dI cX7_settle 32 33 (.isub) 1 := ⟨by decide +kernel, rfl⟩
theorem dX7_settle_33 : dI cX7_settle 33 34 (.iaload) 1 := ⟨by decide +kernel, rfl⟩
theorem dX7_settle_34 : decode cX7_settle 34 = .ok (.invokestatic 244, 3) := by decide +kernel
theorem dX7_settle_37 : dI cX7_settle 37 38 (.iload_n 1) 1 := ⟨by decide +kernel, rfl⟩
theorem dX7_settle_38 : decode cX7_settle 38 = .ok (.if_icmp .lt 44, 3) := by decide +kernel
theorem dX7_settle_41 : dI cX7_settle 41 42 (.aload_n 0) 1 := ⟨by decide +kernel, rfl⟩
theorem dX7_settle_42 : dI cX7_settle 42 43 (.dup) 1 := ⟨by decide +kernel, rfl⟩
theorem dX7_settle_43 : dI cX7_settle 43 46 (.getfield 241) 3 := ⟨by decide +kernel, rfl⟩
theorem dX7_settle_46 : dI cX7_settle 46 47 (.iconst 1) 1 := ⟨by decide +kernel, rfl⟩
theorem dX7_settle_47 : dI cX7_settle 47 48 (.isub) 1 := ⟨by decide +kernel, rfl⟩
theorem dX7_settle_48 : dI cX7_settle 48 51 (.putfield 241) 3 := ⟨by decide +kernel, rfl⟩
theorem dX7_settle_51 : dI cX7_settle 51 52 (.aload_n 0) 1 := ⟨by decide +kernel, rfl⟩
theorem dX7_settle_52 : dI cX7_settle 52 55 (.getfield 35) 3 := ⟨by decide +kernel, rfl⟩
theorem dX7_settle_55 : dI cX7_settle 55 56 (.aload_n 0) 1 := ⟨by decide +kernel, rfl⟩
theorem dX7_settle_56 : dI cX7_settle 56 59 (.getfield 247) 3 := ⟨by decide +kernel, rfl⟩
theorem dX7_settle_59 : dI cX7_settle 59 60 (.aload_n 0) 1 := ⟨by decide +kernel, rfl⟩
theorem dX7_settle_60 : dI cX7_settle 60 63 (.getfield 38) 3 := ⟨by decide +kernel, rfl⟩
theorem dX7_settle_63 : dI cX7_settle 63 64 (.aload_n 0) 1 := ⟨by decide +kernel, rfl⟩
theorem dX7_settle_64 : dI cX7_settle 64 67 (.getfield 241) 3 := ⟨by decide +kernel, rfl⟩
theorem dX7_settle_67 : dI cX7_settle 67 68 (.iaload) 1 := ⟨by decide +kernel, rfl⟩
theorem dX7_settle_68 : dI cX7_settle 68 69 (.iastore) 1 := ⟨by decide +kernel, rfl⟩
theorem dX7_settle_69 : dI cX7_settle 69 70 (.aload_n 0) 1 := ⟨by decide +kernel, rfl⟩
theorem dX7_settle_70 : dI cX7_settle 70 71 (.dup) 1 := ⟨by decide +kernel, rfl⟩
theorem dX7_settle_71 : dI cX7_settle 71 74 (.getfield 247) 3 := ⟨by decide +kernel, rfl⟩
theorem dX7_settle_74 : dI cX7_settle 74 75 (.iconst 1) 1 := ⟨by decide +kernel, rfl⟩
theorem dX7_settle_75 : dI cX7_settle 75 76 (.iadd) 1 := ⟨by decide +kernel, rfl⟩
theorem dX7_settle_76 : dI cX7_settle 76 79 (.putfield 247) 3 := ⟨by decide +kernel, rfl⟩
theorem dX7_settle_79 : decode cX7_settle 79 = .ok (.goto (-79), 3) := by decide +kernel
theorem dX7_settle_82 : dI cX7_settle 82 83 (.return_) 1 := ⟨by decide +kernel, rfl⟩
def f_X7_settle_b0 (k0 : Nat → Int32 → hS → Option (Unit × hS)) (l0 : Nat) (l1 : Int32) (s : hS) : Option (Unit × hS) :=
  (gI s l0 7 20).bind fun x1 =>
  if x1 ≤ 0 then
    some ((), s)
  else
    (gR s l0 7 19).bind fun a2 =>
    (gI s l0 7 20).bind fun x3 =>
    (aI s a2 10 (x3 - (1 : Int32))).bind fun x4 =>
    if x4 = (-11 : Int32) then
      some ((), s)
    else
      (gR s l0 7 19).bind fun a5 =>
      (gI s l0 7 20).bind fun x6 =>
      (aI s a5 10 (x6 - (1 : Int32))).bind fun x7 =>
      (f_X7_rank s x7).bind fun p8 =>
      if p8.1 < l1 then
        some ((), p8.2)
      else
        (gI p8.2 l0 7 20).bind fun x9 =>
        (pI p8.2 l0 7 20 (x9 - (1 : Int32))).bind fun s10 =>
        (gR s10 l0 7 16).bind fun a11 =>
        (gI s10 l0 7 17).bind fun x12 =>
        (gR s10 l0 7 19).bind fun a13 =>
        (gI s10 l0 7 20).bind fun x14 =>
        (aI s10 a13 10 x14).bind fun x15 =>
        (sI s10 a11 10 x12 x15).bind fun s16 =>
        (gI s16 l0 7 17).bind fun x17 =>
        (pI s16 l0 7 17 (x17 + (1 : Int32))).bind fun s18 =>
        k0 l0 l1 s18
theorem b_X7_settle_0 (E : jE) (k0 : Nat → Int32 → hS → Option (Unit × hS)) (h0 : ∀ (s : hS) (l0 : Nat) (l1 : Int32) , Jo E M_X7_settle cvV 0 [(0, .ref l0), (1, .int l1)] [] s (k0 l0 l1 s)) (s : hS) (l0 : Nat) (l1 : Int32)  : Jo E M_X7_settle cvV 0 [(0, .ref l0), (1, .int l1)] [] s (f_X7_settle_b0 k0 l0 l1 s) := by
  unfold f_X7_settle_b0
  refine Jo_aloadn 0 dX7_settle_0 rfl rfl ?_
  refine Jo_getI fF_7_20 fI_7_20 dX7_settle_1 w_890 (fun x1 => ?_)
  refine Jo_if_le 82 dX7_settle_4 (by decide) rfl ?_ ?_
  · exact Jo_vret rfl dX7_settle_82
  · refine Jo_aloadn 0 dX7_settle_7 rfl rfl ?_
    refine Jo_getR fF_7_19 fR_7_19 dX7_settle_8 w_612 (fun a2 => ?_)
    refine Jo_aloadn 0 dX7_settle_11 rfl rfl ?_
    refine Jo_getI fF_7_20 fI_7_20 dX7_settle_12 w_890 (fun x3 => ?_)
    refine Jo_iconst (v := (1 : Int32)) dX7_settle_15 (by decide) ?_
    refine Jo_isub dX7_settle_16 ?_
    refine Jo_iaload dX7_settle_17 (fun x4 => ?_)
    refine Jo_bipush (v := (-11 : Int32)) dX7_settle_18 (by decide) ?_
    refine Jo_icmp_eq 82 dX7_settle_20 (by decide) rfl ?_ ?_
    · exact Jo_vret rfl dX7_settle_82
    · refine Jo_aloadn 0 dX7_settle_23 rfl rfl ?_
      refine Jo_getR fF_7_19 fR_7_19 dX7_settle_24 w_612 (fun a5 => ?_)
      refine Jo_aloadn 0 dX7_settle_27 rfl rfl ?_
      refine Jo_getI fF_7_20 fI_7_20 dX7_settle_28 w_890 (fun x6 => ?_)
      refine Jo_iconst (v := (1 : Int32)) dX7_settle_31 (by decide) ?_
      refine Jo_isub dX7_settle_32 ?_
      refine Jo_iaload dX7_settle_33 (fun x7 => ?_)
      refine Jo_callSi (rest := []) [.int x7] yF_X7_rank yS_X7_rank w_891 rfl rfl ⟨Nat.le_of_ble_eq_true rfl, Nat.le_of_ble_eq_true rfl, Nat.le_of_ble_eq_true rfl⟩ dX7_settle_34 rfl (K_X7_rank E s x7) (fun p8 => ?_)
      refine Jo_iloadn 1 dX7_settle_37 rfl rfl ?_
      refine Jo_icmp_lt 82 dX7_settle_38 (by decide) rfl ?_ ?_
      · exact Jo_vret rfl dX7_settle_82
      · refine Jo_aloadn 0 dX7_settle_41 rfl rfl ?_
        refine Jo_dup dX7_settle_42 rfl ?_
        refine Jo_getI fF_7_20 fI_7_20 dX7_settle_43 w_890 (fun x9 => ?_)
        refine Jo_iconst (v := (1 : Int32)) dX7_settle_46 (by decide) ?_
        refine Jo_isub dX7_settle_47 ?_
        refine Jo_putI fF_7_20 fI_7_20 (Or.inl rfl) rfl dX7_settle_48 w_890 (fun s10 => ?_)
        refine Jo_aloadn 0 dX7_settle_51 rfl rfl ?_
        refine Jo_getR fF_7_16 fR_7_16 dX7_settle_52 w_613 (fun a11 => ?_)
        refine Jo_aloadn 0 dX7_settle_55 rfl rfl ?_
        refine Jo_getI fF_7_17 fI_7_17 dX7_settle_56 w_889 (fun x12 => ?_)
        refine Jo_aloadn 0 dX7_settle_59 rfl rfl ?_
        refine Jo_getR fF_7_19 fR_7_19 dX7_settle_60 w_612 (fun a13 => ?_)
        refine Jo_aloadn 0 dX7_settle_63 rfl rfl ?_
        refine Jo_getI fF_7_20 fI_7_20 dX7_settle_64 w_890 (fun x14 => ?_)
        refine Jo_iaload dX7_settle_67 (fun x15 => ?_)
        refine Jo_iastore dX7_settle_68 (fun s16 => ?_)
        refine Jo_aloadn 0 dX7_settle_69 rfl rfl ?_
        refine Jo_dup dX7_settle_70 rfl ?_
        refine Jo_getI fF_7_17 fI_7_17 dX7_settle_71 w_889 (fun x17 => ?_)
        refine Jo_iconst (v := (1 : Int32)) dX7_settle_74 (by decide) ?_
        refine Jo_iadd dX7_settle_75 ?_
        refine Jo_putI fF_7_17 fI_7_17 (Or.inl rfl) rfl dX7_settle_76 w_889 (fun s18 => ?_)
        refine Jo_goto 0 dX7_settle_79 (by decide) ?_
        exact h0 s18 l0 l1
theorem e_X7_settle_0 (E : jE)  (n : Nat) : ∀ (s : hS) (l0 : Nat) (l1 : Int32) , Jo E M_X7_settle cvV 0 [(0, .ref l0), (1, .int l1)] [] s ((jL f_X7_settle_b0 (fun _ _ _ => none) n) l0 l1 s) :=
  jL_ind (P := fun f => ∀ (s : hS) (l0 : Nat) (l1 : Int32) , Jo E M_X7_settle cvV 0 [(0, .ref l0), (1, .int l1)] [] s (f l0 l1 s)) (fun _ _ _ => Jo_none) (fun b hb s l0 l1 => b_X7_settle_0 E  b hb s l0 l1) n
def f_X7_settle (s : hS) (a0 : Nat) (i1 : Int32) : Option (Unit × hS) :=
  jL f_X7_settle_b0 (fun _ _ _ => none) jF a0 i1 s
theorem b_X7_settle_in (E : jE)  (s : hS) (a0 : Nat) (i1 : Int32)  : Jo E M_X7_settle cvV 0 [(0, .ref a0), (1, .int i1)] [] s (f_X7_settle s a0 i1) := by
  unfold f_X7_settle
  exact e_X7_settle_0 E jF s a0 i1
theorem K_X7_settle (E : jE) (s : hS) (a0 : Nat) (i1 : Int32) : jK E yX7_settle M_X7_settle cvV [.ref a0, .int i1] s (f_X7_settle s a0 i1) := jK_of ⟨by decide, rfl, rfl⟩ (Nat.le_of_ble_eq_true rfl) (b_X7_settle_in E s a0 i1)
/-! HeronTalkModel.signHere()I -/
abbrev M_X7_signHere : jM := (RX7, cX7_signHere, 1, (some .int), "signHere", 0, 0)
theorem yF_X7_signHere : yF yX7_signHere M_X7_signHere 0 := ⟨w_895, w_624, by decide +kernel⟩
theorem yV_X7_signHere : Cond.instanceMethod yX7_signHere ∈ tbG ∧ Cond.selects yX7_signHere.cls yX7_signHere yX7_signHere ∈ tbG := ⟨w_896, w_897⟩
theorem dX7_signHere_0 : dI cX7_signHere 0 1 (.aload_n 0) 1 := ⟨by decide +kernel, rfl⟩
theorem dX7_signHere_1 : dI cX7_signHere 1 4 (.getfield 223) 3 := ⟨by decide +kernel, rfl⟩
theorem dX7_signHere_4 : dI cX7_signHere 4 5 (.iconst 3) 1 := ⟨by decide +kernel, rfl⟩
theorem dX7_signHere_5 : decode cX7_signHere 5 = .ok (.if_icmp .eq 5, 3) := by decide +kernel
theorem dX7_signHere_8 : dI cX7_signHere 8 9 (.iconst 0) 1 := ⟨by decide +kernel, rfl⟩
theorem dX7_signHere_9 : dI cX7_signHere 9 10 (.ireturn) 1 := ⟨by decide +kernel, rfl⟩
theorem dX7_signHere_10 : dI cX7_signHere 10 11 (.aload_n 0) 1 := ⟨by decide +kernel, rfl⟩
theorem dX7_signHere_11 : dI cX7_signHere 11 14 (.getfield 229) 3 := ⟨by decide +kernel, rfl⟩
theorem dX7_signHere_14 : decode cX7_signHere 14 = .ok (.lookupswitch 108 #[(38, 84), (42, 102), (43, 96), (45, 99), (47, 105), (60, 87), (61, 90), (62, 93), (124, 82)], 82) := by decide +kernel
theorem dX7_signHere_96 : dI cX7_signHere 96 97 (.iconst (-1)) 1 := ⟨by decide +kernel, rfl⟩
theorem dX7_signHere_97 : dI cX7_signHere 97 98 (.ireturn) 1 := ⟨by decide +kernel, rfl⟩
theorem dX7_signHere_98 : dI cX7_signHere 98 100 (.bipush (-2)) 2 := ⟨by decide +kernel, rfl⟩
theorem dX7_signHere_100 : dI cX7_signHere 100 101 (.ireturn) 1 := ⟨by decide +kernel, rfl⟩
theorem dX7_signHere_101 : dI cX7_signHere 101 103 (.bipush (-3)) 2 := ⟨by decide +kernel, rfl⟩
theorem dX7_signHere_103 : dI cX7_signHere 103 104 (.ireturn) 1 := ⟨by decide +kernel, rfl⟩
theorem dX7_signHere_104 : dI cX7_signHere 104 106 (.bipush (-4)) 2 := ⟨by decide +kernel, rfl⟩
theorem dX7_signHere_106 : dI cX7_signHere 106 107 (.ireturn) 1 := ⟨by decide +kernel, rfl⟩
theorem dX7_signHere_107 : dI cX7_signHere 107 109 (.bipush (-5)) 2 := ⟨by decide +kernel, rfl⟩
theorem dX7_signHere_109 : dI cX7_signHere 109 110 (.ireturn) 1 := ⟨by decide +kernel, rfl⟩
theorem dX7_signHere_110 : dI cX7_signHere 110 112 (.bipush (-6)) 2 := ⟨by decide +kernel, rfl⟩
theorem dX7_signHere_112 : dI cX7_signHere 112 113 (.ireturn) 1 := ⟨by decide +kernel, rfl⟩
theorem dX7_signHere_113 : dI cX7_signHere 113 115 (.bipush (-7)) 2 := ⟨by decide +kernel, rfl⟩
theorem dX7_signHere_115 : dI cX7_signHere 115 116 (.ireturn) 1 := ⟨by decide +kernel, rfl⟩
theorem dX7_signHere_116 : dI cX7_signHere 116 118 (.bipush (-8)) 2 := ⟨by decide +kernel, rfl⟩
theorem dX7_signHere_118 : dI cX7_signHere 118 119 (.ireturn) 1 := ⟨by decide +kernel, rfl⟩
theorem dX7_signHere_119 : dI cX7_signHere 119 121 (.bipush (-9)) 2 := ⟨by decide +kernel, rfl⟩
theorem dX7_signHere_121 : dI cX7_signHere 121 122 (.ireturn) 1 := ⟨by decide +kernel, rfl⟩
theorem dX7_signHere_122 : dI cX7_signHere 122 123 (.iconst 0) 1 := ⟨by decide +kernel, rfl⟩
theorem dX7_signHere_123 : dI cX7_signHere 123 124 (.ireturn) 1 := ⟨by decide +kernel, rfl⟩
def f_X7_signHere (s : hS) (a0 : Nat) : Option (Int32 × hS) :=
  (gI s a0 7 10).bind fun x1 =>
  if x1 = (3 : Int32) then
    (gI s a0 7 11).bind fun x2 =>
    if x2 = (38 : Int32) then
      some ((-2 : Int32), s)
    else
    if x2 = (42 : Int32) then
      some ((-8 : Int32), s)
    else
    if x2 = (43 : Int32) then
      some ((-6 : Int32), s)
    else
    if x2 = (45 : Int32) then
      some ((-7 : Int32), s)
    else
    if x2 = (47 : Int32) then
      some ((-9 : Int32), s)
    else
    if x2 = (60 : Int32) then
      some ((-3 : Int32), s)
    else
    if x2 = (61 : Int32) then
      some ((-4 : Int32), s)
    else
    if x2 = (62 : Int32) then
      some ((-5 : Int32), s)
    else
    if x2 = (124 : Int32) then
      some ((-1 : Int32), s)
    else
    some ((0 : Int32), s)
  else
    some ((0 : Int32), s)
theorem b_X7_signHere_in (E : jE)  (s : hS) (a0 : Nat)  : Jo E M_X7_signHere cvI 0 [(0, .ref a0)] [] s (f_X7_signHere s a0) := by
  unfold f_X7_signHere
  refine Jo_aloadn 0 dX7_signHere_0 rfl rfl ?_
  refine Jo_getI fF_7_10 fI_7_10 dX7_signHere_1 w_871 (fun x1 => ?_)
  refine Jo_iconst (v := (3 : Int32)) dX7_signHere_4 (by decide) ?_
  refine Jo_icmp_eq 10 dX7_signHere_5 (by decide) rfl ?_ ?_
  · refine Jo_aloadn 0 dX7_signHere_10 rfl rfl ?_
    refine Jo_getI fF_7_11 fI_7_11 dX7_signHere_11 w_872 (fun x2 => ?_)
    refine Jo_case ?_ (fun g3 => ?_)
    · refine Jo_look (off := 84) 98 dX7_signHere_14 (by decide) (by decide) (by decide) ?_
      refine Jo_bipush (v := (-2 : Int32)) dX7_signHere_98 (by decide) ?_
      exact Jo_iret rfl dX7_signHere_100
    refine Jo_case ?_ (fun g4 => ?_)
    · refine Jo_look (off := 102) 116 dX7_signHere_14 (by decide) (by decide) (by decide) ?_
      refine Jo_bipush (v := (-8 : Int32)) dX7_signHere_116 (by decide) ?_
      exact Jo_iret rfl dX7_signHere_118
    refine Jo_case ?_ (fun g5 => ?_)
    · refine Jo_look (off := 96) 110 dX7_signHere_14 (by decide) (by decide) (by decide) ?_
      refine Jo_bipush (v := (-6 : Int32)) dX7_signHere_110 (by decide) ?_
      exact Jo_iret rfl dX7_signHere_112
    refine Jo_case ?_ (fun g6 => ?_)
    · refine Jo_look (off := 99) 113 dX7_signHere_14 (by decide) (by decide) (by decide) ?_
      refine Jo_bipush (v := (-7 : Int32)) dX7_signHere_113 (by decide) ?_
      exact Jo_iret rfl dX7_signHere_115
    refine Jo_case ?_ (fun g7 => ?_)
    · refine Jo_look (off := 105) 119 dX7_signHere_14 (by decide) (by decide) (by decide) ?_
      refine Jo_bipush (v := (-9 : Int32)) dX7_signHere_119 (by decide) ?_
      exact Jo_iret rfl dX7_signHere_121
    refine Jo_case ?_ (fun g8 => ?_)
    · refine Jo_look (off := 87) 101 dX7_signHere_14 (by decide) (by decide) (by decide) ?_
      refine Jo_bipush (v := (-3 : Int32)) dX7_signHere_101 (by decide) ?_
      exact Jo_iret rfl dX7_signHere_103
    refine Jo_case ?_ (fun g9 => ?_)
    · refine Jo_look (off := 90) 104 dX7_signHere_14 (by decide) (by decide) (by decide) ?_
      refine Jo_bipush (v := (-4 : Int32)) dX7_signHere_104 (by decide) ?_
      exact Jo_iret rfl dX7_signHere_106
    refine Jo_case ?_ (fun g10 => ?_)
    · refine Jo_look (off := 93) 107 dX7_signHere_14 (by decide) (by decide) (by decide) ?_
      refine Jo_bipush (v := (-5 : Int32)) dX7_signHere_107 (by decide) ?_
      exact Jo_iret rfl dX7_signHere_109
    refine Jo_case ?_ (fun g11 => ?_)
    · refine Jo_look (off := 82) 96 dX7_signHere_14 (by decide) (by decide) (by decide) ?_
      refine Jo_iconst (v := (-1 : Int32)) dX7_signHere_96 (by decide) ?_
      exact Jo_iret rfl dX7_signHere_97
    refine Jo_look (off := 108) 122 dX7_signHere_14 (by decide) (by have qg3 := i32ne 38 (by decide) g3; have qg4 := i32ne 42 (by decide) g4; have qg5 := i32ne 43 (by decide) g5; have qg6 := i32ne 45 (by decide) g6; have qg7 := i32ne 47 (by decide) g7; have qg8 := i32ne 60 (by decide) g8; have qg9 := i32ne 61 (by decide) g9; have qg10 := i32ne 62 (by decide) g10; have qg11 := i32ne 124 (by decide) g11; simp [Op.lookupswitch.offset_cons, Op.lookupswitch.offset_nil, Ne.symm qg3, Ne.symm qg4, Ne.symm qg5, Ne.symm qg6, Ne.symm qg7, Ne.symm qg8, Ne.symm qg9, Ne.symm qg10, Ne.symm qg11]) (by decide) ?_
    refine Jo_iconst (v := (0 : Int32)) dX7_signHere_122 (by decide) ?_
    exact Jo_iret rfl dX7_signHere_123
  · refine Jo_iconst (v := (0 : Int32)) dX7_signHere_8 (by decide) ?_
    exact Jo_iret rfl dX7_signHere_9
theorem K_X7_signHere (E : jE) (s : hS) (a0 : Nat) : jK E yX7_signHere M_X7_signHere cvI [.ref a0] s (f_X7_signHere s a0) := jK_of ⟨by decide, rfl, rfl⟩ (Nat.le_of_ble_eq_true rfl) (b_X7_signHere_in E s a0)
/-! HeronTalkModel.takesPart()Z -/
abbrev M_X7_takesPart : jM := (RX7, cX7_takesPart, 2, (some .boolean), "takesPart", 2, 42)
theorem yF_X7_takesPart : yF yX7_takesPart M_X7_takesPart 0 := ⟨w_901, w_624, by decide +kernel⟩
theorem yV_X7_takesPart : Cond.instanceMethod yX7_takesPart ∈ tbG ∧ Cond.selects yX7_takesPart.cls yX7_takesPart yX7_takesPart ∈ tbG := ⟨w_902, w_903⟩
theorem dX7_takesPart_0 : dI cX7_takesPart 0 1 (.aload_n 0) 1 := ⟨by decide +kernel, rfl⟩
theorem dX7_takesPart_1 : dI cX7_takesPart 1 4 (.getfield 223) 3 := ⟨by decide +kernel, rfl⟩
theorem dX7_takesPart_4 : dI cX7_takesPart 4 5 (.iconst 1) 1 := ⟨by decide +kernel, rfl⟩
theorem dX7_takesPart_5 : decode cX7_takesPart 5 = .ok (.if_icmp .ne 31, 3) := by decide +kernel
theorem dX7_takesPart_8 : dI cX7_takesPart 8 9 (.aload_n 0) 1 := ⟨by decide +kernel, rfl⟩
theorem dX7_takesPart_9 : dI cX7_takesPart 9 12 (.getfield 214) 3 := ⟨by decide +kernel, rfl⟩
theorem dX7_takesPart_12 : dI cX7_takesPart 12 13 (.aload_n 0) 1 := ⟨by decide +kernel, rfl⟩
theorem dX7_takesPart_13 : dI cX7_takesPart 13 16 (.getfield 217) 3 := ⟨by decide +kernel, rfl⟩
theorem dX7_takesPart_16 : dI cX7_takesPart 16 17 (.isub) 1 := ⟨by decide +kernel, rfl⟩
theorem dX7_takesPart_17 : dI cX7_takesPart 17 18 (.iconst 1) 1 := ⟨by decide +kernel, rfl⟩
theorem dX7_takesPart_18 : decode cX7_takesPart 18 = .ok (.if_icmp .ne 18, 3) := by decide +kernel
theorem dX7_takesPart_21 : dI cX7_takesPart 21 22 (.aload_n 0) 1 := ⟨by decide +kernel, rfl⟩
theorem dX7_takesPart_22 : dI cX7_takesPart 22 23 (.aload_n 0) 1 := ⟨by decide +kernel, rfl⟩
theorem dX7_takesPart_23 : dI cX7_takesPart 23 26 (.getfield 229) 3 := ⟨by decide +kernel, rfl⟩
theorem dX7_takesPart_26 : decode cX7_takesPart 26 = .ok (.invokevirtual 250, 3) := by decide +kernel
theorem dX7_takesPart_29 : decode cX7_takesPart 29 = .ok (.ifCond .lt 7, 3) := by decide +kernel
theorem dX7_takesPart_32 : dI cX7_takesPart 32 33 (.iconst 1) 1 := ⟨by decide +kernel, rfl⟩
theorem dX7_takesPart_33 : decode cX7_takesPart 33 = .ok (.goto 4, 3) := by decide +kernel
theorem dX7_takesPart_36 : dI cX7_takesPart 36 37 (.iconst 0) 1 := ⟨by decide +kernel, rfl⟩
theorem dX7_takesPart_37 : dI cX7_takesPart 37 38 (.istore_n 1) 1 := ⟨by decide +kernel, rfl⟩
theorem dX7_takesPart_38 : dI cX7_takesPart 38 39 (.aload_n 0) 1 := ⟨by decide +kernel, rfl⟩
theorem dX7_takesPart_39 : dI cX7_takesPart 39 42 (.getfield 223) 3 := ⟨by decide +kernel, rfl⟩
theorem dX7_takesPart_42 : dI cX7_takesPart 42 43 (.iconst 2) 1 := ⟨by decide +kernel, rfl⟩
theorem dX7_takesPart_43 : decode cX7_takesPart 43 = .ok (.if_icmp .eq 9, 3) := by decide +kernel
theorem dX7_takesPart_46 : dI cX7_takesPart 46 47 (.iload_n 1) 1 := ⟨by decide +kernel, rfl⟩
theorem dX7_takesPart_47 : decode cX7_takesPart 47 = .ok (.ifCond .ne 5, 3) := by decide +kernel
theorem dX7_takesPart_50 : dI cX7_takesPart 50 51 (.iconst 0) 1 := ⟨by decide +kernel, rfl⟩
theorem dX7_takesPart_51 : dI cX7_takesPart 51 52 (.ireturn) 1 := ⟨by decide +kernel, rfl⟩
theorem dX7_takesPart_52 : dI cX7_takesPart 52 53 (.aload_n 0) 1 := ⟨by decide +kernel, rfl⟩
theorem dX7_takesPart_53 : dI cX7_takesPart 53 56 (.getfield 35) 3 := ⟨by decide +kernel, rfl⟩
theorem dX7_takesPart_56 : dI cX7_takesPart 56 57 (.aload_n 0) 1 := ⟨by decide +kernel, rfl⟩
theorem dX7_takesPart_57 : dI cX7_takesPart 57 60 (.getfield 247) 3 := ⟨by decide +kernel, rfl⟩
theorem dX7_takesPart_60 : dI cX7_takesPart 60 61 (.aload_n 0) 1 := ⟨by decide +kernel, rfl⟩
theorem dX7_takesPart_61 : dI cX7_takesPart 61 64 (.getfield 223) 3 := ⟨by decide +kernel, rfl⟩
theorem dX7_takesPart_64 : dI cX7_takesPart 64 65 (.iconst 2) 1 := ⟨by decide +kernel, rfl⟩
theorem dX7_takesPart_65 : decode cX7_takesPart 65 = .ok (.if_icmp .ne 10, 3) := by decide +kernel
theorem dX7_takesPart_68 : dI cX7_takesPart 68 69 (.aload_n 0) 1 := ⟨by decide +kernel, rfl⟩
theorem dX7_takesPart_69 : dI cX7_takesPart 69 72 (.getfield 229) 3 := ⟨by decide +kernel, rfl⟩
theorem dX7_takesPart_72 : decode cX7_takesPart 72 = .ok (.goto 15, 3) := by decide +kernel
theorem dX7_takesPart_75 : dI cX7_takesPart 75 78 (.sipush 10000) 3 := ⟨by decide +kernel, rfl⟩
theorem dX7_takesPart_78 : dI cX7_takesPart 78 79 (.aload_n 0) 1 := ⟨by decide +kernel, rfl⟩
theorem dX7_takesPart_79 : dI cX7_takesPart 79 80 (.aload_n 0) 1 := ⟨by decide +kernel, rfl⟩
theorem dX7_takesPart_80 : dI cX7_takesPart 80 83 (.getfield 229) 3 := ⟨by decide +kernel, rfl⟩
theorem dX7_takesPart_83 : decode cX7_takesPart 83 = .ok (.invokevirtual 250, 3) := by decide +kernel
theorem dX7_takesPart_86 : dI cX7_takesPart 86 87 (.iadd) 1 := ⟨by decide +kernel, rfl⟩
theorem dX7_takesPart_87 : dI cX7_takesPart 87 88 (.iastore) 1 := ⟨by decide +kernel, rfl⟩
theorem dX7_takesPart_88 : dI cX7_takesPart 88 89 (.aload_n 0) 1 := ⟨by decide +kernel, rfl⟩
theorem dX7_takesPart_89 : dI cX7_takesPart 89 90 (.dup) 1 := ⟨by decide +kernel, rfl⟩
theorem dX7_takesPart_90 : dI cX7_takesPart 90 93 (.getfield 247) 3 := ⟨by decide +kernel, rfl⟩
theorem dX7_takesPart_93 : dI cX7_takesPart 93 94 (.iconst 1) 1 := ⟨by decide +kernel, rfl⟩
theorem dX7_takesPart_94 : dI cX7_takesPart 94 95 (.iadd) 1 := ⟨by decide +kernel, rfl⟩
theorem dX7_takesPart_95 : dI cX7_takesPart 95 98 (.putfield 247) 3 := ⟨by decide +kernel, rfl⟩
theorem dX7_takesPart_98 : dI cX7_takesPart 98 99 (.aload_n 0) 1 := ⟨by decide +kernel, rfl⟩
theorem dX7_takesPart_99 : dI cX7_takesPart 99 100 (.dup) 1 := ⟨by decide +kernel, rfl⟩
theorem dX7_takesPart_100 : dI cX7_takesPart 100 103 (.getfield 253) 3 := ⟨by decide +kernel, rfl⟩
theorem dX7_takesPart_103 : dI cX7_takesPart 103 104 (.iconst 1) 1 := ⟨by decide +kernel, rfl⟩
theorem dX7_takesPart_104 : dI cX7_takesPart 104 105 (.iadd) 1 := ⟨by decide +kernel, rfl⟩
theorem dX7_takesPart_105 : dI cX7_takesPart 105 108 (.putfield 253) 3 := ⟨by decide +kernel, rfl⟩
theorem dX7_takesPart_108 : dI cX7_takesPart 108 109 (.aload_n 0) 1 := ⟨by decide +kernel, rfl⟩
theorem dX7_takesPart_109 : dI cX7_takesPart 109 111 (.bipush 6) 2 := ⟨by decide +kernel, rfl⟩
theorem dX7_takesPart_111 : decode cX7_takesPart 111 = .ok (.invokevirtual 256, 3) := by decide +kernel
theorem dX7_takesPart_114 : dI cX7_takesPart 114 115 (.aload_n 0) 1 := ⟨by decide +kernel, rfl⟩
theorem dX7_takesPart_115 : decode cX7_takesPart 115 = .ok (.invokevirtual 238, 3) := by decide +kernel
theorem dX7_takesPart_118 : dI cX7_takesPart 118 119 (.iconst 1) 1 := ⟨by decide +kernel, rfl⟩
theorem dX7_takesPart_119 : dI cX7_takesPart 119 120 (.ireturn) 1 := ⟨by decide +kernel, rfl⟩
def f_X7_takesPart_b87 (l0 : Nat) (t0 : Nat) (t1 : Int32) (t2 : Int32) (s : hS) : Option (Int32 × hS) :=
  (sI s t0 10 t1 t2).bind fun s1 =>
  (gI s1 l0 7 17).bind fun x2 =>
  (pI s1 l0 7 17 (x2 + (1 : Int32))).bind fun s3 =>
  (gI s3 l0 7 18).bind fun x4 =>
  (pI s3 l0 7 18 (x4 + (1 : Int32))).bind fun s5 =>
  (cV s5 l0 7 (f_X7_settle s5 l0 (6 : Int32))).bind fun p6 =>
  (cV p6.2 l0 7 (f_X7_go p6.2 l0)).bind fun p7 =>
  some ((1 : Int32), p7.2)
theorem b_X7_takesPart_87 (E : jE)  (s : hS) (l0 : Nat) (t0 : Nat) (t1 : Int32) (t2 : Int32) : Jo E M_X7_takesPart cvI 87 [(0, .ref l0)] [.int t2, .int t1, .ref t0] s (f_X7_takesPart_b87  l0 t0 t1 t2 s) := by
  unfold f_X7_takesPart_b87
  refine Jo_iastore dX7_takesPart_87 (fun s1 => ?_)
  refine Jo_aloadn 0 dX7_takesPart_88 rfl rfl ?_
  refine Jo_dup dX7_takesPart_89 rfl ?_
  refine Jo_getI fF_7_17 fI_7_17 dX7_takesPart_90 w_889 (fun x2 => ?_)
  refine Jo_iconst (v := (1 : Int32)) dX7_takesPart_93 (by decide) ?_
  refine Jo_iadd dX7_takesPart_94 ?_
  refine Jo_putI fF_7_17 fI_7_17 (Or.inl rfl) rfl dX7_takesPart_95 w_889 (fun s3 => ?_)
  refine Jo_aloadn 0 dX7_takesPart_98 rfl rfl ?_
  refine Jo_dup dX7_takesPart_99 rfl ?_
  refine Jo_getI fF_7_18 fI_7_18 dX7_takesPart_100 w_899 (fun x4 => ?_)
  refine Jo_iconst (v := (1 : Int32)) dX7_takesPart_103 (by decide) ?_
  refine Jo_iadd dX7_takesPart_104 ?_
  refine Jo_putI fF_7_18 fI_7_18 (Or.inl rfl) rfl dX7_takesPart_105 w_899 (fun s5 => ?_)
  refine Jo_aloadn 0 dX7_takesPart_108 rfl rfl ?_
  refine Jo_bipush (v := (6 : Int32)) dX7_takesPart_109 (by decide) ?_
  refine Jo_callVv (a := l0) (rest := []) [.int (6 : Int32)] cc_7 yF_X7_settle yV_X7_settle w_898 rfl rfl ⟨Nat.le_of_ble_eq_true rfl, Nat.le_of_ble_eq_true rfl, Nat.le_of_ble_eq_true rfl⟩ dX7_takesPart_111 rfl (K_X7_settle E s5 l0 (6 : Int32)) (fun p6 => ?_)
  refine Jo_aloadn 0 dX7_takesPart_114 rfl rfl ?_
  refine Jo_callVv (a := l0) (rest := []) [] cc_7 yF_X7_go yV_X7_go w_879 rfl rfl ⟨Nat.le_of_ble_eq_true rfl, Nat.le_of_ble_eq_true rfl, Nat.le_of_ble_eq_true rfl⟩ dX7_takesPart_115 rfl (K_X7_go E p6.2 l0) (fun p7 => ?_)
  refine Jo_iconst (v := (1 : Int32)) dX7_takesPart_118 (by decide) ?_
  exact Jo_zret1 rfl dX7_takesPart_119
def f_X7_takesPart_b52 (l0 : Nat) (s : hS) : Option (Int32 × hS) :=
  (gR s l0 7 16).bind fun a1 =>
  (gI s l0 7 17).bind fun x2 =>
  (gI s l0 7 10).bind fun x3 =>
  if x3 = (2 : Int32) then
    (gI s l0 7 11).bind fun x6 =>
    f_X7_takesPart_b87 l0 a1 x2 x6 s
  else
    (gI s l0 7 11).bind fun x4 =>
    (cV s l0 7 (f_X7_nameOf s l0 x4)).bind fun p5 =>
    f_X7_takesPart_b87 l0 a1 x2 ((10000 : Int32) + p5.1) p5.2
theorem b_X7_takesPart_52 (E : jE)  (s : hS) (l0 : Nat)  : Jo E M_X7_takesPart cvI 52 [(0, .ref l0)] [] s (f_X7_takesPart_b52  l0 s) := by
  unfold f_X7_takesPart_b52
  refine Jo_aloadn 0 dX7_takesPart_52 rfl rfl ?_
  refine Jo_getR fF_7_16 fR_7_16 dX7_takesPart_53 w_613 (fun a1 => ?_)
  refine Jo_aloadn 0 dX7_takesPart_56 rfl rfl ?_
  refine Jo_getI fF_7_17 fI_7_17 dX7_takesPart_57 w_889 (fun x2 => ?_)
  refine Jo_aloadn 0 dX7_takesPart_60 rfl rfl ?_
  refine Jo_getI fF_7_10 fI_7_10 dX7_takesPart_61 w_871 (fun x3 => ?_)
  refine Jo_iconst (v := (2 : Int32)) dX7_takesPart_64 (by decide) ?_
  refine Jo_icmp_ne 75 dX7_takesPart_65 (by decide) rfl ?_ ?_
  · refine Jo_aloadn 0 dX7_takesPart_68 rfl rfl ?_
    refine Jo_getI fF_7_11 fI_7_11 dX7_takesPart_69 w_872 (fun x6 => ?_)
    refine Jo_goto 87 dX7_takesPart_72 (by decide) ?_
    exact b_X7_takesPart_87 E s l0 a1 x2 x6
  · refine Jo_sipush (v := (10000 : Int32)) dX7_takesPart_75 (by decide) ?_
    refine Jo_aloadn 0 dX7_takesPart_78 rfl rfl ?_
    refine Jo_aloadn 0 dX7_takesPart_79 rfl rfl ?_
    refine Jo_getI fF_7_11 fI_7_11 dX7_takesPart_80 w_872 (fun x4 => ?_)
    refine Jo_callVi (a := l0) (rest := [.int (10000 : Int32), .int x2, .ref a1]) [.int x4] cc_7 yF_X7_nameOf yV_X7_nameOf w_900 rfl rfl ⟨Nat.le_of_ble_eq_true rfl, Nat.le_of_ble_eq_true rfl, Nat.le_of_ble_eq_true rfl⟩ dX7_takesPart_83 rfl (K_X7_nameOf E s l0 x4) (fun p5 => ?_)
    refine Jo_iadd dX7_takesPart_86 ?_
    exact b_X7_takesPart_87 E p5.2 l0 a1 x2 ((10000 : Int32) + p5.1)
def f_X7_takesPart_b37 (l0 : Nat) (t0 : Int32) (s : hS) : Option (Int32 × hS) :=
  (gI s l0 7 10).bind fun x1 =>
  if x1 = (2 : Int32) then
    f_X7_takesPart_b52 l0 s
  else
    if t0 = 0 then
      some ((0 : Int32), s)
    else
      f_X7_takesPart_b52 l0 s
theorem b_X7_takesPart_37 (E : jE)  (s : hS) (l0 : Nat) (t0 : Int32) : Jo E M_X7_takesPart cvI 37 [(0, .ref l0)] [.int t0] s (f_X7_takesPart_b37  l0 t0 s) := by
  unfold f_X7_takesPart_b37
  refine Jo_istoren (ls' := [(1, .int t0), (0, .ref l0)]) dX7_takesPart_37 rfl (by decide) rfl ?_
  refine Jo_aloadn 1 dX7_takesPart_38 rfl rfl ?_
  refine Jo_getI fF_7_10 fI_7_10 dX7_takesPart_39 w_871 (fun x1 => ?_)
  refine Jo_iconst (v := (2 : Int32)) dX7_takesPart_42 (by decide) ?_
  refine Jo_icmp_eq 52 dX7_takesPart_43 (by decide) rfl ?_ ?_
  · refine Jo_sub [1] rfl ?_
    exact b_X7_takesPart_52 E s l0
  · refine Jo_iloadn 0 dX7_takesPart_46 rfl rfl ?_
    refine Jo_if_ne 52 dX7_takesPart_47 (by decide) rfl ?_ ?_
    · refine Jo_iconst (v := (0 : Int32)) dX7_takesPart_50 (by decide) ?_
      exact Jo_zret0 rfl dX7_takesPart_51
    · refine Jo_sub [1] rfl ?_
      exact b_X7_takesPart_52 E s l0
def f_X7_takesPart_b36 (l0 : Nat) (s : hS) : Option (Int32 × hS) :=
  f_X7_takesPart_b37 l0 (0 : Int32) s
theorem b_X7_takesPart_36 (E : jE)  (s : hS) (l0 : Nat)  : Jo E M_X7_takesPart cvI 36 [(0, .ref l0)] [] s (f_X7_takesPart_b36  l0 s) := by
  unfold f_X7_takesPart_b36
  refine Jo_iconst (v := (0 : Int32)) dX7_takesPart_36 (by decide) ?_
  exact b_X7_takesPart_37 E s l0 (0 : Int32)
def f_X7_takesPart (s : hS) (a0 : Nat) : Option (Int32 × hS) :=
  (gI s a0 7 10).bind fun x1 =>
  if x1 = (1 : Int32) then
    (gI s a0 7 8).bind fun x2 =>
    (gI s a0 7 9).bind fun x3 =>
    if (x2 - x3) = (1 : Int32) then
      (gI s a0 7 11).bind fun x4 =>
      (cV s a0 7 (f_X7_nameOf s a0 x4)).bind fun p5 =>
      if p5.1 < 0 then
        f_X7_takesPart_b36 a0 p5.2
      else
        f_X7_takesPart_b37 a0 (1 : Int32) p5.2
    else
      f_X7_takesPart_b36 a0 s
  else
    f_X7_takesPart_b36 a0 s
theorem b_X7_takesPart_in (E : jE)  (s : hS) (a0 : Nat)  : Jo E M_X7_takesPart cvI 0 [(0, .ref a0)] [] s (f_X7_takesPart s a0) := by
  unfold f_X7_takesPart
  refine Jo_aloadn 0 dX7_takesPart_0 rfl rfl ?_
  refine Jo_getI fF_7_10 fI_7_10 dX7_takesPart_1 w_871 (fun x1 => ?_)
  refine Jo_iconst (v := (1 : Int32)) dX7_takesPart_4 (by decide) ?_
  refine Jo_icmp_ne 36 dX7_takesPart_5 (by decide) rfl ?_ ?_
  · refine Jo_aloadn 0 dX7_takesPart_8 rfl rfl ?_
    refine Jo_getI fF_7_8 fI_7_8 dX7_takesPart_9 w_870 (fun x2 => ?_)
    refine Jo_aloadn 0 dX7_takesPart_12 rfl rfl ?_
    refine Jo_getI fF_7_9 fI_7_9 dX7_takesPart_13 w_873 (fun x3 => ?_)
    refine Jo_isub dX7_takesPart_16 ?_
    refine Jo_iconst (v := (1 : Int32)) dX7_takesPart_17 (by decide) ?_
    refine Jo_icmp_ne 36 dX7_takesPart_18 (by decide) rfl ?_ ?_
    · refine Jo_aloadn 0 dX7_takesPart_21 rfl rfl ?_
      refine Jo_aloadn 0 dX7_takesPart_22 rfl rfl ?_
      refine Jo_getI fF_7_11 fI_7_11 dX7_takesPart_23 w_872 (fun x4 => ?_)
      refine Jo_callVi (a := a0) (rest := []) [.int x4] cc_7 yF_X7_nameOf yV_X7_nameOf w_900 rfl rfl ⟨Nat.le_of_ble_eq_true rfl, Nat.le_of_ble_eq_true rfl, Nat.le_of_ble_eq_true rfl⟩ dX7_takesPart_26 rfl (K_X7_nameOf E s a0 x4) (fun p5 => ?_)
      refine Jo_if_lt 36 dX7_takesPart_29 (by decide) rfl ?_ ?_
      · exact b_X7_takesPart_36 E p5.2 a0
      · refine Jo_iconst (v := (1 : Int32)) dX7_takesPart_32 (by decide) ?_
        refine Jo_goto 37 dX7_takesPart_33 (by decide) ?_
        exact b_X7_takesPart_37 E p5.2 a0 (1 : Int32)
    · exact b_X7_takesPart_36 E s a0
  · exact b_X7_takesPart_36 E s a0
theorem K_X7_takesPart (E : jE) (s : hS) (a0 : Nat) : jK E yX7_takesPart M_X7_takesPart cvI [.ref a0] s (f_X7_takesPart s a0) := jK_of ⟨by decide, rfl, rfl⟩ (Nat.le_of_ble_eq_true rfl) (b_X7_takesPart_in E s a0)
/-! HeronTalkModel.notsOpen()I -/
abbrev M_X7_notsOpen : jM := (RX7, cX7_notsOpen, 3, (some .int), "notsOpen", 0, 0)
theorem yF_X7_notsOpen : yF yX7_notsOpen M_X7_notsOpen 0 := ⟨w_904, w_624, by decide +kernel⟩
theorem yV_X7_notsOpen : Cond.instanceMethod yX7_notsOpen ∈ tbG ∧ Cond.selects yX7_notsOpen.cls yX7_notsOpen yX7_notsOpen ∈ tbG := ⟨w_905, w_906⟩
theorem dX7_notsOpen_0 : dI cX7_notsOpen 0 1 (.iconst 0) 1 := ⟨by decide +kernel, rfl⟩
theorem dX7_notsOpen_1 : dI cX7_notsOpen 1 2 (.istore_n 1) 1 := ⟨by decide +kernel, rfl⟩
theorem dX7_notsOpen_2 : dI cX7_notsOpen 2 3 (.iconst 0) 1 := ⟨by decide +kernel, rfl⟩
theorem dX7_notsOpen_3 : dI cX7_notsOpen 3 4 (.istore_n 2) 1 := ⟨by decide +kernel, rfl⟩
theorem dX7_notsOpen_4 : dI cX7_notsOpen 4 5 (.iload_n 2) 1 := ⟨by decide +kernel, rfl⟩
theorem dX7_notsOpen_5 : dI cX7_notsOpen 5 6 (.aload_n 0) 1 := ⟨by decide +kernel, rfl⟩
theorem dX7_notsOpen_6 : dI cX7_notsOpen 6 9 (.getfield 241) 3 := ⟨by decide +kernel, rfl⟩
theorem dX7_notsOpen_9 : decode cX7_notsOpen 9 = .ok (.if_icmp .ge 28, 3) := by decide +kernel
theorem dX7_notsOpen_12 : dI cX7_notsOpen 12 13 (.iload_n 1) 1 := ⟨by decide +kernel, rfl⟩
theorem dX7_notsOpen_13 : dI cX7_notsOpen 13 14 (.aload_n 0) 1 := ⟨by decide +kernel, rfl⟩
theorem dX7_notsOpen_14 : dI cX7_notsOpen 14 17 (.getfield 38) 3 := ⟨by decide +kernel, rfl⟩
theorem dX7_notsOpen_17 : dI cX7_notsOpen 17 18 (.iload_n 2) 1 := ⟨by decide +kernel, rfl⟩
theorem dX7_notsOpen_18 : dI cX7_notsOpen 18 19 (.iaload) 1 := ⟨by decide +kernel, rfl⟩
theorem dX7_notsOpen_19 : dI cX7_notsOpen 19 21 (.bipush (-10)) 2 := ⟨by decide +kernel, rfl⟩
theorem dX7_notsOpen_21 : decode cX7_notsOpen 21 = .ok (.if_icmp .ne 7, 3) := by decide +kernel
theorem dX7_notsOpen_24 : dI cX7_notsOpen 24 25 (.iconst 1) 1 := ⟨by decide +kernel, rfl⟩
theorem dX7_notsOpen_25 : decode cX7_notsOpen 25 = .ok (.goto 4, 3) := by decide +kernel
theorem dX7_notsOpen_28 : dI cX7_notsOpen 28 29 (.iconst 0) 1 := ⟨by decide +kernel, rfl⟩
theorem dX7_notsOpen_29 : dI cX7_notsOpen 29 30 (.iadd) 1 := ⟨by decide +kernel, rfl⟩
theorem dX7_notsOpen_30 : dI cX7_notsOpen 30 31 (.istore_n 1) 1 := ⟨by decide +kernel, rfl⟩
theorem dX7_notsOpen_31 : dI cX7_notsOpen 31 34 (.iinc 2 1) 3 := ⟨by decide +kernel, rfl⟩
theorem dX7_notsOpen_34 : decode cX7_notsOpen 34 = .ok (.goto (-30), 3) := by decide +kernel
theorem dX7_notsOpen_37 : dI cX7_notsOpen 37 38 (.iload_n 1) 1 := ⟨by decide +kernel, rfl⟩
theorem dX7_notsOpen_38 : dI cX7_notsOpen 38 39 (.ireturn) 1 := ⟨by decide +kernel, rfl⟩
def f_X7_notsOpen_b29 (k4 : Nat → Int32 → Int32 → hS → Option (Int32 × hS)) (l0 : Nat) (l2 : Int32) (t0 : Int32) (t1 : Int32) (s : hS) : Option (Int32 × hS) :=
  nmv ((t0 + t1)) fun x1 =>
  k4 l0 x1 (l2 + (1 : Int32)) s
theorem b_X7_notsOpen_29 (E : jE) (k4 : Nat → Int32 → Int32 → hS → Option (Int32 × hS)) (h4 : ∀ (s : hS) (l0 : Nat) (l1 : Int32) (l2 : Int32) , Jo E M_X7_notsOpen cvI 4 [(0, .ref l0), (1, .int l1), (2, .int l2)] [] s (k4 l0 l1 l2 s)) (s : hS) (l0 : Nat) (l2 : Int32) (t0 : Int32) (t1 : Int32) : Jo E M_X7_notsOpen cvI 29 [(0, .ref l0), (2, .int l2)] [.int t1, .int t0] s (f_X7_notsOpen_b29 k4 l0 l2 t0 t1 s) := by
  unfold f_X7_notsOpen_b29
  refine Jo_iadd dX7_notsOpen_29 ?_
  refine Jo_nm (fun x1 => ?_)
  refine Jo_istoren (ls' := [(1, .int x1), (0, .ref l0), (2, .int l2)]) dX7_notsOpen_30 rfl (by decide) rfl ?_
  refine Jo_iinc (v := (l2 + (1 : Int32))) (ls' := [(2, .int (l2 + (1 : Int32))), (1, .int x1), (0, .ref l0)]) 2 dX7_notsOpen_31 rfl rfl (by decide) rfl ?_
  refine Jo_goto 4 dX7_notsOpen_34 (by decide) ?_
  refine Jo_sub [2, 1, 0] rfl ?_
  exact h4 s l0 x1 (l2 + (1 : Int32))
def f_X7_notsOpen_b4 (k4 : Nat → Int32 → Int32 → hS → Option (Int32 × hS)) (l0 : Nat) (l1 : Int32) (l2 : Int32) (s : hS) : Option (Int32 × hS) :=
  (gI s l0 7 20).bind fun x1 =>
  if x1 ≤ l2 then
    some (l1, s)
  else
    (gR s l0 7 19).bind fun a2 =>
    (aI s a2 10 l2).bind fun x3 =>
    if x3 = (-10 : Int32) then
      f_X7_notsOpen_b29 k4 l0 l2 l1 (1 : Int32) s
    else
      f_X7_notsOpen_b29 k4 l0 l2 l1 (0 : Int32) s
theorem b_X7_notsOpen_4 (E : jE) (k4 : Nat → Int32 → Int32 → hS → Option (Int32 × hS)) (h4 : ∀ (s : hS) (l0 : Nat) (l1 : Int32) (l2 : Int32) , Jo E M_X7_notsOpen cvI 4 [(0, .ref l0), (1, .int l1), (2, .int l2)] [] s (k4 l0 l1 l2 s)) (s : hS) (l0 : Nat) (l1 : Int32) (l2 : Int32)  : Jo E M_X7_notsOpen cvI 4 [(0, .ref l0), (1, .int l1), (2, .int l2)] [] s (f_X7_notsOpen_b4 k4 l0 l1 l2 s) := by
  unfold f_X7_notsOpen_b4
  refine Jo_iloadn 2 dX7_notsOpen_4 rfl rfl ?_
  refine Jo_aloadn 0 dX7_notsOpen_5 rfl rfl ?_
  refine Jo_getI fF_7_20 fI_7_20 dX7_notsOpen_6 w_890 (fun x1 => ?_)
  refine Jo_icmp_ge 37 dX7_notsOpen_9 (by decide) rfl ?_ ?_
  · refine Jo_iloadn 1 dX7_notsOpen_37 rfl rfl ?_
    exact Jo_iret rfl dX7_notsOpen_38
  · refine Jo_iloadn 1 dX7_notsOpen_12 rfl rfl ?_
    refine Jo_aloadn 0 dX7_notsOpen_13 rfl rfl ?_
    refine Jo_getR fF_7_19 fR_7_19 dX7_notsOpen_14 w_612 (fun a2 => ?_)
    refine Jo_iloadn 2 dX7_notsOpen_17 rfl rfl ?_
    refine Jo_iaload dX7_notsOpen_18 (fun x3 => ?_)
    refine Jo_bipush (v := (-10 : Int32)) dX7_notsOpen_19 (by decide) ?_
    refine Jo_icmp_ne 28 dX7_notsOpen_21 (by decide) rfl ?_ ?_
    · refine Jo_iconst (v := (1 : Int32)) dX7_notsOpen_24 (by decide) ?_
      refine Jo_goto 29 dX7_notsOpen_25 (by decide) ?_
      refine Jo_sub [0, 2] rfl ?_
      exact b_X7_notsOpen_29 E k4 h4 s l0 l2 l1 (1 : Int32)
    · refine Jo_iconst (v := (0 : Int32)) dX7_notsOpen_28 (by decide) ?_
      refine Jo_sub [0, 2] rfl ?_
      exact b_X7_notsOpen_29 E k4 h4 s l0 l2 l1 (0 : Int32)
theorem e_X7_notsOpen_4 (E : jE)  (n : Nat) : ∀ (s : hS) (l0 : Nat) (l1 : Int32) (l2 : Int32) , Jo E M_X7_notsOpen cvI 4 [(0, .ref l0), (1, .int l1), (2, .int l2)] [] s ((jL f_X7_notsOpen_b4 (fun _ _ _ _ => none) n) l0 l1 l2 s) :=
  jL_ind (P := fun f => ∀ (s : hS) (l0 : Nat) (l1 : Int32) (l2 : Int32) , Jo E M_X7_notsOpen cvI 4 [(0, .ref l0), (1, .int l1), (2, .int l2)] [] s (f l0 l1 l2 s)) (fun _ _ _ _ => Jo_none) (fun b hb s l0 l1 l2 => b_X7_notsOpen_4 E  b hb s l0 l1 l2) n
def f_X7_notsOpen (s : hS) (a0 : Nat) : Option (Int32 × hS) :=
  jL f_X7_notsOpen_b4 (fun _ _ _ _ => none) jF a0 (0 : Int32) (0 : Int32) s
theorem b_X7_notsOpen_in (E : jE)  (s : hS) (a0 : Nat)  : Jo E M_X7_notsOpen cvI 0 [(0, .ref a0)] [] s (f_X7_notsOpen s a0) := by
  unfold f_X7_notsOpen
  refine Jo_iconst (v := (0 : Int32)) dX7_notsOpen_0 (by decide) ?_
  refine Jo_istoren (ls' := [(1, .int (0 : Int32)), (0, .ref a0)]) dX7_notsOpen_1 rfl (by decide) rfl ?_
  refine Jo_iconst (v := (0 : Int32)) dX7_notsOpen_2 (by decide) ?_
  refine Jo_istoren (ls' := [(2, .int (0 : Int32)), (1, .int (0 : Int32)), (0, .ref a0)]) dX7_notsOpen_3 rfl (by decide) rfl ?_
  refine Jo_sub [2, 1, 0] rfl ?_
  exact e_X7_notsOpen_4 E jF s a0 (0 : Int32) (0 : Int32)
theorem K_X7_notsOpen (E : jE) (s : hS) (a0 : Nat) : jK E yX7_notsOpen M_X7_notsOpen cvI [.ref a0] s (f_X7_notsOpen s a0) := jK_of ⟨by decide, rfl, rfl⟩ (Nat.le_of_ble_eq_true rfl) (b_X7_notsOpen_in E s a0)
