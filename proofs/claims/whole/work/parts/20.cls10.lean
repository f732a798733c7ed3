/-! HeronTalk.fact(I)I -/
abbrev M_X6_fact : jM := (RX6, cX6_fact, 2, (some .int), "fact", 1, 22)
theorem yF_X6_fact : yF yX6_fact M_X6_fact 1 := ⟨w_370, w_278, by decide +kernel⟩
theorem yV_X6_fact : Cond.instanceMethod yX6_fact ∈ tbG ∧ Cond.selects yX6_fact.cls yX6_fact yX6_fact ∈ tbG := ⟨w_371, w_372⟩
theorem dX6_fact_0 : dI cX6_fact 0 1 (.iload_n 1) 1 := ⟨by decide +kernel, rfl⟩
theorem dX6_fact_1 : dI cX6_fact 1 2 (.iconst 0) 1 := ⟨by decide +kernel, rfl⟩
theorem dX6_fact_2 : dI cX6_fact 2 4 (.bipush 99) 2 := ⟨by decide +kernel, rfl⟩
theorem dX6_fact_4 : decode cX6_fact 4 = .ok (.invokestatic 63, 3) := by decide +kernel
theorem dX6_fact_7 : decode cX6_fact 7 = .ok (.ifCond .eq 6, 3) := by decide +kernel
theorem dX6_fact_10 : dI cX6_fact 10 12 (.ldc 67) 2 := ⟨by decide +kernel, rfl⟩
theorem dX6_fact_12 : dI cX6_fact 12 13 (.ireturn) 1 := ⟨by decide +kernel, rfl⟩
theorem dX6_fact_13 : dI cX6_fact 13 14 (.aload_n 0) 1 := ⟨by decide +kernel, rfl⟩
theorem dX6_fact_14 : dI cX6_fact 14 17 (.getfield 10) 3 := ⟨by decide +kernel, rfl⟩
theorem dX6_fact_17 : dI cX6_fact 17 20 (.getfield 68) 3 := ⟨by decide +kernel, rfl⟩
theorem dX6_fact_20 : dI cX6_fact 20 22 (.bipush 16) 2 := ⟨by decide +kernel, rfl⟩
theorem dX6_fact_22 : decode cX6_fact 22 = .ok (.if_icmp .lt 6, 3) := by decide +kernel
theorem dX6_fact_25 : dI cX6_fact 25 27 (.ldc 71) 2 := ⟨by decide +kernel, rfl⟩
theorem dX6_fact_27 : dI cX6_fact 27 28 (.ireturn) 1 := ⟨by decide +kernel, rfl⟩
theorem dX6_fact_28 : dI cX6_fact 28 29 (.aload_n 0) 1 := ⟨by decide +kernel, rfl⟩
theorem dX6_fact_29 : dI cX6_fact 29 32 (.getfield 10) 3 := ⟨by decide +kernel, rfl⟩
theorem dX6_fact_32 : dI cX6_fact 32 33 (.iload_n 1) 1 := ⟨by decide +kernel, rfl⟩
theorem dX6_fact_33 : decode cX6_fact 33 = .ok (.invokevirtual 72, 3) := by decide +kernel
theorem dX6_fact_36 : dI cX6_fact 36 37 (.ireturn) 1 := ⟨by decide +kernel, rfl⟩
def f_X6_fact (s : hS) (a0 : Nat) (i1 : Int32) : Option (Int32 × hS) :=
  (f_X6_isOutside s i1 (0 : Int32) (99 : Int32)).bind fun p1 =>
  if p1.1 = 0 then
    (gR p1.2 a0 6 0).bind fun a2 =>
    (gI p1.2 a2 5 0).bind fun x3 =>
    if x3 < (16 : Int32) then
      (gR p1.2 a0 6 0).bind fun a4 =>
      (cV p1.2 a4 5 (f_X5_addFact p1.2 a4 i1)).bind fun p5 =>
      some (p5.1, p5.2)
    else
      some ((-1000000003 : Int32), p1.2)
  else
    some ((-1000000001 : Int32), p1.2)
theorem b_X6_fact_in (E : jE)  (s : hS) (a0 : Nat) (i1 : Int32)  : Jo E M_X6_fact cvI 0 [(0, .ref a0), (1, .int i1)] [] s (f_X6_fact s a0 i1) := by
  unfold f_X6_fact
  refine Jo_iloadn 1 dX6_fact_0 rfl rfl ?_
  refine Jo_iconst (v := (0 : Int32)) dX6_fact_1 (by decide) ?_
  refine Jo_bipush (v := (99 : Int32)) dX6_fact_2 (by decide) ?_
  refine Jo_callSi (rest := []) [.int i1, .int (0 : Int32), .int (99 : Int32)] yF_X6_isOutside yS_X6_isOutside w_369 rfl rfl ⟨Nat.le_of_ble_eq_true rfl, Nat.le_of_ble_eq_true rfl, Nat.le_of_ble_eq_true rfl⟩ dX6_fact_4 rfl (K_X6_isOutside E s i1 (0 : Int32) (99 : Int32)) (fun p1 => ?_)
  refine Jo_if_eq 13 dX6_fact_7 (by decide) rfl ?_ ?_
  · refine Jo_aloadn 0 dX6_fact_13 rfl rfl ?_
    refine Jo_getR fF_6_0 fR_6_0 dX6_fact_14 w_359 (fun a2 => ?_)
    refine Jo_getI fF_5_0 fI_5_0 dX6_fact_17 w_367 (fun x3 => ?_)
    refine Jo_bipush (v := (16 : Int32)) dX6_fact_20 (by decide) ?_
    refine Jo_icmp_lt 28 dX6_fact_22 (by decide) rfl ?_ ?_
    · refine Jo_aloadn 0 dX6_fact_28 rfl rfl ?_
      refine Jo_getR fF_6_0 fR_6_0 dX6_fact_29 w_359 (fun a4 => ?_)
      refine Jo_iloadn 1 dX6_fact_32 rfl rfl ?_
      refine Jo_callVi (a := a4) (rest := []) [.int i1] cc_5 yF_X5_addFact yV_X5_addFact w_365 rfl rfl ⟨Nat.le_of_ble_eq_true rfl, Nat.le_of_ble_eq_true rfl, Nat.le_of_ble_eq_true rfl⟩ dX6_fact_33 rfl (K_X5_addFact E p1.2 a4 i1) (fun p5 => ?_)
      exact Jo_iret rfl dX6_fact_36
    · refine Jo_ldc dX6_fact_25 w_366 ?_
      exact Jo_iret rfl dX6_fact_27
  · refine Jo_ldc dX6_fact_10 w_368 ?_
    exact Jo_iret rfl dX6_fact_12
theorem K_X6_fact (E : jE) (s : hS) (a0 : Nat) (i1 : Int32) : jK E yX6_fact M_X6_fact cvI [.ref a0, .int i1] s (f_X6_fact s a0 i1) := jK_of ⟨by decide, rfl, rfl⟩ (Nat.le_of_ble_eq_true rfl) (b_X6_fact_in E s a0 i1)
/-! HeronTalk.isNoFact(I)Z -/
abbrev M_X6_isNoFact : jM := (RX6, cX6_isNoFact, 2, (some .boolean), "isNoFact", 0, 0)
theorem yF_X6_isNoFact : yF yX6_isNoFact M_X6_isNoFact 1 := ⟨w_373, w_278, by decide +kernel⟩
theorem yV_X6_isNoFact : Cond.instanceMethod yX6_isNoFact ∈ tbG ∧ Cond.selects yX6_isNoFact.cls yX6_isNoFact yX6_isNoFact ∈ tbG := ⟨w_374, w_375⟩
theorem dX6_isNoFact_0 : dI cX6_isNoFact 0 1 (.iload_n 1) 1 := ⟨by decide +kernel, rfl⟩
theorem dX6_isNoFact_1 : decode cX6_isNoFact 1 = .ok (.ifCond .lt 14, 3) := by decide +kernel
theorem dX6_isNoFact_4 : dI cX6_isNoFact 4 5 (.iload_n 1) 1 := ⟨by decide +kernel, rfl⟩
theorem dX6_isNoFact_5 : dI cX6_isNoFact 5 6 (.aload_n 0) 1 := ⟨by decide +kernel, rfl⟩
theorem dX6_isNoFact_6 : dI cX6_isNoFact 6 9 (.getfield 10) 3 := ⟨by decide +kernel, rfl⟩
theorem dX6_isNoFact_9 : dI cX6_isNoFact 9 12 (.getfield 68) 3 := ⟨by decide +kernel, rfl⟩
theorem dX6_isNoFact_12 : decode cX6_isNoFact 12 = .ok (.if_icmp .lt 7, 3) := by decide +kernel
theorem dX6_isNoFact_15 : dI cX6_isNoFact 15 16 (.iconst 1) 1 := ⟨by decide +kernel, rfl⟩
theorem dX6_isNoFact_16 : decode cX6_isNoFact 16 = .ok (.goto 4, 3) := by decide +kernel
theorem dX6_isNoFact_19 : dI cX6_isNoFact 19 20 (.iconst 0) 1 := ⟨by decide +kernel, rfl⟩
theorem dX6_isNoFact_20 : dI cX6_isNoFact 20 21 (.ireturn) 1 := ⟨by decide +kernel, rfl⟩
def f_X6_isNoFact_b15 (s : hS) : Option (Int32 × hS) :=
  some ((1 : Int32), s)
theorem b_X6_isNoFact_15 (E : jE)  (s : hS)   : Jo E M_X6_isNoFact cvI 15 [] [] s (f_X6_isNoFact_b15   s) := by
  unfold f_X6_isNoFact_b15
  refine Jo_iconst (v := (1 : Int32)) dX6_isNoFact_15 (by decide) ?_
  refine Jo_goto 20 dX6_isNoFact_16 (by decide) ?_
  exact Jo_zret1 rfl dX6_isNoFact_20
def f_X6_isNoFact (s : hS) (a0 : Nat) (i1 : Int32) : Option (Int32 × hS) :=
  if i1 < 0 then
    f_X6_isNoFact_b15  s
  else
    (gR s a0 6 0).bind fun a1 =>
    (gI s a1 5 0).bind fun x2 =>
    if i1 < x2 then
      some ((0 : Int32), s)
    else
      f_X6_isNoFact_b15  s
theorem b_X6_isNoFact_in (E : jE)  (s : hS) (a0 : Nat) (i1 : Int32)  : Jo E M_X6_isNoFact cvI 0 [(0, .ref a0), (1, .int i1)] [] s (f_X6_isNoFact s a0 i1) := by
  unfold f_X6_isNoFact
  refine Jo_iloadn 1 dX6_isNoFact_0 rfl rfl ?_
  refine Jo_if_lt 15 dX6_isNoFact_1 (by decide) rfl ?_ ?_
  · refine Jo_sub [] rfl ?_
    exact b_X6_isNoFact_15 E s 
  · refine Jo_iloadn 1 dX6_isNoFact_4 rfl rfl ?_
    refine Jo_aloadn 0 dX6_isNoFact_5 rfl rfl ?_
    refine Jo_getR fF_6_0 fR_6_0 dX6_isNoFact_6 w_359 (fun a1 => ?_)
    refine Jo_getI fF_5_0 fI_5_0 dX6_isNoFact_9 w_367 (fun x2 => ?_)
    refine Jo_icmp_lt 19 dX6_isNoFact_12 (by decide) rfl ?_ ?_
    · refine Jo_iconst (v := (0 : Int32)) dX6_isNoFact_19 (by decide) ?_
      exact Jo_zret0 rfl dX6_isNoFact_20
    · refine Jo_sub [] rfl ?_
      exact b_X6_isNoFact_15 E s 
theorem K_X6_isNoFact (E : jE) (s : hS) (a0 : Nat) (i1 : Int32) : jK E yX6_isNoFact M_X6_isNoFact cvI [.ref a0, .int i1] s (f_X6_isNoFact s a0 i1) := jK_of ⟨by decide, rfl, rfl⟩ (Nat.le_of_ble_eq_true rfl) (b_X6_isNoFact_in E s a0 i1)
/-! HeronTalk.factTold(II)I -/
abbrev M_X6_factTold : jM := (RX6, cX6_factTold, 3, (some .int), "factTold", 2, 45)
theorem yF_X6_factTold : yF yX6_factTold M_X6_factTold 2 := ⟨w_381, w_278, by decide +kernel⟩
theorem yV_X6_factTold : Cond.instanceMethod yX6_factTold ∈ tbG ∧ Cond.selects yX6_factTold.cls yX6_factTold yX6_factTold ∈ tbG := ⟨w_382, w_383⟩
theorem dX6_factTold_0 : dI cX6_factTold 0 1 (.aload_n 0) 1 := ⟨by decide +kernel, rfl⟩
theorem dX6_factTold_1 : dI cX6_factTold 1 2 (.iload_n 1) 1 := ⟨by decide +kernel, rfl⟩
theorem dX6_factTold_2 : decode cX6_factTold 2 = .ok (.invokevirtual 76, 3) := by decide +kernel
theorem dX6_factTold_5 : decode cX6_factTold 5 = .ok (.ifCond .eq 6, 3) := by decide +kernel
theorem dX6_factTold_8 : dI cX6_factTold 8 10 (.ldc 67) 2 := ⟨by decide +kernel, rfl⟩
theorem dX6_factTold_10 : dI cX6_factTold 10 11 (.ireturn) 1 := ⟨by decide +kernel, rfl⟩
theorem dX6_factTold_11 : dI cX6_factTold 11 12 (.iload_n 2) 1 := ⟨by decide +kernel, rfl⟩
theorem dX6_factTold_12 : decode cX6_factTold 12 = .ok (.tableswitch 78 0 3 #[32, 42, 52, 69], 32) := by decide +kernel
theorem dX6_factTold_44 : dI cX6_factTold 44 45 (.aload_n 0) 1 := ⟨by decide +kernel, rfl⟩
theorem dX6_factTold_45 : dI cX6_factTold 45 48 (.getfield 10) 3 := ⟨by decide +kernel, rfl⟩
theorem dX6_factTold_48 : dI cX6_factTold 48 51 (.getfield 80) 3 := ⟨by decide +kernel, rfl⟩
theorem dX6_factTold_51 : dI cX6_factTold 51 52 (.iload_n 1) 1 := ⟨by decide +kernel, rfl⟩
theorem dX6_factTold_52 : dI cX6_factTold 52 53 (.iaload) 1 := ⟨by decide +kernel, rfl⟩
theorem dX6_factTold_53 : dI cX6_factTold 53 54 (.ireturn) 1 := ⟨by decide +kernel, rfl⟩
theorem dX6_factTold_54 : dI cX6_factTold 54 55 (.aload_n 0) 1 := ⟨by decide +kernel, rfl⟩
theorem dX6_factTold_55 : dI cX6_factTold 55 58 (.getfield 10) 3 := ⟨by decide +kernel, rfl⟩
theorem dX6_factTold_58 : dI cX6_factTold 58 61 (.getfield 83) 3 := ⟨by decide +kernel, rfl⟩
theorem dX6_factTold_61 : dI cX6_factTold 61 62 (.iload_n 1) 1 := ⟨by decide +kernel, rfl⟩
theorem dX6_factTold_62 : dI cX6_factTold 62 63 (.iaload) 1 := ⟨by decide +kernel, rfl⟩
theorem dX6_factTold_63 : dI cX6_factTold 63 64 (.ireturn) 1 := ⟨by decide +kernel, rfl⟩
theorem dX6_factTold_64 : dI cX6_factTold 64 65 (.aload_n 0) 1 := ⟨by decide +kernel, rfl⟩
theorem dX6_factTold_65 : dI cX6_factTold 65 68 (.getfield 10) 3 := ⟨by decide +kernel, rfl⟩
theorem dX6_factTold_68 : dI cX6_factTold 68 69 (.iload_n 1) 1 := ⟨by decide +kernel, rfl⟩
theorem dX6_factTold_69 : decode cX6_factTold 69 = .ok (.invokevirtual 86, 3) := by decide +kernel
theorem dX6_factTold_72 : decode cX6_factTold 72 = .ok (.ifCond .eq 7, 3) := by decide +kernel
theorem dX6_factTold_75 : dI cX6_factTold 75 76 (.iconst 1) 1 := ⟨by decide +kernel, rfl⟩
theorem dX6_factTold_76 : decode cX6_factTold 76 = .ok (.goto 4, 3) := by decide +kernel
theorem dX6_factTold_79 : dI cX6_factTold 79 80 (.iconst 0) 1 := ⟨by decide +kernel, rfl⟩
theorem dX6_factTold_80 : dI cX6_factTold 80 81 (.ireturn) 1 := ⟨by decide +kernel, rfl⟩
theorem dX6_factTold_81 : dI cX6_factTold 81 82 (.aload_n 0) 1 := ⟨by decide +kernel, rfl⟩
theorem dX6_factTold_82 : dI cX6_factTold 82 85 (.getfield 10) 3 := ⟨by decide +kernel, rfl⟩
theorem dX6_factTold_85 : dI cX6_factTold 85 86 (.iload_n 1) 1 := ⟨by decide +kernel, rfl⟩
theorem dX6_factTold_86 : decode cX6_factTold 86 = .ok (.invokevirtual 89, 3) := by decide +kernel
theorem dX6_factTold_89 : dI cX6_factTold 89 90 (.ireturn) 1 := ⟨by decide +kernel, rfl⟩
theorem dX6_factTold_90 : dI cX6_factTold 90 92 (.ldc 67) 2 := ⟨by decide +kernel, rfl⟩
theorem dX6_factTold_92 : dI cX6_factTold 92 93 (.ireturn) 1 := ⟨by decide +kernel, rfl⟩
def f_X6_factTold (s : hS) (a0 : Nat) (i1 : Int32) (i2 : Int32) : Option (Int32 × hS) :=
  (cV s a0 6 (f_X6_isNoFact s a0 i1)).bind fun p1 =>
  if p1.1 = 0 then
    if i2 = (0 : Int32) then
      (gR p1.2 a0 6 0).bind fun a3 =>
      (gR p1.2 a3 5 8).bind fun a4 =>
      (aI p1.2 a4 10 i1).bind fun x5 =>
      some (x5, p1.2)
    else
    if i2 = (1 : Int32) then
      (gR p1.2 a0 6 0).bind fun a7 =>
      (gR p1.2 a7 5 9).bind fun a8 =>
      (aI p1.2 a8 10 i1).bind fun x9 =>
      some (x9, p1.2)
    else
    if i2 = (2 : Int32) then
      (gR p1.2 a0 6 0).bind fun a11 =>
      (cV p1.2 a11 5 (f_X5_isFresh p1.2 a11 i1)).bind fun p12 =>
      if p12.1 = 0 then
        some ((0 : Int32), p12.2)
      else
        some ((1 : Int32), p12.2)
    else
    if i2 = (3 : Int32) then
      (gR p1.2 a0 6 0).bind fun a14 =>
      (cV p1.2 a14 5 (f_X5_knowersOf p1.2 a14 i1)).bind fun p15 =>
      some (p15.1, p15.2)
    else
    some ((-1000000001 : Int32), p1.2)
  else
    some ((-1000000001 : Int32), p1.2)
theorem b_X6_factTold_in (E : jE)  (s : hS) (a0 : Nat) (i1 : Int32) (i2 : Int32)  : Jo E M_X6_factTold cvI 0 [(0, .ref a0), (1, .int i1), (2, .int i2)] [] s (f_X6_factTold s a0 i1 i2) := by
  unfold f_X6_factTold
  refine Jo_aloadn 0 dX6_factTold_0 rfl rfl ?_
  refine Jo_iloadn 1 dX6_factTold_1 rfl rfl ?_
  refine Jo_callVi (a := a0) (rest := []) [.int i1] cc_6 yF_X6_isNoFact yV_X6_isNoFact w_380 rfl rfl ⟨Nat.le_of_ble_eq_true rfl, Nat.le_of_ble_eq_true rfl, Nat.le_of_ble_eq_true rfl⟩ dX6_factTold_2 rfl (K_X6_isNoFact E s a0 i1) (fun p1 => ?_)
  refine Jo_if_eq 11 dX6_factTold_5 (by decide) rfl ?_ ?_
  · refine Jo_iloadn 2 dX6_factTold_11 rfl rfl ?_
    refine Jo_case ?_ (fun g2 => ?_)
    · refine Jo_tabIn (off := 32) 44 dX6_factTold_12 (by decide) (by decide) (by decide) (by decide) ?_
      refine Jo_aloadn 0 dX6_factTold_44 rfl rfl ?_
      refine Jo_getR fF_6_0 fR_6_0 dX6_factTold_45 w_359 (fun a3 => ?_)
      refine Jo_getR fF_5_8 fR_5_8 dX6_factTold_48 w_376 (fun a4 => ?_)
      refine Jo_iloadn 1 dX6_factTold_51 rfl rfl ?_
      refine Jo_iaload dX6_factTold_52 (fun x5 => ?_)
      exact Jo_iret rfl dX6_factTold_53
    refine Jo_case ?_ (fun g6 => ?_)
    · refine Jo_tabIn (off := 42) 54 dX6_factTold_12 (by decide) (by decide) (by decide) (by decide) ?_
      refine Jo_aloadn 0 dX6_factTold_54 rfl rfl ?_
      refine Jo_getR fF_6_0 fR_6_0 dX6_factTold_55 w_359 (fun a7 => ?_)
      refine Jo_getR fF_5_9 fR_5_9 dX6_factTold_58 w_377 (fun a8 => ?_)
      refine Jo_iloadn 1 dX6_factTold_61 rfl rfl ?_
      refine Jo_iaload dX6_factTold_62 (fun x9 => ?_)
      exact Jo_iret rfl dX6_factTold_63
    refine Jo_case ?_ (fun g10 => ?_)
    · refine Jo_tabIn (off := 52) 64 dX6_factTold_12 (by decide) (by decide) (by decide) (by decide) ?_
      refine Jo_aloadn 0 dX6_factTold_64 rfl rfl ?_
      refine Jo_getR fF_6_0 fR_6_0 dX6_factTold_65 w_359 (fun a11 => ?_)
      refine Jo_iloadn 1 dX6_factTold_68 rfl rfl ?_
      refine Jo_callVi (a := a11) (rest := []) [.int i1] cc_5 yF_X5_isFresh yV_X5_isFresh w_378 rfl rfl ⟨Nat.le_of_ble_eq_true rfl, Nat.le_of_ble_eq_true rfl, Nat.le_of_ble_eq_true rfl⟩ dX6_factTold_69 rfl (K_X5_isFresh E p1.2 a11 i1) (fun p12 => ?_)
      refine Jo_if_eq 79 dX6_factTold_72 (by decide) rfl ?_ ?_
      · refine Jo_iconst (v := (0 : Int32)) dX6_factTold_79 (by decide) ?_
        exact Jo_iret rfl dX6_factTold_80
      · refine Jo_iconst (v := (1 : Int32)) dX6_factTold_75 (by decide) ?_
        refine Jo_goto 80 dX6_factTold_76 (by decide) ?_
        exact Jo_iret rfl dX6_factTold_80
    refine Jo_case ?_ (fun g13 => ?_)
    · refine Jo_tabIn (off := 69) 81 dX6_factTold_12 (by decide) (by decide) (by decide) (by decide) ?_
      refine Jo_aloadn 0 dX6_factTold_81 rfl rfl ?_
      refine Jo_getR fF_6_0 fR_6_0 dX6_factTold_82 w_359 (fun a14 => ?_)
      refine Jo_iloadn 1 dX6_factTold_85 rfl rfl ?_
      refine Jo_callVi (a := a14) (rest := []) [.int i1] cc_5 yF_X5_knowersOf yV_X5_knowersOf w_379 rfl rfl ⟨Nat.le_of_ble_eq_true rfl, Nat.le_of_ble_eq_true rfl, Nat.le_of_ble_eq_true rfl⟩ dX6_factTold_86 rfl (K_X5_knowersOf E p1.2 a14 i1) (fun p15 => ?_)
      exact Jo_iret rfl dX6_factTold_89
    refine Jo_tabOut 90 dX6_factTold_12 (by have qg2 := i32ne 0 (by decide) g2; have qg6 := i32ne 1 (by decide) g6; have qg10 := i32ne 2 (by decide) g10; have qg13 := i32ne 3 (by decide) g13; omega) (by decide) ?_
    refine Jo_ldc dX6_factTold_90 w_368 ?_
    exact Jo_iret rfl dX6_factTold_92
  · refine Jo_ldc dX6_factTold_8 w_368 ?_
    exact Jo_iret rfl dX6_factTold_10
theorem K_X6_factTold (E : jE) (s : hS) (a0 : Nat) (i1 : Int32) (i2 : Int32) : jK E yX6_factTold M_X6_factTold cvI [.ref a0, .int i1, .int i2] s (f_X6_factTold s a0 i1 i2) := jK_of ⟨by decide, rfl, rfl⟩ (Nat.le_of_ble_eq_true rfl) (b_X6_factTold_in E s a0 i1 i2)
/-! HeronTalk.set(III)I -/
abbrev M_X6_set : jM := (RX6, cX6_set, 5, (some .int), "set", 1, 22)
theorem yF_X6_set : yF yX6_set M_X6_set 3 := ⟨w_384, w_278, by decide +kernel⟩
theorem yV_X6_set : Cond.instanceMethod yX6_set ∈ tbG ∧ Cond.selects yX6_set.cls yX6_set yX6_set ∈ tbG := ⟨w_385, w_386⟩
theorem dX6_set_0 : dI cX6_set 0 1 (.aload_n 0) 1 := ⟨by decide +kernel, rfl⟩
theorem dX6_set_1 : dI cX6_set 1 2 (.iload_n 1) 1 := ⟨by decide +kernel, rfl⟩
theorem dX6_set_2 : decode cX6_set 2 = .ok (.invokevirtual 76, 3) := by decide +kernel
theorem dX6_set_5 : decode cX6_set 5 = .ok (.ifCond .eq 6, 3) := by decide +kernel
theorem dX6_set_8 : dI cX6_set 8 10 (.ldc 67) 2 := ⟨by decide +kernel, rfl⟩
theorem dX6_set_10 : dI cX6_set 10 11 (.ireturn) 1 := ⟨by decide +kernel, rfl⟩
theorem dX6_set_11 : dI cX6_set 11 12 (.iload_n 2) 1 := ⟨by decide +kernel, rfl⟩
theorem dX6_set_12 : decode cX6_set 12 = .ok (.ifCond .ne 37, 3) := by decide +kernel
theorem dX6_set_15 : dI cX6_set 15 16 (.iload_n 3) 1 := ⟨by decide +kernel, rfl⟩
theorem dX6_set_16 : dI cX6_set 16 17 (.iconst 0) 1 := ⟨by decide +kernel, rfl⟩
theorem dX6_set_17 : dI cX6_set 17 19 (.bipush 99) 2 := ⟨by decide +kernel, rfl⟩
theorem dX6_set_19 : decode cX6_set 19 = .ok (.invokestatic 63, 3) := by decide +kernel
theorem dX6_set_22 : decode cX6_set 22 = .ok (.ifCond .ne 27, 3) := by decide +kernel
theorem dX6_set_25 : dI cX6_set 25 26 (.aload_n 0) 1 := ⟨by decide +kernel, rfl⟩
theorem dX6_set_26 : dI cX6_set 26 29 (.getfield 10) 3 := ⟨by decide +kernel, rfl⟩
theorem dX6_set_29 : dI cX6_set 29 32 (.getfield 80) 3 := ⟨by decide +kernel, rfl⟩
theorem dX6_set_32 : dI cX6_set 32 33 (.iload_n 1) 1 := ⟨by decide +kernel, rfl⟩
theorem dX6_set_33 : dI cX6_set 33 34 (.iaload) 1 := ⟨by decide +kernel, rfl⟩
theorem dX6_set_34 : dI cX6_set 34 36 (.istore 4) 2 := ⟨by decide +kernel, rfl⟩
theorem dX6_set_36 : dI cX6_set 36 37 (.aload_n 0) 1 := ⟨by decide +kernel, rfl⟩
theorem dX6_set_37 : dI cX6_set 37 40 (.getfield 10) 3 := ⟨by decide +kernel, rfl⟩
theorem dX6_set_40 : dI cX6_set 40 43 (.getfield 80) 3 := ⟨by decide +kernel, rfl⟩
theorem dX6_set_43 : dI cX6_set 43 44 (.iload_n 1) 1 := ⟨by decide +kernel, rfl⟩
theorem dX6_set_44 : dI cX6_set 44 45 (.iload_n 3) 1 := ⟨by decide +kernel, rfl⟩
theorem dX6_set_45 : dI cX6_set 45 46 (.iastore) 1 := ⟨by decide +kernel, rfl⟩
theorem dX6_set_46 : dI cX6_set 46 48 (.iload 4) 2 := ⟨by decide +kernel, rfl⟩
theorem dX6_set_48 : dI cX6_set 48 49 (.ireturn) 1 := ⟨by decide +kernel, rfl⟩
theorem dX6_set_49 : dI cX6_set 49 50 (.iload_n 2) 1 := ⟨by decide +kernel, rfl⟩
theorem dX6_set_50 : dI cX6_set 50 51 (.iconst 1) 1 := ⟨by decide +kernel, rfl⟩
theorem dX6_set_51 : decode cX6_set 51 = .ok (.if_icmp .ne 38, 3) := by decide +kernel
theorem dX6_set_54 : dI cX6_set 54 55 (.iload_n 3) 1 := ⟨by decide +kernel, rfl⟩
theorem dX6_set_55 : dI cX6_set 55 56 (.iconst 0) 1 := ⟨by decide +kernel, rfl⟩
theorem dX6_set_56 : dI cX6_set 56 59 (.sipush 999) 3 := ⟨by decide +kernel, rfl⟩
theorem dX6_set_59 : decode cX6_set 59 = .ok (.invokestatic 63, 3) := by decide +kernel
theorem dX6_set_62 : decode cX6_set 62 = .ok (.ifCond .ne 27, 3) := by decide +kernel
theorem dX6_set_65 : dI cX6_set 65 66 (.aload_n 0) 1 := ⟨by decide +kernel, rfl⟩
theorem dX6_set_66 : dI cX6_set 66 69 (.getfield 10) 3 := ⟨by decide +kernel, rfl⟩
theorem dX6_set_69 : dI cX6_set 69 72 (.getfield 83) 3 := ⟨by decide +kernel, rfl⟩
theorem dX6_set_72 : dI cX6_set 72 73 (.iload_n 1) 1 := ⟨by decide +kernel, rfl⟩
theorem dX6_set_73 : dI cX6_set 73 74 (.iaload) 1 := ⟨by decide +kernel, rfl⟩
theorem dX6_set_74 : dI cX6_set 74 76 (.istore 4) 2 := ⟨by decide +kernel, rfl⟩
theorem dX6_set_76 : dI cX6_set 76 77 (.aload_n 0) 1 := ⟨by decide +kernel, rfl⟩
theorem dX6_set_77 : dI cX6_set 77 80 (.getfield 10) 3 := ⟨by decide +kernel, rfl⟩
theorem dX6_set_80 : dI cX6_set 80 83 (.getfield 83) 3 := ⟨by decide +kernel, rfl⟩
theorem dX6_set_83 : dI cX6_set 83 84 (.iload_n 1) 1 := ⟨by decide +kernel, rfl⟩
theorem dX6_set_84 : dI cX6_set 84 85 (.iload_n 3) 1 := ⟨by decide +kernel, rfl⟩
theorem dX6_set_85 : dI cX6_set 85 86 (.iastore) 1 := ⟨by decide +kernel, rfl⟩
theorem dX6_set_86 : dI cX6_set 86 88 (.iload 4) 2 := ⟨by decide +kernel, rfl⟩
theorem dX6_set_88 : dI cX6_set 88 89 (.ireturn) 1 := ⟨by decide +kernel, rfl⟩
theorem dX6_set_89 : dI cX6_set 89 91 (.ldc 67) 2 := ⟨by decide +kernel, rfl⟩
theorem dX6_set_91 : dI cX6_set 91 92 (.ireturn) 1 := ⟨by decide +kernel, rfl⟩
def f_X6_set_b49 (l0 : Nat) (l1 : Int32) (l2 : Int32) (l3 : Int32) (s : hS) : Option (Int32 × hS) :=
  if l2 = (1 : Int32) then
    (f_X6_isOutside s l3 (0 : Int32) (999 : Int32)).bind fun p1 =>
    if p1.1 = 0 then
      (gR p1.2 l0 6 0).bind fun a2 =>
      (gR p1.2 a2 5 9).bind fun a3 =>
      (aI p1.2 a3 10 l1).bind fun x4 =>
      (gR p1.2 l0 6 0).bind fun a5 =>
      (gR p1.2 a5 5 9).bind fun a6 =>
      (sI p1.2 a6 10 l1 l3).bind fun s7 =>
      some (x4, s7)
    else
      some ((-1000000001 : Int32), p1.2)
  else
    some ((-1000000001 : Int32), s)
theorem b_X6_set_49 (E : jE)  (s : hS) (l0 : Nat) (l1 : Int32) (l2 : Int32) (l3 : Int32)  : Jo E M_X6_set cvI 49 [(0, .ref l0), (1, .int l1), (2, .int l2), (3, .int l3)] [] s (f_X6_set_b49  l0 l1 l2 l3 s) := by
  unfold f_X6_set_b49
  refine Jo_iloadn 2 dX6_set_49 rfl rfl ?_
  refine Jo_iconst (v := (1 : Int32)) dX6_set_50 (by decide) ?_
  refine Jo_icmp_ne 89 dX6_set_51 (by decide) rfl ?_ ?_
  · refine Jo_iloadn 3 dX6_set_54 rfl rfl ?_
    refine Jo_iconst (v := (0 : Int32)) dX6_set_55 (by decide) ?_
    refine Jo_sipush (v := (999 : Int32)) dX6_set_56 (by decide) ?_
    refine Jo_callSi (rest := []) [.int l3, .int (0 : Int32), .int (999 : Int32)] yF_X6_isOutside yS_X6_isOutside w_369 rfl rfl ⟨Nat.le_of_ble_eq_true rfl, Nat.le_of_ble_eq_true rfl, Nat.le_of_ble_eq_true rfl⟩ dX6_set_59 rfl (K_X6_isOutside E s l3 (0 : Int32) (999 : Int32)) (fun p1 => ?_)
    refine Jo_if_ne 89 dX6_set_62 (by decide) rfl ?_ ?_
    · refine Jo_aloadn 0 dX6_set_65 rfl rfl ?_
      refine Jo_getR fF_6_0 fR_6_0 dX6_set_66 w_359 (fun a2 => ?_)
      refine Jo_getR fF_5_9 fR_5_9 dX6_set_69 w_377 (fun a3 => ?_)
      refine Jo_iloadn 1 dX6_set_72 rfl rfl ?_
      refine Jo_iaload dX6_set_73 (fun x4 => ?_)
      refine Jo_istore (ls' := [(4, .int x4), (0, .ref l0), (1, .int l1), (2, .int l2), (3, .int l3)]) dX6_set_74 (by decide) rfl ?_
      refine Jo_aloadn 1 dX6_set_76 rfl rfl ?_
      refine Jo_getR fF_6_0 fR_6_0 dX6_set_77 w_359 (fun a5 => ?_)
      refine Jo_getR fF_5_9 fR_5_9 dX6_set_80 w_377 (fun a6 => ?_)
      refine Jo_iloadn 2 dX6_set_83 rfl rfl ?_
      refine Jo_iloadn 4 dX6_set_84 rfl rfl ?_
      refine Jo_iastore dX6_set_85 (fun s7 => ?_)
      refine Jo_iload 0 dX6_set_86 rfl ?_
      exact Jo_iret rfl dX6_set_88
    · refine Jo_ldc dX6_set_89 w_368 ?_
      exact Jo_iret rfl dX6_set_91
  · refine Jo_ldc dX6_set_89 w_368 ?_
    exact Jo_iret rfl dX6_set_91
def f_X6_set (s : hS) (a0 : Nat) (i1 : Int32) (i2 : Int32) (i3 : Int32) : Option (Int32 × hS) :=
  (cV s a0 6 (f_X6_isNoFact s a0 i1)).bind fun p1 =>
  if p1.1 = 0 then
    if i2 = 0 then
      (f_X6_isOutside p1.2 i3 (0 : Int32) (99 : Int32)).bind fun p2 =>
      if p2.1 = 0 then
        (gR p2.2 a0 6 0).bind fun a3 =>
        (gR p2.2 a3 5 8).bind fun a4 =>
        (aI p2.2 a4 10 i1).bind fun x5 =>
        (gR p2.2 a0 6 0).bind fun a6 =>
        (gR p2.2 a6 5 8).bind fun a7 =>
        (sI p2.2 a7 10 i1 i3).bind fun s8 =>
        some (x5, s8)
      else
        f_X6_set_b49 a0 i1 i2 i3 p2.2
    else
      f_X6_set_b49 a0 i1 i2 i3 p1.2
  else
    some ((-1000000001 : Int32), p1.2)
theorem b_X6_set_in (E : jE)  (s : hS) (a0 : Nat) (i1 : Int32) (i2 : Int32) (i3 : Int32)  : Jo E M_X6_set cvI 0 [(0, .ref a0), (1, .int i1), (2, .int i2), (3, .int i3)] [] s (f_X6_set s a0 i1 i2 i3) := by
  unfold f_X6_set
  refine Jo_aloadn 0 dX6_set_0 rfl rfl ?_
  refine Jo_iloadn 1 dX6_set_1 rfl rfl ?_
  refine Jo_callVi (a := a0) (rest := []) [.int i1] cc_6 yF_X6_isNoFact yV_X6_isNoFact w_380 rfl rfl ⟨Nat.le_of_ble_eq_true rfl, Nat.le_of_ble_eq_true rfl, Nat.le_of_ble_eq_true rfl⟩ dX6_set_2 rfl (K_X6_isNoFact E s a0 i1) (fun p1 => ?_)
  refine Jo_if_eq 11 dX6_set_5 (by decide) rfl ?_ ?_
  · refine Jo_iloadn 2 dX6_set_11 rfl rfl ?_
    refine Jo_if_ne 49 dX6_set_12 (by decide) rfl ?_ ?_
    · refine Jo_iloadn 3 dX6_set_15 rfl rfl ?_
      refine Jo_iconst (v := (0 : Int32)) dX6_set_16 (by decide) ?_
      refine Jo_bipush (v := (99 : Int32)) dX6_set_17 (by decide) ?_
      refine Jo_callSi (rest := []) [.int i3, .int (0 : Int32), .int (99 : Int32)] yF_X6_isOutside yS_X6_isOutside w_369 rfl rfl ⟨Nat.le_of_ble_eq_true rfl, Nat.le_of_ble_eq_true rfl, Nat.le_of_ble_eq_true rfl⟩ dX6_set_19 rfl (K_X6_isOutside E p1.2 i3 (0 : Int32) (99 : Int32)) (fun p2 => ?_)
      refine Jo_if_ne 49 dX6_set_22 (by decide) rfl ?_ ?_
      · refine Jo_aloadn 0 dX6_set_25 rfl rfl ?_
        refine Jo_getR fF_6_0 fR_6_0 dX6_set_26 w_359 (fun a3 => ?_)
        refine Jo_getR fF_5_8 fR_5_8 dX6_set_29 w_376 (fun a4 => ?_)
        refine Jo_iloadn 1 dX6_set_32 rfl rfl ?_
        refine Jo_iaload dX6_set_33 (fun x5 => ?_)
        refine Jo_istore (ls' := [(4, .int x5), (0, .ref a0), (1, .int i1), (2, .int i2), (3, .int i3)]) dX6_set_34 (by decide) rfl ?_
        refine Jo_aloadn 1 dX6_set_36 rfl rfl ?_
        refine Jo_getR fF_6_0 fR_6_0 dX6_set_37 w_359 (fun a6 => ?_)
        refine Jo_getR fF_5_8 fR_5_8 dX6_set_40 w_376 (fun a7 => ?_)
        refine Jo_iloadn 2 dX6_set_43 rfl rfl ?_
        refine Jo_iloadn 4 dX6_set_44 rfl rfl ?_
        refine Jo_iastore dX6_set_45 (fun s8 => ?_)
        refine Jo_iload 0 dX6_set_46 rfl ?_
        exact Jo_iret rfl dX6_set_48
      · exact b_X6_set_49 E p2.2 a0 i1 i2 i3
    · exact b_X6_set_49 E p1.2 a0 i1 i2 i3
  · refine Jo_ldc dX6_set_8 w_368 ?_
    exact Jo_iret rfl dX6_set_10
theorem K_X6_set (E : jE) (s : hS) (a0 : Nat) (i1 : Int32) (i2 : Int32) (i3 : Int32) : jK E yX6_set M_X6_set cvI [.ref a0, .int i1, .int i2, .int i3] s (f_X6_set s a0 i1 i2 i3) := jK_of ⟨by decide, rfl, rfl⟩ (Nat.le_of_ble_eq_true rfl) (b_X6_set_in E s a0 i1 i2 i3)
/-! HeronTalk.person()I -/
abbrev M_X6_person : jM := (RX6, cX6_person, 1, (some .int), "person", 1, 21)
theorem yF_X6_person : yF yX6_person M_X6_person 0 := ⟨w_389, w_278, by decide +kernel⟩
theorem yV_X6_person : Cond.instanceMethod yX6_person ∈ tbG ∧ Cond.selects yX6_person.cls yX6_person yX6_person ∈ tbG := ⟨w_390, w_391⟩
theorem dX6_person_0 : dI cX6_person 0 1 (.aload_n 0) 1 := ⟨by decide +kernel, rfl⟩
theorem dX6_person_1 : dI cX6_person 1 4 (.getfield 10) 3 := ⟨by decide +kernel, rfl⟩
theorem dX6_person_4 : dI cX6_person 4 7 (.getfield 92) 3 := ⟨by decide +kernel, rfl⟩
theorem dX6_person_7 : dI cX6_person 7 9 (.bipush 8) 2 := ⟨by decide +kernel, rfl⟩
theorem dX6_person_9 : decode cX6_person 9 = .ok (.if_icmp .lt 6, 3) := by decide +kernel
theorem dX6_person_12 : dI cX6_person 12 14 (.ldc 71) 2 := ⟨by decide +kernel, rfl⟩
theorem dX6_person_14 : dI cX6_person 14 15 (.ireturn) 1 := ⟨by decide +kernel, rfl⟩
theorem dX6_person_15 : dI cX6_person 15 16 (.aload_n 0) 1 := ⟨by decide +kernel, rfl⟩
theorem dX6_person_16 : dI cX6_person 16 19 (.getfield 10) 3 := ⟨by decide +kernel, rfl⟩
theorem dX6_person_19 : decode cX6_person 19 = .ok (.invokevirtual 95, 3) := by decide +kernel
theorem dX6_person_22 : dI cX6_person 22 23 (.ireturn) 1 := ⟨by decide +kernel, rfl⟩
def f_X6_person (s : hS) (a0 : Nat) : Option (Int32 × hS) :=
  (gR s a0 6 0).bind fun a1 =>
  (gI s a1 5 1).bind fun x2 =>
  if x2 < (8 : Int32) then
    (gR s a0 6 0).bind fun a3 =>
    (cV s a3 5 (f_X5_addPerson s a3)).bind fun p4 =>
    some (p4.1, p4.2)
  else
    some ((-1000000003 : Int32), s)
theorem b_X6_person_in (E : jE)  (s : hS) (a0 : Nat)  : Jo E M_X6_person cvI 0 [(0, .ref a0)] [] s (f_X6_person s a0) := by
  unfold f_X6_person
  refine Jo_aloadn 0 dX6_person_0 rfl rfl ?_
  refine Jo_getR fF_6_0 fR_6_0 dX6_person_1 w_359 (fun a1 => ?_)
  refine Jo_getI fF_5_1 fI_5_1 dX6_person_4 w_388 (fun x2 => ?_)
  refine Jo_bipush (v := (8 : Int32)) dX6_person_7 (by decide) ?_
  refine Jo_icmp_lt 15 dX6_person_9 (by decide) rfl ?_ ?_
  · refine Jo_aloadn 0 dX6_person_15 rfl rfl ?_
    refine Jo_getR fF_6_0 fR_6_0 dX6_person_16 w_359 (fun a3 => ?_)
    refine Jo_callVi (a := a3) (rest := []) [] cc_5 yF_X5_addPerson yV_X5_addPerson w_387 rfl rfl ⟨Nat.le_of_ble_eq_true rfl, Nat.le_of_ble_eq_true rfl, Nat.le_of_ble_eq_true rfl⟩ dX6_person_19 rfl (K_X5_addPerson E s a3) (fun p4 => ?_)
    exact Jo_iret rfl dX6_person_22
  · refine Jo_ldc dX6_person_12 w_366 ?_
    exact Jo_iret rfl dX6_person_14
theorem K_X6_person (E : jE) (s : hS) (a0 : Nat) : jK E yX6_person M_X6_person cvI [.ref a0] s (f_X6_person s a0) := jK_of ⟨by decide, rfl, rfl⟩ (Nat.le_of_ble_eq_true rfl) (b_X6_person_in E s a0)
/-! HeronTalk.isNobody(I)Z -/
abbrev M_X6_isNobody : jM := (RX6, cX6_isNobody, 2, (some .boolean), "isNobody", 0, 0)
theorem yF_X6_isNobody : yF yX6_isNobody M_X6_isNobody 1 := ⟨w_392, w_278, by decide +kernel⟩
theorem yV_X6_isNobody : Cond.instanceMethod yX6_isNobody ∈ tbG ∧ Cond.selects yX6_isNobody.cls yX6_isNobody yX6_isNobody ∈ tbG := ⟨w_393, w_394⟩
theorem dX6_isNobody_0 : dI cX6_isNobody 0 1 (.iload_n 1) 1 := ⟨by decide +kernel, rfl⟩
theorem dX6_isNobody_1 : decode cX6_isNobody 1 = .ok (.ifCond .lt 14, 3) := by decide +kernel
theorem dX6_isNobody_4 : dI cX6_isNobody 4 5 (.iload_n 1) 1 := ⟨by decide +kernel, rfl⟩
theorem dX6_isNobody_5 : dI cX6_isNobody 5 6 (.aload_n 0) 1 := ⟨by decide +kernel, rfl⟩
theorem dX6_isNobody_6 : dI cX6_isNobody 6 9 (.getfield 10) 3 := ⟨by decide +kernel, rfl⟩
theorem dX6_isNobody_9 : dI cX6_isNobody 9 12 (.getfield 92) 3 := ⟨by decide +kernel, rfl⟩
theorem dX6_isNobody_12 : decode cX6_isNobody 12 = .ok (.if_icmp .lt 7, 3) := by decide +kernel
theorem dX6_isNobody_15 : dI cX6_isNobody 15 16 (.iconst 1) 1 := ⟨by decide +kernel, rfl⟩
theorem dX6_isNobody_16 : decode cX6_isNobody 16 = .ok (.goto 4, 3) := by decide +kernel
theorem dX6_isNobody_19 : dI cX6_isNobody 19 20 (.iconst 0) 1 := ⟨by decide +kernel, rfl⟩
theorem dX6_isNobody_20 : dI cX6_isNobody 20 21 (.ireturn) 1 := ⟨by decide +kernel, rfl⟩
def f_X6_isNobody_b15 (s : hS) : Option (Int32 × hS) :=
  some ((1 : Int32), s)
theorem b_X6_isNobody_15 (E : jE)  (s : hS)   : Jo E M_X6_isNobody cvI 15 [] [] s (f_X6_isNobody_b15   s) := by
  unfold f_X6_isNobody_b15
  refine Jo_iconst (v := (1 : Int32)) dX6_isNobody_15 (by decide) ?_
  refine Jo_goto 20 dX6_isNobody_16 (by decide) ?_
  exact Jo_zret1 rfl dX6_isNobody_20
def f_X6_isNobody (s : hS) (a0 : Nat) (i1 : Int32) : Option (Int32 × hS) :=
  if i1 < 0 then
    f_X6_isNobody_b15  s
  else
    (gR s a0 6 0).bind fun a1 =>
    (gI s a1 5 1).bind fun x2 =>
    if i1 < x2 then
      some ((0 : Int32), s)
    else
      f_X6_isNobody_b15  s
theorem b_X6_isNobody_in (E : jE)  (s : hS) (a0 : Nat) (i1 : Int32)  : Jo E M_X6_isNobody cvI 0 [(0, .ref a0), (1, .int i1)] [] s (f_X6_isNobody s a0 i1) := by
  unfold f_X6_isNobody
  refine Jo_iloadn 1 dX6_isNobody_0 rfl rfl ?_
  refine Jo_if_lt 15 dX6_isNobody_1 (by decide) rfl ?_ ?_
  · refine Jo_sub [] rfl ?_
    exact b_X6_isNobody_15 E s 
  · refine Jo_iloadn 1 dX6_isNobody_4 rfl rfl ?_
    refine Jo_aloadn 0 dX6_isNobody_5 rfl rfl ?_
    refine Jo_getR fF_6_0 fR_6_0 dX6_isNobody_6 w_359 (fun a1 => ?_)
    refine Jo_getI fF_5_1 fI_5_1 dX6_isNobody_9 w_388 (fun x2 => ?_)
    refine Jo_icmp_lt 19 dX6_isNobody_12 (by decide) rfl ?_ ?_
    · refine Jo_iconst (v := (0 : Int32)) dX6_isNobody_19 (by decide) ?_
      exact Jo_zret0 rfl dX6_isNobody_20
    · refine Jo_sub [] rfl ?_
      exact b_X6_isNobody_15 E s 
theorem K_X6_isNobody (E : jE) (s : hS) (a0 : Nat) (i1 : Int32) : jK E yX6_isNobody M_X6_isNobody cvI [.ref a0, .int i1] s (f_X6_isNobody s a0 i1) := jK_of ⟨by decide, rfl, rfl⟩ (Nat.le_of_ble_eq_true rfl) (b_X6_isNobody_in E s a0 i1)
/-! HeronTalk.personTold(II)I -/
abbrev M_X6_personTold : jM := (RX6, cX6_personTold, 3, (some .int), "personTold", 3, 66)
theorem yF_X6_personTold : yF yX6_personTold M_X6_personTold 2 := ⟨w_400, w_278, by decide +kernel⟩
theorem yV_X6_personTold : Cond.instanceMethod yX6_personTold ∈ tbG ∧ Cond.selects yX6_personTold.cls yX6_personTold yX6_personTold ∈ tbG := ⟨w_401, w_402⟩
theorem dX6_personTold_0 : dI cX6_personTold 0 1 (.aload_n 0) 1 := ⟨by decide +kernel, rfl⟩
theorem dX6_personTold_1 : dI cX6_personTold 1 2 (.iload_n 1) 1 := ⟨by decide +kernel, rfl⟩
theorem dX6_personTold_2 : decode cX6_personTold 2 = .ok (.invokevirtual 99, 3) := by decide +kernel
theorem dX6_personTold_5 : decode cX6_personTold 5 = .ok (.ifCond .eq 6, 3) := by decide +kernel
theorem dX6_personTold_8 : dI cX6_personTold 8 10 (.ldc 67) 2 := ⟨by decide +kernel, rfl⟩
theorem dX6_personTold_10 : dI cX6_personTold 10 11 (.ireturn) 1 := ⟨by decide +kernel, rfl⟩
theorem dX6_personTold_11 : dI cX6_personTold 11 12 (.iload_n 2) 1 := ⟨by decide +kernel, rfl⟩
theorem dX6_personTold_12 : decode cX6_personTold 12 = .ok (.tableswitch 96 0 4 #[36, 46, 56, 78, 87], 36) := by decide +kernel
theorem dX6_personTold_48 : dI cX6_personTold 48 49 (.aload_n 0) 1 := ⟨by decide +kernel, rfl⟩
theorem dX6_personTold_49 : dI cX6_personTold 49 52 (.getfield 10) 3 := ⟨by decide +kernel, rfl⟩
theorem dX6_personTold_52 : dI cX6_personTold 52 55 (.getfield 102) 3 := ⟨by decide +kernel, rfl⟩
theorem dX6_personTold_55 : dI cX6_personTold 55 56 (.iload_n 1) 1 := ⟨by decide +kernel, rfl⟩
theorem dX6_personTold_56 : dI cX6_personTold 56 57 (.iaload) 1 := ⟨by decide +kernel, rfl⟩
theorem dX6_personTold_57 : dI cX6_personTold 57 58 (.ireturn) 1 := ⟨by decide +kernel, rfl⟩
theorem dX6_personTold_58 : dI cX6_personTold 58 59 (.aload_n 0) 1 := ⟨by decide +kernel, rfl⟩
theorem dX6_personTold_59 : dI cX6_personTold 59 62 (.getfield 10) 3 := ⟨by decide +kernel, rfl⟩
theorem dX6_personTold_62 : dI cX6_personTold 62 65 (.getfield 105) 3 := ⟨by decide +kernel, rfl⟩
theorem dX6_personTold_65 : dI cX6_personTold 65 66 (.iload_n 1) 1 := ⟨by decide +kernel, rfl⟩
theorem dX6_personTold_66 : dI cX6_personTold 66 67 (.iaload) 1 := ⟨by decide +kernel, rfl⟩
theorem dX6_personTold_67 : dI cX6_personTold 67 68 (.ireturn) 1 := ⟨by decide +kernel, rfl⟩
theorem dX6_personTold_68 : dI cX6_personTold 68 69 (.aload_n 0) 1 := ⟨by decide +kernel, rfl⟩
theorem dX6_personTold_69 : dI cX6_personTold 69 72 (.getfield 10) 3 := ⟨by decide +kernel, rfl⟩
theorem dX6_personTold_72 : dI cX6_personTold 72 75 (.getfield 105) 3 := ⟨by decide +kernel, rfl⟩
theorem dX6_personTold_75 : dI cX6_personTold 75 76 (.iload_n 1) 1 := ⟨by decide +kernel, rfl⟩
theorem dX6_personTold_76 : dI cX6_personTold 76 77 (.iaload) 1 := ⟨by decide +kernel, rfl⟩
theorem dX6_personTold_77 : dI cX6_personTold 77 78 (.aload_n 0) 1 := ⟨by decide +kernel, rfl⟩
theorem dX6_personTold_78 : dI cX6_personTold 78 81 (.getfield 10) 3 := ⟨by decide +kernel, rfl⟩
theorem dX6_personTold_81 : dI cX6_personTold 81 84 (.getfield 102) 3 := ⟨by decide +kernel, rfl⟩
theorem dX6_personTold_84 : dI cX6_personTold 84 85 (.iload_n 1) 1 := ⟨by decide +kernel, rfl⟩
theorem dX6_personTold_85 : dI cX6_personTold 85 86 (.iaload) 1 := ⟨by decide +kernel, rfl⟩
theorem dX6_personTold_86 : dI cX6_personTold 86 87 (.iconst (-1)) 1 := ⟨by decide +kernel, rfl⟩
theorem dX6_personTold_87 : dI cX6_personTold 87 88 (.ixor) 1 := ⟨by decide +kernel, rfl⟩
theorem dX6_personTold_88 : dI cX6_personTold 88 89 (.iand) 1 := ⟨by decide +kernel, rfl⟩
theorem dX6_personTold_89 : dI cX6_personTold 89 90 (.ireturn) 1 := ⟨by decide +kernel, rfl⟩
theorem dX6_personTold_90 : dI cX6_personTold 90 91 (.aload_n 0) 1 := ⟨by decide +kernel, rfl⟩
theorem dX6_personTold_91 : dI cX6_personTold 91 94 (.getfield 10) 3 := ⟨by decide +kernel, rfl⟩
theorem dX6_personTold_94 : dI cX6_personTold 94 95 (.iload_n 1) 1 := ⟨by decide +kernel, rfl⟩
theorem dX6_personTold_95 : decode cX6_personTold 95 = .ok (.invokevirtual 108, 3) := by decide +kernel
theorem dX6_personTold_98 : dI cX6_personTold 98 99 (.ireturn) 1 := ⟨by decide +kernel, rfl⟩
theorem dX6_personTold_99 : dI cX6_personTold 99 100 (.aload_n 0) 1 := ⟨by decide +kernel, rfl⟩
theorem dX6_personTold_100 : dI cX6_personTold 100 103 (.getfield 10) 3 := ⟨by decide +kernel, rfl⟩
theorem dX6_personTold_103 : dI cX6_personTold 103 104 (.iload_n 1) 1 := ⟨by decide +kernel, rfl⟩
theorem dX6_personTold_104 : decode cX6_personTold 104 = .ok (.invokevirtual 111, 3) := by decide +kernel
theorem dX6_personTold_107 : dI cX6_personTold 107 108 (.ireturn) 1 := ⟨by decide +kernel, rfl⟩
theorem dX6_personTold_108 : dI cX6_personTold 108 110 (.ldc 67) 2 := ⟨by decide +kernel, rfl⟩
theorem dX6_personTold_110 : dI cX6_personTold 110 111 (.ireturn) 1 := ⟨by decide +kernel, rfl⟩
def f_X6_personTold (s : hS) (a0 : Nat) (i1 : Int32) (i2 : Int32) : Option (Int32 × hS) :=
  (cV s a0 6 (f_X6_isNobody s a0 i1)).bind fun p1 =>
  if p1.1 = 0 then
    if i2 = (0 : Int32) then
      (gR p1.2 a0 6 0).bind fun a3 =>
      (gR p1.2 a3 5 10).bind fun a4 =>
      (aI p1.2 a4 10 i1).bind fun x5 =>
      some (x5, p1.2)
    else
    if i2 = (1 : Int32) then
      (gR p1.2 a0 6 0).bind fun a7 =>
      (gR p1.2 a7 5 11).bind fun a8 =>
      (aI p1.2 a8 10 i1).bind fun x9 =>
      some (x9, p1.2)
    else
    if i2 = (2 : Int32) then
      (gR p1.2 a0 6 0).bind fun a11 =>
      (gR p1.2 a11 5 11).bind fun a12 =>
      (aI p1.2 a12 10 i1).bind fun x13 =>
      (gR p1.2 a0 6 0).bind fun a14 =>
      (gR p1.2 a14 5 10).bind fun a15 =>
      (aI p1.2 a15 10 i1).bind fun x16 =>
      some ((x13 &&& (x16 ^^^ (-1 : Int32))), p1.2)
    else
    if i2 = (3 : Int32) then
      (gR p1.2 a0 6 0).bind fun a18 =>
      (cV p1.2 a18 5 (f_X5_newsOf p1.2 a18 i1)).bind fun p19 =>
      some (p19.1, p19.2)
    else
    if i2 = (4 : Int32) then
      (gR p1.2 a0 6 0).bind fun a21 =>
      (cV p1.2 a21 5 (f_X5_richesOf p1.2 a21 i1)).bind fun p22 =>
      some (p22.1, p22.2)
    else
    some ((-1000000001 : Int32), p1.2)
  else
    some ((-1000000001 : Int32), p1.2)
theorem b_X6_personTold_in (E : jE)  (s : hS) (a0 : Nat) (i1 : Int32) (i2 : Int32)  : Jo E M_X6_personTold cvI 0 [(0, .ref a0), (1, .int i1), (2, .int i2)] [] s (f_X6_personTold s a0 i1 i2) := by
  unfold f_X6_personTold
  refine Jo_aloadn 0 dX6_personTold_0 rfl rfl ?_
  refine Jo_iloadn 1 dX6_personTold_1 rfl rfl ?_
  refine Jo_callVi (a := a0) (rest := []) [.int i1] cc_6 yF_X6_isNobody yV_X6_isNobody w_399 rfl rfl ⟨Nat.le_of_ble_eq_true rfl, Nat.le_of_ble_eq_true rfl, Nat.le_of_ble_eq_true rfl⟩ dX6_personTold_2 rfl (K_X6_isNobody E s a0 i1) (fun p1 => ?_)
  refine Jo_if_eq 11 dX6_personTold_5 (by decide) rfl ?_ ?_
  · refine Jo_iloadn 2 dX6_personTold_11 rfl rfl ?_
    refine Jo_case ?_ (fun g2 => ?_)
    · refine Jo_tabIn (off := 36) 48 dX6_personTold_12 (by decide) (by decide) (by decide) (by decide) ?_
      refine Jo_aloadn 0 dX6_personTold_48 rfl rfl ?_
      refine Jo_getR fF_6_0 fR_6_0 dX6_personTold_49 w_359 (fun a3 => ?_)
      refine Jo_getR fF_5_10 fR_5_10 dX6_personTold_52 w_395 (fun a4 => ?_)
      refine Jo_iloadn 1 dX6_personTold_55 rfl rfl ?_
      refine Jo_iaload dX6_personTold_56 (fun x5 => ?_)
      exact Jo_iret rfl dX6_personTold_57
    refine Jo_case ?_ (fun g6 => ?_)
    · refine Jo_tabIn (off := 46) 58 dX6_personTold_12 (by decide) (by decide) (by decide) (by decide) ?_
      refine Jo_aloadn 0 dX6_personTold_58 rfl rfl ?_
      refine Jo_getR fF_6_0 fR_6_0 dX6_personTold_59 w_359 (fun a7 => ?_)
      refine Jo_getR fF_5_11 fR_5_11 dX6_personTold_62 w_396 (fun a8 => ?_)
      refine Jo_iloadn 1 dX6_personTold_65 rfl rfl ?_
      refine Jo_iaload dX6_personTold_66 (fun x9 => ?_)
      exact Jo_iret rfl dX6_personTold_67
    refine Jo_case ?_ (fun g10 => ?_)
    · refine Jo_tabIn (off := 56) 68 dX6_personTold_12 (by decide) (by decide) (by decide) (by decide) ?_
      refine Jo_aloadn 0 dX6_personTold_68 rfl rfl ?_
      refine Jo_getR fF_6_0 fR_6_0 dX6_personTold_69 w_359 (fun a11 => ?_)
      refine Jo_getR fF_5_11 fR_5_11 dX6_personTold_72 w_396 (fun a12 => ?_)
      refine Jo_iloadn 1 dX6_personTold_75 rfl rfl ?_
      refine Jo_iaload dX6_personTold_76 (fun x13 => ?_)
      refine Jo_aloadn 0 dX6_personTold_77 rfl rfl ?_
      refine Jo_getR fF_6_0 fR_6_0 dX6_personTold_78 w_359 (fun a14 => ?_)
      refine Jo_getR fF_5_10 fR_5_10 dX6_personTold_81 w_395 (fun a15 => ?_)
      refine Jo_iloadn 1 dX6_personTold_84 rfl rfl ?_
      refine Jo_iaload dX6_personTold_85 (fun x16 => ?_)
      refine Jo_iconst (v := (-1 : Int32)) dX6_personTold_86 (by decide) ?_
      refine Jo_ixor dX6_personTold_87 ?_
      refine Jo_iand dX6_personTold_88 ?_
      exact Jo_iret rfl dX6_personTold_89
    refine Jo_case ?_ (fun g17 => ?_)
    · refine Jo_tabIn (off := 78) 90 dX6_personTold_12 (by decide) (by decide) (by decide) (by decide) ?_
      refine Jo_aloadn 0 dX6_personTold_90 rfl rfl ?_
      refine Jo_getR fF_6_0 fR_6_0 dX6_personTold_91 w_359 (fun a18 => ?_)
      refine Jo_iloadn 1 dX6_personTold_94 rfl rfl ?_
      refine Jo_callVi (a := a18) (rest := []) [.int i1] cc_5 yF_X5_newsOf yV_X5_newsOf w_397 rfl rfl ⟨Nat.le_of_ble_eq_true rfl, Nat.le_of_ble_eq_true rfl, Nat.le_of_ble_eq_true rfl⟩ dX6_personTold_95 rfl (K_X5_newsOf E p1.2 a18 i1) (fun p19 => ?_)
      exact Jo_iret rfl dX6_personTold_98
    refine Jo_case ?_ (fun g20 => ?_)
    · refine Jo_tabIn (off := 87) 99 dX6_personTold_12 (by decide) (by decide) (by decide) (by decide) ?_
      refine Jo_aloadn 0 dX6_personTold_99 rfl rfl ?_
      refine Jo_getR fF_6_0 fR_6_0 dX6_personTold_100 w_359 (fun a21 => ?_)
      refine Jo_iloadn 1 dX6_personTold_103 rfl rfl ?_
      refine Jo_callVi (a := a21) (rest := []) [.int i1] cc_5 yF_X5_richesOf yV_X5_richesOf w_398 rfl rfl ⟨Nat.le_of_ble_eq_true rfl, Nat.le_of_ble_eq_true rfl, Nat.le_of_ble_eq_true rfl⟩ dX6_personTold_104 rfl (K_X5_richesOf E p1.2 a21 i1) (fun p22 => ?_)
      exact Jo_iret rfl dX6_personTold_107
    refine Jo_tabOut 108 dX6_personTold_12 (by have qg2 := i32ne 0 (by decide) g2; have qg6 := i32ne 1 (by decide) g6; have qg10 := i32ne 2 (by decide) g10; have qg17 := i32ne 3 (by decide) g17; have qg20 := i32ne 4 (by decide) g20; omega) (by decide) ?_
    refine Jo_ldc dX6_personTold_108 w_368 ?_
    exact Jo_iret rfl dX6_personTold_110
  · refine Jo_ldc dX6_personTold_8 w_368 ?_
    exact Jo_iret rfl dX6_personTold_10
theorem K_X6_personTold (E : jE) (s : hS) (a0 : Nat) (i1 : Int32) (i2 : Int32) : jK E yX6_personTold M_X6_personTold cvI [.ref a0, .int i1, .int i2] s (f_X6_personTold s a0 i1 i2) := jK_of ⟨by decide, rfl, rfl⟩ (Nat.le_of_ble_eq_true rfl) (b_X6_personTold_in E s a0 i1 i2)
/-! HeronTalk.knows(III)I -/
abbrev M_X6_knows : jM := (RX6, cX6_knows, 5, (some .int), "knows", 1, 25)
theorem yF_X6_knows : yF yX6_knows M_X6_knows 3 := ⟨w_405, w_278, by decide +kernel⟩
theorem yV_X6_knows : Cond.instanceMethod yX6_knows ∈ tbG ∧ Cond.selects yX6_knows.cls yX6_knows yX6_knows ∈ tbG := ⟨w_406, w_407⟩
theorem dX6_knows_0 : dI cX6_knows 0 1 (.aload_n 0) 1 := ⟨by decide +kernel, rfl⟩
theorem dX6_knows_1 : dI cX6_knows 1 2 (.iload_n 1) 1 := ⟨by decide +kernel, rfl⟩
theorem dX6_knows_2 : decode cX6_knows 2 = .ok (.invokevirtual 99, 3) := by decide +kernel
theorem dX6_knows_5 : decode cX6_knows 5 = .ok (.ifCond .ne 26, 3) := by decide +kernel
theorem dX6_knows_8 : dI cX6_knows 8 9 (.iload_n 2) 1 := ⟨by decide +kernel, rfl⟩
theorem dX6_knows_9 : dI cX6_knows 9 10 (.iconst 0) 1 := ⟨by decide +kernel, rfl⟩
theorem dX6_knows_10 : dI cX6_knows 10 11 (.iconst 1) 1 := ⟨by decide +kernel, rfl⟩
theorem dX6_knows_11 : decode cX6_knows 11 = .ok (.invokestatic 63, 3) := by decide +kernel
theorem dX6_knows_14 : decode cX6_knows 14 = .ok (.ifCond .ne 17, 3) := by decide +kernel
theorem dX6_knows_17 : dI cX6_knows 17 18 (.iload_n 3) 1 := ⟨by decide +kernel, rfl⟩
theorem dX6_knows_18 : dI cX6_knows 18 19 (.aload_n 0) 1 := ⟨by decide +kernel, rfl⟩
theorem dX6_knows_19 : dI cX6_knows 19 22 (.getfield 10) 3 := ⟨by decide +kernel, rfl⟩
theorem dX6_knows_22 : decode cX6_knows 22 = .ok (.invokevirtual 114, 3) := by decide +kernel
theorem dX6_knows_25 : dI cX6_knows 25 26 (.iconst (-1)) 1 := ⟨by decide +kernel, rfl⟩
theorem dX6_knows_26 : dI cX6_knows 26 27 (.ixor) 1 := ⟨by decide +kernel, rfl⟩
theorem dX6_knows_27 : dI cX6_knows 27 28 (.iand) 1 := ⟨by decide +kernel, rfl⟩
theorem dX6_knows_28 : decode cX6_knows 28 = .ok (.ifCond .eq 6, 3) := by decide +kernel
theorem dX6_knows_31 : dI cX6_knows 31 33 (.ldc 67) 2 := ⟨by decide +kernel, rfl⟩
theorem dX6_knows_33 : dI cX6_knows 33 34 (.ireturn) 1 := ⟨by decide +kernel, rfl⟩
theorem dX6_knows_34 : dI cX6_knows 34 35 (.iload_n 2) 1 := ⟨by decide +kernel, rfl⟩
theorem dX6_knows_35 : decode cX6_knows 35 = .ok (.ifCond .ne 34, 3) := by decide +kernel
theorem dX6_knows_38 : dI cX6_knows 38 39 (.aload_n 0) 1 := ⟨by decide +kernel, rfl⟩
theorem dX6_knows_39 : dI cX6_knows 39 42 (.getfield 10) 3 := ⟨by decide +kernel, rfl⟩
theorem dX6_knows_42 : dI cX6_knows 42 45 (.getfield 102) 3 := ⟨by decide +kernel, rfl⟩
theorem dX6_knows_45 : dI cX6_knows 45 46 (.iload_n 1) 1 := ⟨by decide +kernel, rfl⟩
theorem dX6_knows_46 : dI cX6_knows 46 47 (.iaload) 1 := ⟨by decide +kernel, rfl⟩
theorem dX6_knows_47 : dI cX6_knows 47 49 (.istore 4) 2 := ⟨by decide +kernel, rfl⟩
theorem dX6_knows_49 : dI cX6_knows 49 50 (.aload_n 0) 1 := ⟨by decide +kernel, rfl⟩
theorem dX6_knows_50 : dI cX6_knows 50 53 (.getfield 10) 3 := ⟨by decide +kernel, rfl⟩
theorem dX6_knows_53 : dI cX6_knows 53 56 (.getfield 102) 3 := ⟨by decide +kernel, rfl⟩
theorem dX6_knows_56 : dI cX6_knows 56 57 (.iload_n 1) 1 := ⟨by decide +kernel, rfl⟩
theorem dX6_knows_57 : dI cX6_knows 57 58 (.aload_n 0) 1 := ⟨by decide +kernel, rfl⟩
theorem dX6_knows_58 : dI cX6_knows 58 61 (.getfield 10) 3 := ⟨by decide +kernel, rfl⟩
theorem dX6_knows_61 : dI cX6_knows 61 62 (.iload_n 3) 1 := ⟨by decide +kernel, rfl⟩
theorem dX6_knows_62 : decode cX6_knows 62 = .ok (.invokevirtual 117, 3) := by decide +kernel
theorem dX6_knows_65 : dI cX6_knows 65 66 (.iastore) 1 := ⟨by decide +kernel, rfl⟩
theorem dX6_knows_66 : dI cX6_knows 66 68 (.iload 4) 2 := ⟨by decide +kernel, rfl⟩
theorem dX6_knows_68 : dI cX6_knows 68 69 (.ireturn) 1 := ⟨by decide +kernel, rfl⟩
theorem dX6_knows_69 : dI cX6_knows 69 70 (.aload_n 0) 1 := ⟨by decide +kernel, rfl⟩
theorem dX6_knows_70 : dI cX6_knows 70 73 (.getfield 10) 3 := ⟨by decide +kernel, rfl⟩
theorem dX6_knows_73 : dI cX6_knows 73 76 (.getfield 105) 3 := ⟨by decide +kernel, rfl⟩
theorem dX6_knows_76 : dI cX6_knows 76 77 (.iload_n 1) 1 := ⟨by decide +kernel, rfl⟩
theorem dX6_knows_77 : dI cX6_knows 77 78 (.iaload) 1 := ⟨by decide +kernel, rfl⟩
theorem dX6_knows_78 : dI cX6_knows 78 80 (.istore 4) 2 := ⟨by decide +kernel, rfl⟩
theorem dX6_knows_80 : dI cX6_knows 80 81 (.aload_n 0) 1 := ⟨by decide +kernel, rfl⟩
theorem dX6_knows_81 : dI cX6_knows 81 84 (.getfield 10) 3 := ⟨by decide +kernel, rfl⟩
theorem dX6_knows_84 : dI cX6_knows 84 87 (.getfield 105) 3 := ⟨by decide +kernel, rfl⟩
theorem dX6_knows_87 : dI cX6_knows 87 88 (.iload_n 1) 1 := ⟨by decide +kernel, rfl⟩
theorem dX6_knows_88 : dI cX6_knows 88 89 (.iload_n 3) 1 := ⟨by decide +kernel, rfl⟩
theorem dX6_knows_89 : dI cX6_knows 89 90 (.iastore) 1 := ⟨by decide +kernel, rfl⟩
theorem dX6_knows_90 : dI cX6_knows 90 92 (.iload 4) 2 := ⟨by decide +kernel, rfl⟩
theorem dX6_knows_92 : dI cX6_knows 92 93 (.ireturn) 1 := ⟨by decide +kernel, rfl⟩
def f_X6_knows (s : hS) (a0 : Nat) (i1 : Int32) (i2 : Int32) (i3 : Int32) : Option (Int32 × hS) :=
  (cV s a0 6 (f_X6_isNobody s a0 i1)).bind fun p1 =>
  if p1.1 = 0 then
    (f_X6_isOutside p1.2 i2 (0 : Int32) (1 : Int32)).bind fun p2 =>
    if p2.1 = 0 then
      (gR p2.2 a0 6 0).bind fun a3 =>
      (cV p2.2 a3 5 (f_X5_allFacts p2.2 a3)).bind fun p4 =>
      if (i3 &&& (p4.1 ^^^ (-1 : Int32))) = 0 then
        if i2 = 0 then
          (gR p4.2 a0 6 0).bind fun a11 =>
          (gR p4.2 a11 5 10).bind fun a12 =>
          (aI p4.2 a12 10 i1).bind fun x13 =>
          (gR p4.2 a0 6 0).bind fun a14 =>
          (gR p4.2 a14 5 10).bind fun a15 =>
          (gR p4.2 a0 6 0).bind fun a16 =>
          (cV p4.2 a16 5 (f_X5_withWhatFollows p4.2 a16 i3)).bind fun p17 =>
          (sI p17.2 a15 10 i1 p17.1).bind fun s18 =>
          some (x13, s18)
        else
          (gR p4.2 a0 6 0).bind fun a5 =>
          (gR p4.2 a5 5 11).bind fun a6 =>
          (aI p4.2 a6 10 i1).bind fun x7 =>
          (gR p4.2 a0 6 0).bind fun a8 =>
          (gR p4.2 a8 5 11).bind fun a9 =>
          (sI p4.2 a9 10 i1 i3).bind fun s10 =>
          some (x7, s10)
      else
        some ((-1000000001 : Int32), p4.2)
    else
      some ((-1000000001 : Int32), p2.2)
  else
    some ((-1000000001 : Int32), p1.2)
theorem b_X6_knows_in (E : jE)  (s : hS) (a0 : Nat) (i1 : Int32) (i2 : Int32) (i3 : Int32)  : Jo E M_X6_knows cvI 0 [(0, .ref a0), (1, .int i1), (2, .int i2), (3, .int i3)] [] s (f_X6_knows s a0 i1 i2 i3) := by
  unfold f_X6_knows
  refine Jo_aloadn 0 dX6_knows_0 rfl rfl ?_
  refine Jo_iloadn 1 dX6_knows_1 rfl rfl ?_
  refine Jo_callVi (a := a0) (rest := []) [.int i1] cc_6 yF_X6_isNobody yV_X6_isNobody w_399 rfl rfl ⟨Nat.le_of_ble_eq_true rfl, Nat.le_of_ble_eq_true rfl, Nat.le_of_ble_eq_true rfl⟩ dX6_knows_2 rfl (K_X6_isNobody E s a0 i1) (fun p1 => ?_)
  refine Jo_if_ne 31 dX6_knows_5 (by decide) rfl ?_ ?_
  · refine Jo_iloadn 2 dX6_knows_8 rfl rfl ?_
    refine Jo_iconst (v := (0 : Int32)) dX6_knows_9 (by decide) ?_
    refine Jo_iconst (v := (1 : Int32)) dX6_knows_10 (by decide) ?_
    refine Jo_callSi (rest := []) [.int i2, .int (0 : Int32), .int (1 : Int32)] yF_X6_isOutside yS_X6_isOutside w_369 rfl rfl ⟨Nat.le_of_ble_eq_true rfl, Nat.le_of_ble_eq_true rfl, Nat.le_of_ble_eq_true rfl⟩ dX6_knows_11 rfl (K_X6_isOutside E p1.2 i2 (0 : Int32) (1 : Int32)) (fun p2 => ?_)
    refine Jo_if_ne 31 dX6_knows_14 (by decide) rfl ?_ ?_
    · refine Jo_iloadn 3 dX6_knows_17 rfl rfl ?_
      refine Jo_aloadn 0 dX6_knows_18 rfl rfl ?_
      refine Jo_getR fF_6_0 fR_6_0 dX6_knows_19 w_359 (fun a3 => ?_)
      refine Jo_callVi (a := a3) (rest := [.int i3]) [] cc_5 yF_X5_allFacts yV_X5_allFacts w_404 rfl rfl ⟨Nat.le_of_ble_eq_true rfl, Nat.le_of_ble_eq_true rfl, Nat.le_of_ble_eq_true rfl⟩ dX6_knows_22 rfl (K_X5_allFacts E p2.2 a3) (fun p4 => ?_)
      refine Jo_iconst (v := (-1 : Int32)) dX6_knows_25 (by decide) ?_
      refine Jo_ixor dX6_knows_26 ?_
      refine Jo_iand dX6_knows_27 ?_
      refine Jo_if_eq 34 dX6_knows_28 (by decide) rfl ?_ ?_
      · refine Jo_iloadn 2 dX6_knows_34 rfl rfl ?_
        refine Jo_if_ne 69 dX6_knows_35 (by decide) rfl ?_ ?_
        · refine Jo_aloadn 0 dX6_knows_38 rfl rfl ?_
          refine Jo_getR fF_6_0 fR_6_0 dX6_knows_39 w_359 (fun a11 => ?_)
          refine Jo_getR fF_5_10 fR_5_10 dX6_knows_42 w_395 (fun a12 => ?_)
          refine Jo_iloadn 1 dX6_knows_45 rfl rfl ?_
          refine Jo_iaload dX6_knows_46 (fun x13 => ?_)
          refine Jo_istore (ls' := [(4, .int x13), (0, .ref a0), (1, .int i1), (2, .int i2), (3, .int i3)]) dX6_knows_47 (by decide) rfl ?_
          refine Jo_aloadn 1 dX6_knows_49 rfl rfl ?_
          refine Jo_getR fF_6_0 fR_6_0 dX6_knows_50 w_359 (fun a14 => ?_)
          refine Jo_getR fF_5_10 fR_5_10 dX6_knows_53 w_395 (fun a15 => ?_)
          refine Jo_iloadn 2 dX6_knows_56 rfl rfl ?_
          refine Jo_aloadn 1 dX6_knows_57 rfl rfl ?_
          refine Jo_getR fF_6_0 fR_6_0 dX6_knows_58 w_359 (fun a16 => ?_)
          refine Jo_iloadn 4 dX6_knows_61 rfl rfl ?_
          refine Jo_callVi (a := a16) (rest := [.int i1, .ref a15]) [.int i3] cc_5 yF_X5_withWhatFollows yV_X5_withWhatFollows w_403 rfl rfl ⟨Nat.le_of_ble_eq_true rfl, Nat.le_of_ble_eq_true rfl, Nat.le_of_ble_eq_true rfl⟩ dX6_knows_62 rfl (K_X5_withWhatFollows E p4.2 a16 i3) (fun p17 => ?_)
          refine Jo_iastore dX6_knows_65 (fun s18 => ?_)
          refine Jo_iload 0 dX6_knows_66 rfl ?_
          exact Jo_iret rfl dX6_knows_68
        · refine Jo_aloadn 0 dX6_knows_69 rfl rfl ?_
          refine Jo_getR fF_6_0 fR_6_0 dX6_knows_70 w_359 (fun a5 => ?_)
          refine Jo_getR fF_5_11 fR_5_11 dX6_knows_73 w_396 (fun a6 => ?_)
          refine Jo_iloadn 1 dX6_knows_76 rfl rfl ?_
          refine Jo_iaload dX6_knows_77 (fun x7 => ?_)
          refine Jo_istore (ls' := [(4, .int x7), (0, .ref a0), (1, .int i1), (2, .int i2), (3, .int i3)]) dX6_knows_78 (by decide) rfl ?_
          refine Jo_aloadn 1 dX6_knows_80 rfl rfl ?_
          refine Jo_getR fF_6_0 fR_6_0 dX6_knows_81 w_359 (fun a8 => ?_)
          refine Jo_getR fF_5_11 fR_5_11 dX6_knows_84 w_396 (fun a9 => ?_)
          refine Jo_iloadn 2 dX6_knows_87 rfl rfl ?_
          refine Jo_iloadn 4 dX6_knows_88 rfl rfl ?_
          refine Jo_iastore dX6_knows_89 (fun s10 => ?_)
          refine Jo_iload 0 dX6_knows_90 rfl ?_
          exact Jo_iret rfl dX6_knows_92
      · refine Jo_ldc dX6_knows_31 w_368 ?_
        exact Jo_iret rfl dX6_knows_33
    · refine Jo_ldc dX6_knows_31 w_368 ?_
      exact Jo_iret rfl dX6_knows_33
  · refine Jo_ldc dX6_knows_31 w_368 ?_
    exact Jo_iret rfl dX6_knows_33
theorem K_X6_knows (E : jE) (s : hS) (a0 : Nat) (i1 : Int32) (i2 : Int32) (i3 : Int32) : jK E yX6_knows M_X6_knows cvI [.ref a0, .int i1, .int i2, .int i3] s (f_X6_knows s a0 i1 i2 i3) := jK_of ⟨by decide, rfl, rfl⟩ (Nat.le_of_ble_eq_true rfl) (b_X6_knows_in E s a0 i1 i2 i3)
/-! HeronTalk.follows(III)I -/
abbrev M_X6_follows : jM := (RX6, cX6_follows, 4, (some .int), "follows", 3, 71)
theorem yF_X6_follows : yF yX6_follows M_X6_follows 3 := ⟨w_410, w_278, by decide +kernel⟩
theorem yV_X6_follows : Cond.instanceMethod yX6_follows ∈ tbG ∧ Cond.selects yX6_follows.cls yX6_follows yX6_follows ∈ tbG := ⟨w_411, w_412⟩
theorem dX6_follows_0 : dI cX6_follows 0 1 (.aload_n 0) 1 := ⟨by decide +kernel, rfl⟩
theorem dX6_follows_1 : dI cX6_follows 1 2 (.iload_n 1) 1 := ⟨by decide +kernel, rfl⟩
theorem dX6_follows_2 : decode cX6_follows 2 = .ok (.invokevirtual 76, 3) := by decide +kernel
theorem dX6_follows_5 : decode cX6_follows 5 = .ok (.ifCond .ne 19, 3) := by decide +kernel
theorem dX6_follows_8 : dI cX6_follows 8 9 (.aload_n 0) 1 := ⟨by decide +kernel, rfl⟩
theorem dX6_follows_9 : dI cX6_follows 9 10 (.iload_n 2) 1 := ⟨by decide +kernel, rfl⟩
theorem dX6_follows_10 : decode cX6_follows 10 = .ok (.invokevirtual 76, 3) := by decide +kernel
theorem dX6_follows_13 : decode cX6_follows 13 = .ok (.ifCond .ne 11, 3) := by decide +kernel
theorem dX6_follows_16 : dI cX6_follows 16 17 (.aload_n 0) 1 := ⟨by decide +kernel, rfl⟩
theorem dX6_follows_17 : dI cX6_follows 17 18 (.iload_n 3) 1 := ⟨by decide +kernel, rfl⟩
theorem dX6_follows_18 : decode cX6_follows 18 = .ok (.invokevirtual 76, 3) := by decide +kernel
theorem dX6_follows_21 : decode cX6_follows 21 = .ok (.ifCond .eq 6, 3) := by decide +kernel
theorem dX6_follows_24 : dI cX6_follows 24 26 (.ldc 67) 2 := ⟨by decide +kernel, rfl⟩
theorem dX6_follows_26 : dI cX6_follows 26 27 (.ireturn) 1 := ⟨by decide +kernel, rfl⟩
theorem dX6_follows_27 : dI cX6_follows 27 28 (.aload_n 0) 1 := ⟨by decide +kernel, rfl⟩
theorem dX6_follows_28 : dI cX6_follows 28 31 (.getfield 10) 3 := ⟨by decide +kernel, rfl⟩
theorem dX6_follows_31 : dI cX6_follows 31 34 (.getfield 120) 3 := ⟨by decide +kernel, rfl⟩
theorem dX6_follows_34 : dI cX6_follows 34 36 (.bipush 8) 2 := ⟨by decide +kernel, rfl⟩
theorem dX6_follows_36 : decode cX6_follows 36 = .ok (.if_icmp .lt 6, 3) := by decide +kernel
theorem dX6_follows_39 : dI cX6_follows 39 41 (.ldc 71) 2 := ⟨by decide +kernel, rfl⟩
theorem dX6_follows_41 : dI cX6_follows 41 42 (.ireturn) 1 := ⟨by decide +kernel, rfl⟩
theorem dX6_follows_42 : dI cX6_follows 42 43 (.aload_n 0) 1 := ⟨by decide +kernel, rfl⟩
theorem dX6_follows_43 : dI cX6_follows 43 46 (.getfield 10) 3 := ⟨by decide +kernel, rfl⟩
theorem dX6_follows_46 : dI cX6_follows 46 47 (.iload_n 1) 1 := ⟨by decide +kernel, rfl⟩
theorem dX6_follows_47 : dI cX6_follows 47 48 (.iload_n 2) 1 := ⟨by decide +kernel, rfl⟩
theorem dX6_follows_48 : dI cX6_follows 48 49 (.iload_n 3) 1 := ⟨by decide +kernel, rfl⟩
theorem dX6_follows_49 : decode cX6_follows 49 = .ok (.invokevirtual 123, 3) := by decide +kernel
theorem dX6_follows_52 : dI cX6_follows 52 53 (.ireturn) 1 := ⟨by decide +kernel, rfl⟩
def f_X6_follows (s : hS) (a0 : Nat) (i1 : Int32) (i2 : Int32) (i3 : Int32) : Option (Int32 × hS) :=
  (cV s a0 6 (f_X6_isNoFact s a0 i1)).bind fun p1 =>
  if p1.1 = 0 then
    (cV p1.2 a0 6 (f_X6_isNoFact p1.2 a0 i2)).bind fun p2 =>
    if p2.1 = 0 then
      (cV p2.2 a0 6 (f_X6_isNoFact p2.2 a0 i3)).bind fun p3 =>
      if p3.1 = 0 then
        (gR p3.2 a0 6 0).bind fun a4 =>
        (gI p3.2 a4 5 2).bind fun x5 =>
        if x5 < (8 : Int32) then
          (gR p3.2 a0 6 0).bind fun a6 =>
          (cV p3.2 a6 5 (f_X5_addRule p3.2 a6 i1 i2 i3)).bind fun p7 =>
          some (p7.1, p7.2)
        else
          some ((-1000000003 : Int32), p3.2)
      else
        some ((-1000000001 : Int32), p3.2)
    else
      some ((-1000000001 : Int32), p2.2)
  else
    some ((-1000000001 : Int32), p1.2)
theorem b_X6_follows_in (E : jE)  (s : hS) (a0 : Nat) (i1 : Int32) (i2 : Int32) (i3 : Int32)  : Jo E M_X6_follows cvI 0 [(0, .ref a0), (1, .int i1), (2, .int i2), (3, .int i3)] [] s (f_X6_follows s a0 i1 i2 i3) := by
  unfold f_X6_follows
  refine Jo_aloadn 0 dX6_follows_0 rfl rfl ?_
  refine Jo_iloadn 1 dX6_follows_1 rfl rfl ?_
  refine Jo_callVi (a := a0) (rest := []) [.int i1] cc_6 yF_X6_isNoFact yV_X6_isNoFact w_380 rfl rfl ⟨Nat.le_of_ble_eq_true rfl, Nat.le_of_ble_eq_true rfl, Nat.le_of_ble_eq_true rfl⟩ dX6_follows_2 rfl (K_X6_isNoFact E s a0 i1) (fun p1 => ?_)
  refine Jo_if_ne 24 dX6_follows_5 (by decide) rfl ?_ ?_
  · refine Jo_aloadn 0 dX6_follows_8 rfl rfl ?_
    refine Jo_iloadn 2 dX6_follows_9 rfl rfl ?_
    refine Jo_callVi (a := a0) (rest := []) [.int i2] cc_6 yF_X6_isNoFact yV_X6_isNoFact w_380 rfl rfl ⟨Nat.le_of_ble_eq_true rfl, Nat.le_of_ble_eq_true rfl, Nat.le_of_ble_eq_true rfl⟩ dX6_follows_10 rfl (K_X6_isNoFact E p1.2 a0 i2) (fun p2 => ?_)
    refine Jo_if_ne 24 dX6_follows_13 (by decide) rfl ?_ ?_
    · refine Jo_aloadn 0 dX6_follows_16 rfl rfl ?_
      refine Jo_iloadn 3 dX6_follows_17 rfl rfl ?_
      refine Jo_callVi (a := a0) (rest := []) [.int i3] cc_6 yF_X6_isNoFact yV_X6_isNoFact w_380 rfl rfl ⟨Nat.le_of_ble_eq_true rfl, Nat.le_of_ble_eq_true rfl, Nat.le_of_ble_eq_true rfl⟩ dX6_follows_18 rfl (K_X6_isNoFact E p2.2 a0 i3) (fun p3 => ?_)
      refine Jo_if_eq 27 dX6_follows_21 (by decide) rfl ?_ ?_
      · refine Jo_aloadn 0 dX6_follows_27 rfl rfl ?_
        refine Jo_getR fF_6_0 fR_6_0 dX6_follows_28 w_359 (fun a4 => ?_)
        refine Jo_getI fF_5_2 fI_5_2 dX6_follows_31 w_409 (fun x5 => ?_)
        refine Jo_bipush (v := (8 : Int32)) dX6_follows_34 (by decide) ?_
        refine Jo_icmp_lt 42 dX6_follows_36 (by decide) rfl ?_ ?_
        · refine Jo_aloadn 0 dX6_follows_42 rfl rfl ?_
          refine Jo_getR fF_6_0 fR_6_0 dX6_follows_43 w_359 (fun a6 => ?_)
          refine Jo_iloadn 1 dX6_follows_46 rfl rfl ?_
          refine Jo_iloadn 2 dX6_follows_47 rfl rfl ?_
          refine Jo_iloadn 3 dX6_follows_48 rfl rfl ?_
          refine Jo_callVi (a := a6) (rest := []) [.int i1, .int i2, .int i3] cc_5 yF_X5_addRule yV_X5_addRule w_408 rfl rfl ⟨Nat.le_of_ble_eq_true rfl, Nat.le_of_ble_eq_true rfl, Nat.le_of_ble_eq_true rfl⟩ dX6_follows_49 rfl (K_X5_addRule E p3.2 a6 i1 i2 i3) (fun p7 => ?_)
          exact Jo_iret rfl dX6_follows_52
        · refine Jo_ldc dX6_follows_39 w_366 ?_
          exact Jo_iret rfl dX6_follows_41
      · refine Jo_ldc dX6_follows_24 w_368 ?_
        exact Jo_iret rfl dX6_follows_26
    · refine Jo_ldc dX6_follows_24 w_368 ?_
      exact Jo_iret rfl dX6_follows_26
  · refine Jo_ldc dX6_follows_24 w_368 ?_
    exact Jo_iret rfl dX6_follows_26
theorem K_X6_follows (E : jE) (s : hS) (a0 : Nat) (i1 : Int32) (i2 : Int32) (i3 : Int32) : jK E yX6_follows M_X6_follows cvI [.ref a0, .int i1, .int i2, .int i3] s (f_X6_follows s a0 i1 i2 i3) := jK_of ⟨by decide, rfl, rfl⟩ (Nat.le_of_ble_eq_true rfl) (b_X6_follows_in E s a0 i1 i2 i3)
/-! HeronTalk.price(II)I -/
abbrev M_X6_price : jM := (RX6, cX6_price, 3, (some .int), "price", 3, 68)
theorem yF_X6_price : yF yX6_price M_X6_price 2 := ⟨w_414, w_278, by decide +kernel⟩
theorem yV_X6_price : Cond.instanceMethod yX6_price ∈ tbG ∧ Cond.selects yX6_price.cls yX6_price yX6_price ∈ tbG := ⟨w_415, w_416⟩
theorem dX6_price_0 : dI cX6_price 0 1 (.aload_n 0) 1 := ⟨by decide +kernel, rfl⟩
theorem dX6_price_1 : dI cX6_price 1 2 (.iload_n 1) 1 := ⟨by decide +kernel, rfl⟩
theorem dX6_price_2 : decode cX6_price 2 = .ok (.invokevirtual 76, 3) := by decide +kernel
theorem dX6_price_5 : decode cX6_price 5 = .ok (.ifCond .ne 11, 3) := by decide +kernel
theorem dX6_price_8 : dI cX6_price 8 9 (.aload_n 0) 1 := ⟨by decide +kernel, rfl⟩
theorem dX6_price_9 : dI cX6_price 9 10 (.iload_n 2) 1 := ⟨by decide +kernel, rfl⟩
theorem dX6_price_10 : decode cX6_price 10 = .ok (.invokevirtual 99, 3) := by decide +kernel
theorem dX6_price_13 : decode cX6_price 13 = .ok (.ifCond .eq 6, 3) := by decide +kernel
theorem dX6_price_16 : dI cX6_price 16 18 (.ldc 67) 2 := ⟨by decide +kernel, rfl⟩
theorem dX6_price_18 : dI cX6_price 18 19 (.ireturn) 1 := ⟨by decide +kernel, rfl⟩
theorem dX6_price_19 : dI cX6_price 19 20 (.aload_n 0) 1 := ⟨by decide +kernel, rfl⟩
theorem dX6_price_20 : dI cX6_price 20 23 (.getfield 10) 3 := ⟨by decide +kernel, rfl⟩
theorem dX6_price_23 : dI cX6_price 23 24 (.iload_n 1) 1 := ⟨by decide +kernel, rfl⟩
theorem dX6_price_24 : dI cX6_price 24 25 (.iload_n 2) 1 := ⟨by decide +kernel, rfl⟩
theorem dX6_price_25 : decode cX6_price 25 = .ok (.invokevirtual 127, 3) := by decide +kernel
theorem dX6_price_28 : dI cX6_price 28 29 (.ireturn) 1 := ⟨by decide +kernel, rfl⟩
def f_X6_price (s : hS) (a0 : Nat) (i1 : Int32) (i2 : Int32) : Option (Int32 × hS) :=
  (cV s a0 6 (f_X6_isNoFact s a0 i1)).bind fun p1 =>
  if p1.1 = 0 then
    (cV p1.2 a0 6 (f_X6_isNobody p1.2 a0 i2)).bind fun p2 =>
    if p2.1 = 0 then
      (gR p2.2 a0 6 0).bind fun a3 =>
      (cV p2.2 a3 5 (f_X5_priceOf p2.2 a3 i1 i2)).bind fun p4 =>
      some (p4.1, p4.2)
    else
      some ((-1000000001 : Int32), p2.2)
  else
    some ((-1000000001 : Int32), p1.2)
theorem b_X6_price_in (E : jE)  (s : hS) (a0 : Nat) (i1 : Int32) (i2 : Int32)  : Jo E M_X6_price cvI 0 [(0, .ref a0), (1, .int i1), (2, .int i2)] [] s (f_X6_price s a0 i1 i2) := by
  unfold f_X6_price
  refine Jo_aloadn 0 dX6_price_0 rfl rfl ?_
  refine Jo_iloadn 1 dX6_price_1 rfl rfl ?_
  refine Jo_callVi (a := a0) (rest := []) [.int i1] cc_6 yF_X6_isNoFact yV_X6_isNoFact w_380 rfl rfl ⟨Nat.le_of_ble_eq_true rfl, Nat.le_of_ble_eq_true rfl, Nat.le_of_ble_eq_true rfl⟩ dX6_price_2 rfl (K_X6_isNoFact E s a0 i1) (fun p1 => ?_)
  refine Jo_if_ne 16 dX6_price_5 (by decide) rfl ?_ ?_
  · refine Jo_aloadn 0 dX6_price_8 rfl rfl ?_
    refine Jo_iloadn 2 dX6_price_9 rfl rfl ?_
    refine Jo_callVi (a := a0) (rest := []) [.int i2] cc_6 yF_X6_isNobody yV_X6_isNobody w_399 rfl rfl ⟨Nat.le_of_ble_eq_true rfl, Nat.le_of_ble_eq_true rfl, Nat.le_of_ble_eq_true rfl⟩ dX6_price_10 rfl (K_X6_isNobody E p1.2 a0 i2) (fun p2 => ?_)
    refine Jo_if_eq 19 dX6_price_13 (by decide) rfl ?_ ?_
    · refine Jo_aloadn 0 dX6_price_19 rfl rfl ?_
      refine Jo_getR fF_6_0 fR_6_0 dX6_price_20 w_359 (fun a3 => ?_)
      refine Jo_iloadn 1 dX6_price_23 rfl rfl ?_
      refine Jo_iloadn 2 dX6_price_24 rfl rfl ?_
      refine Jo_callVi (a := a3) (rest := []) [.int i1, .int i2] cc_5 yF_X5_priceOf yV_X5_priceOf w_413 rfl rfl ⟨Nat.le_of_ble_eq_true rfl, Nat.le_of_ble_eq_true rfl, Nat.le_of_ble_eq_true rfl⟩ dX6_price_25 rfl (K_X5_priceOf E p2.2 a3 i1 i2) (fun p4 => ?_)
      exact Jo_iret rfl dX6_price_28
    · refine Jo_ldc dX6_price_16 w_368 ?_
      exact Jo_iret rfl dX6_price_18
  · refine Jo_ldc dX6_price_16 w_368 ?_
    exact Jo_iret rfl dX6_price_18
theorem K_X6_price (E : jE) (s : hS) (a0 : Nat) (i1 : Int32) (i2 : Int32) : jK E yX6_price M_X6_price cvI [.ref a0, .int i1, .int i2] s (f_X6_price s a0 i1 i2) := jK_of ⟨by decide, rfl, rfl⟩ (Nat.le_of_ble_eq_true rfl) (b_X6_price_in E s a0 i1 i2)
