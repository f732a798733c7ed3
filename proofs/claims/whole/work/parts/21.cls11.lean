/-! HeronTalk.deal()I -/
abbrev M_X6_deal : jM := (RX6, cX6_deal, 1, (some .int), "deal", 2, 46)
theorem yF_X6_deal : yF yX6_deal M_X6_deal 0 := ⟨w_419, w_278, by decide +kernel⟩
theorem yV_X6_deal : Cond.instanceMethod yX6_deal ∈ tbG ∧ Cond.selects yX6_deal.cls yX6_deal yX6_deal ∈ tbG := ⟨w_420, w_421⟩
theorem dX6_deal_0 : dI cX6_deal 0 1 (.aload_n 0) 1 := ⟨by decide +kernel, rfl⟩
theorem dX6_deal_1 : dI cX6_deal 1 4 (.getfield 10) 3 := ⟨by decide +kernel, rfl⟩
theorem dX6_deal_4 : decode cX6_deal 4 = .ok (.invokevirtual 131, 3) := by decide +kernel
theorem dX6_deal_7 : dI cX6_deal 7 8 (.aload_n 0) 1 := ⟨by decide +kernel, rfl⟩
theorem dX6_deal_8 : dI cX6_deal 8 11 (.getfield 10) 3 := ⟨by decide +kernel, rfl⟩
theorem dX6_deal_11 : decode cX6_deal 11 = .ok (.invokevirtual 134, 3) := by decide +kernel
theorem dX6_deal_14 : dI cX6_deal 14 15 (.ireturn) 1 := ⟨by decide +kernel, rfl⟩
def f_X6_deal (s : hS) (a0 : Nat) : Option (Int32 × hS) :=
  (gR s a0 6 0).bind fun a1 =>
  (cV s a1 5 (f_X5_drawAll s a1)).bind fun p2 =>
  (gR p2.2 a0 6 0).bind fun a3 =>
  (cV p2.2 a3 5 (f_X5_knownTogether p2.2 a3)).bind fun p4 =>
  some (p4.1, p4.2)
theorem b_X6_deal_in (E : jE)  (s : hS) (a0 : Nat)  : Jo E M_X6_deal cvI 0 [(0, .ref a0)] [] s (f_X6_deal s a0) := by
  unfold f_X6_deal
  refine Jo_aloadn 0 dX6_deal_0 rfl rfl ?_
  refine Jo_getR fF_6_0 fR_6_0 dX6_deal_1 w_359 (fun a1 => ?_)
  refine Jo_callVv (a := a1) (rest := []) [] cc_5 yF_X5_drawAll yV_X5_drawAll w_418 rfl rfl ⟨Nat.le_of_ble_eq_true rfl, Nat.le_of_ble_eq_true rfl, Nat.le_of_ble_eq_true rfl⟩ dX6_deal_4 rfl (K_X5_drawAll E s a1) (fun p2 => ?_)
  refine Jo_aloadn 0 dX6_deal_7 rfl rfl ?_
  refine Jo_getR fF_6_0 fR_6_0 dX6_deal_8 w_359 (fun a3 => ?_)
  refine Jo_callVi (a := a3) (rest := []) [] cc_5 yF_X5_knownTogether yV_X5_knownTogether w_417 rfl rfl ⟨Nat.le_of_ble_eq_true rfl, Nat.le_of_ble_eq_true rfl, Nat.le_of_ble_eq_true rfl⟩ dX6_deal_11 rfl (K_X5_knownTogether E p2.2 a3) (fun p4 => ?_)
  exact Jo_iret rfl dX6_deal_14
theorem K_X6_deal (E : jE) (s : hS) (a0 : Nat) : jK E yX6_deal M_X6_deal cvI [.ref a0] s (f_X6_deal s a0) := jK_of ⟨by decide, rfl, rfl⟩ (Nat.le_of_ble_eq_true rfl) (b_X6_deal_in E s a0)
/-! HeronTalk.seed(I)I -/
abbrev M_X6_seed : jM := (RX6, cX6_seed, 3, (some .int), "seed", 0, 0)
theorem yF_X6_seed : yF yX6_seed M_X6_seed 1 := ⟨w_423, w_278, by decide +kernel⟩
theorem yV_X6_seed : Cond.instanceMethod yX6_seed ∈ tbG ∧ Cond.selects yX6_seed.cls yX6_seed yX6_seed ∈ tbG := ⟨w_424, w_425⟩
theorem dX6_seed_0 : dI cX6_seed 0 1 (.aload_n 0) 1 := ⟨by decide +kernel, rfl⟩
theorem dX6_seed_1 : dI cX6_seed 1 4 (.getfield 10) 3 := ⟨by decide +kernel, rfl⟩
theorem dX6_seed_4 : dI cX6_seed 4 7 (.getfield 137) 3 := ⟨by decide +kernel, rfl⟩
theorem dX6_seed_7 : dI cX6_seed 7 8 (.istore_n 2) 1 := ⟨by decide +kernel, rfl⟩
theorem dX6_seed_8 : dI cX6_seed 8 9 (.aload_n 0) 1 := ⟨by decide +kernel, rfl⟩
theorem dX6_seed_9 : dI cX6_seed 9 12 (.getfield 10) 3 := ⟨by decide +kernel, rfl⟩
theorem dX6_seed_12 : dI cX6_seed 12 13 (.iload_n 1) 1 := ⟨by decide +kernel, rfl⟩
theorem dX6_seed_13 : dI cX6_seed 13 16 (.putfield 137) 3 := ⟨by decide +kernel, rfl⟩
theorem dX6_seed_16 : dI cX6_seed 16 17 (.iload_n 2) 1 := ⟨by decide +kernel, rfl⟩
theorem dX6_seed_17 : dI cX6_seed 17 18 (.ireturn) 1 := ⟨by decide +kernel, rfl⟩
def f_X6_seed (s : hS) (a0 : Nat) (i1 : Int32) : Option (Int32 × hS) :=
  (gR s a0 6 0).bind fun a1 =>
  (gI s a1 5 7).bind fun x2 =>
  (gR s a0 6 0).bind fun a3 =>
  (pI s a3 5 7 i1).bind fun s4 =>
  some (x2, s4)
theorem b_X6_seed_in (E : jE)  (s : hS) (a0 : Nat) (i1 : Int32)  : Jo E M_X6_seed cvI 0 [(0, .ref a0), (1, .int i1)] [] s (f_X6_seed s a0 i1) := by
  unfold f_X6_seed
  refine Jo_aloadn 0 dX6_seed_0 rfl rfl ?_
  refine Jo_getR fF_6_0 fR_6_0 dX6_seed_1 w_359 (fun a1 => ?_)
  refine Jo_getI fF_5_7 fI_5_7 dX6_seed_4 w_422 (fun x2 => ?_)
  refine Jo_istoren (ls' := [(2, .int x2), (0, .ref a0), (1, .int i1)]) dX6_seed_7 rfl (by decide) rfl ?_
  refine Jo_aloadn 1 dX6_seed_8 rfl rfl ?_
  refine Jo_getR fF_6_0 fR_6_0 dX6_seed_9 w_359 (fun a3 => ?_)
  refine Jo_iloadn 2 dX6_seed_12 rfl rfl ?_
  refine Jo_putI fF_5_7 fI_5_7 (Or.inl rfl) rfl dX6_seed_13 w_422 (fun s4 => ?_)
  refine Jo_iloadn 0 dX6_seed_16 rfl rfl ?_
  exact Jo_iret rfl dX6_seed_17
theorem K_X6_seed (E : jE) (s : hS) (a0 : Nat) (i1 : Int32) : jK E yX6_seed M_X6_seed cvI [.ref a0, .int i1] s (f_X6_seed s a0 i1) := jK_of ⟨by decide, rfl, rfl⟩ (Nat.le_of_ble_eq_true rfl) (b_X6_seed_in E s a0 i1)
/-! HeronTalk.clock(I)I -/
abbrev M_X6_clock : jM := (RX6, cX6_clock, 3, (some .int), "clock", 1, 22)
theorem yF_X6_clock : yF yX6_clock M_X6_clock 1 := ⟨w_427, w_278, by decide +kernel⟩
theorem yV_X6_clock : Cond.instanceMethod yX6_clock ∈ tbG ∧ Cond.selects yX6_clock.cls yX6_clock yX6_clock ∈ tbG := ⟨w_428, w_429⟩
theorem dX6_clock_0 : dI cX6_clock 0 1 (.iload_n 1) 1 := ⟨by decide +kernel, rfl⟩
theorem dX6_clock_1 : dI cX6_clock 1 2 (.iconst 0) 1 := ⟨by decide +kernel, rfl⟩
theorem dX6_clock_2 : dI cX6_clock 2 5 (.sipush 999) 3 := ⟨by decide +kernel, rfl⟩
theorem dX6_clock_5 : decode cX6_clock 5 = .ok (.invokestatic 63, 3) := by decide +kernel
theorem dX6_clock_8 : decode cX6_clock 8 = .ok (.ifCond .eq 6, 3) := by decide +kernel
theorem dX6_clock_11 : dI cX6_clock 11 13 (.ldc 67) 2 := ⟨by decide +kernel, rfl⟩
theorem dX6_clock_13 : dI cX6_clock 13 14 (.ireturn) 1 := ⟨by decide +kernel, rfl⟩
theorem dX6_clock_14 : dI cX6_clock 14 15 (.aload_n 0) 1 := ⟨by decide +kernel, rfl⟩
theorem dX6_clock_15 : dI cX6_clock 15 18 (.getfield 10) 3 := ⟨by decide +kernel, rfl⟩
theorem dX6_clock_18 : dI cX6_clock 18 21 (.getfield 140) 3 := ⟨by decide +kernel, rfl⟩
theorem dX6_clock_21 : dI cX6_clock 21 22 (.istore_n 2) 1 := ⟨by decide +kernel, rfl⟩
theorem dX6_clock_22 : dI cX6_clock 22 23 (.aload_n 0) 1 := ⟨by decide +kernel, rfl⟩
theorem dX6_clock_23 : dI cX6_clock 23 26 (.getfield 10) 3 := ⟨by decide +kernel, rfl⟩
theorem dX6_clock_26 : dI cX6_clock 26 27 (.iload_n 1) 1 := ⟨by decide +kernel, rfl⟩
theorem dX6_clock_27 : dI cX6_clock 27 30 (.putfield 140) 3 := ⟨by decide +kernel, rfl⟩
theorem dX6_clock_30 : dI cX6_clock 30 31 (.iload_n 2) 1 := ⟨by decide +kernel, rfl⟩
theorem dX6_clock_31 : dI cX6_clock 31 32 (.ireturn) 1 := ⟨by decide +kernel, rfl⟩
def f_X6_clock (s : hS) (a0 : Nat) (i1 : Int32) : Option (Int32 × hS) :=
  (f_X6_isOutside s i1 (0 : Int32) (999 : Int32)).bind fun p1 =>
  if p1.1 = 0 then
    (gR p1.2 a0 6 0).bind fun a2 =>
    (gI p1.2 a2 5 5).bind fun x3 =>
    (gR p1.2 a0 6 0).bind fun a4 =>
    (pI p1.2 a4 5 5 i1).bind fun s5 =>
    some (x3, s5)
  else
    some ((-1000000001 : Int32), p1.2)
theorem b_X6_clock_in (E : jE)  (s : hS) (a0 : Nat) (i1 : Int32)  : Jo E M_X6_clock cvI 0 [(0, .ref a0), (1, .int i1)] [] s (f_X6_clock s a0 i1) := by
  unfold f_X6_clock
  refine Jo_iloadn 1 dX6_clock_0 rfl rfl ?_
  refine Jo_iconst (v := (0 : Int32)) dX6_clock_1 (by decide) ?_
  refine Jo_sipush (v := (999 : Int32)) dX6_clock_2 (by decide) ?_
  refine Jo_callSi (rest := []) [.int i1, .int (0 : Int32), .int (999 : Int32)] yF_X6_isOutside yS_X6_isOutside w_369 rfl rfl ⟨Nat.le_of_ble_eq_true rfl, Nat.le_of_ble_eq_true rfl, Nat.le_of_ble_eq_true rfl⟩ dX6_clock_5 rfl (K_X6_isOutside E s i1 (0 : Int32) (999 : Int32)) (fun p1 => ?_)
  refine Jo_if_eq 14 dX6_clock_8 (by decide) rfl ?_ ?_
  · refine Jo_aloadn 0 dX6_clock_14 rfl rfl ?_
    refine Jo_getR fF_6_0 fR_6_0 dX6_clock_15 w_359 (fun a2 => ?_)
    refine Jo_getI fF_5_5 fI_5_5 dX6_clock_18 w_426 (fun x3 => ?_)
    refine Jo_istoren (ls' := [(2, .int x3), (0, .ref a0), (1, .int i1)]) dX6_clock_21 rfl (by decide) rfl ?_
    refine Jo_aloadn 1 dX6_clock_22 rfl rfl ?_
    refine Jo_getR fF_6_0 fR_6_0 dX6_clock_23 w_359 (fun a4 => ?_)
    refine Jo_iloadn 2 dX6_clock_26 rfl rfl ?_
    refine Jo_putI fF_5_5 fI_5_5 (Or.inl rfl) rfl dX6_clock_27 w_426 (fun s5 => ?_)
    refine Jo_iloadn 0 dX6_clock_30 rfl rfl ?_
    exact Jo_iret rfl dX6_clock_31
  · refine Jo_ldc dX6_clock_11 w_368 ?_
    exact Jo_iret rfl dX6_clock_13
theorem K_X6_clock (E : jE) (s : hS) (a0 : Nat) (i1 : Int32) : jK E yX6_clock M_X6_clock cvI [.ref a0, .int i1] s (f_X6_clock s a0 i1) := jK_of ⟨by decide, rfl, rfl⟩ (Nat.le_of_ble_eq_true rfl) (b_X6_clock_in E s a0 i1)
/-! HeronTalk.isNoKind(I)Z -/
abbrev M_X6_isNoKind : jM := (RX6, cX6_isNoKind, 1, (some .boolean), "isNoKind", 0, 0)
theorem yF_X6_isNoKind : yF yX6_isNoKind M_X6_isNoKind 1 := ⟨w_430, w_278, by decide +kernel⟩
theorem yS_X6_isNoKind : Cond.static yX6_isNoKind ∈ tbG := w_431
theorem dX6_isNoKind_0 : dI cX6_isNoKind 0 1 (.iload_n 0) 1 := ⟨by decide +kernel, rfl⟩
theorem dX6_isNoKind_1 : decode cX6_isNoKind 1 = .ok (.ifCond .lt 9, 3) := by decide +kernel
theorem dX6_isNoKind_4 : dI cX6_isNoKind 4 5 (.iload_n 0) 1 := ⟨by decide +kernel, rfl⟩
theorem dX6_isNoKind_5 : dI cX6_isNoKind 5 7 (.bipush 6) 2 := ⟨by decide +kernel, rfl⟩
theorem dX6_isNoKind_7 : decode cX6_isNoKind 7 = .ok (.if_icmp .lt 7, 3) := by decide +kernel
theorem dX6_isNoKind_10 : dI cX6_isNoKind 10 11 (.iconst 1) 1 := ⟨by decide +kernel, rfl⟩
theorem dX6_isNoKind_11 : decode cX6_isNoKind 11 = .ok (.goto 4, 3) := by decide +kernel
theorem dX6_isNoKind_14 : dI cX6_isNoKind 14 15 (.iconst 0) 1 := ⟨by decide +kernel, rfl⟩
theorem dX6_isNoKind_15 : dI cX6_isNoKind 15 16 (.ireturn) 1 := ⟨by decide +kernel, rfl⟩
def f_X6_isNoKind_b10 (s : hS) : Option (Int32 × hS) :=
  some ((1 : Int32), s)
theorem b_X6_isNoKind_10 (E : jE)  (s : hS)   : Jo E M_X6_isNoKind cvI 10 [] [] s (f_X6_isNoKind_b10   s) := by
  unfold f_X6_isNoKind_b10
  refine Jo_iconst (v := (1 : Int32)) dX6_isNoKind_10 (by decide) ?_
  refine Jo_goto 15 dX6_isNoKind_11 (by decide) ?_
  exact Jo_zret1 rfl dX6_isNoKind_15
def f_X6_isNoKind (s : hS) (i0 : Int32) : Option (Int32 × hS) :=
  if i0 < 0 then
    f_X6_isNoKind_b10  s
  else
    if i0 < (6 : Int32) then
      some ((0 : Int32), s)
    else
      f_X6_isNoKind_b10  s
theorem b_X6_isNoKind_in (E : jE)  (s : hS) (i0 : Int32)  : Jo E M_X6_isNoKind cvI 0 [(0, .int i0)] [] s (f_X6_isNoKind s i0) := by
  unfold f_X6_isNoKind
  refine Jo_iloadn 0 dX6_isNoKind_0 rfl rfl ?_
  refine Jo_if_lt 10 dX6_isNoKind_1 (by decide) rfl ?_ ?_
  · refine Jo_sub [] rfl ?_
    exact b_X6_isNoKind_10 E s 
  · refine Jo_iloadn 0 dX6_isNoKind_4 rfl rfl ?_
    refine Jo_bipush (v := (6 : Int32)) dX6_isNoKind_5 (by decide) ?_
    refine Jo_icmp_lt 14 dX6_isNoKind_7 (by decide) rfl ?_ ?_
    · refine Jo_iconst (v := (0 : Int32)) dX6_isNoKind_14 (by decide) ?_
      exact Jo_zret0 rfl dX6_isNoKind_15
    · refine Jo_sub [] rfl ?_
      exact b_X6_isNoKind_10 E s 
theorem K_X6_isNoKind (E : jE) (s : hS) (i0 : Int32) : jK E yX6_isNoKind M_X6_isNoKind cvI [.int i0] s (f_X6_isNoKind s i0) := jK_of ⟨by decide, rfl, rfl⟩ (Nat.le_of_ble_eq_true rfl) (b_X6_isNoKind_in E s i0)
/-! HeronTalk.talk(III)I -/
abbrev M_X6_talk : jM := (RX6, cX6_talk, 4, (some .int), "talk", 1, 24)
theorem yF_X6_talk : yF yX6_talk M_X6_talk 3 := ⟨w_435, w_278, by decide +kernel⟩
theorem yV_X6_talk : Cond.instanceMethod yX6_talk ∈ tbG ∧ Cond.selects yX6_talk.cls yX6_talk yX6_talk ∈ tbG := ⟨w_436, w_437⟩
theorem dX6_talk_0 : dI cX6_talk 0 1 (.iload_n 1) 1 := ⟨by decide +kernel, rfl⟩
theorem dX6_talk_1 : decode cX6_talk 1 = .ok (.invokestatic 143, 3) := by decide +kernel
theorem dX6_talk_4 : decode cX6_talk 4 = .ok (.ifCond .ne 24, 3) := by decide +kernel
theorem dX6_talk_7 : dI cX6_talk 7 8 (.aload_n 0) 1 := ⟨by decide +kernel, rfl⟩
theorem dX6_talk_8 : dI cX6_talk 8 9 (.iload_n 2) 1 := ⟨by decide +kernel, rfl⟩
theorem dX6_talk_9 : decode cX6_talk 9 = .ok (.invokevirtual 99, 3) := by decide +kernel
theorem dX6_talk_12 : decode cX6_talk 12 = .ok (.ifCond .ne 16, 3) := by decide +kernel
theorem dX6_talk_15 : dI cX6_talk 15 16 (.aload_n 0) 1 := ⟨by decide +kernel, rfl⟩
theorem dX6_talk_16 : dI cX6_talk 16 17 (.iload_n 3) 1 := ⟨by decide +kernel, rfl⟩
theorem dX6_talk_17 : decode cX6_talk 17 = .ok (.invokevirtual 99, 3) := by decide +kernel
theorem dX6_talk_20 : decode cX6_talk 20 = .ok (.ifCond .ne 8, 3) := by decide +kernel
theorem dX6_talk_23 : dI cX6_talk 23 24 (.iload_n 2) 1 := ⟨by decide +kernel, rfl⟩
theorem dX6_talk_24 : dI cX6_talk 24 25 (.iload_n 3) 1 := ⟨by decide +kernel, rfl⟩
theorem dX6_talk_25 : decode cX6_talk 25 = .ok (.if_icmp .ne 6, 3) := by decide +kernel
theorem dX6_talk_28 : dI cX6_talk 28 30 (.ldc 67) 2 := ⟨by decide +kernel, rfl⟩
theorem dX6_talk_30 : dI cX6_talk 30 31 (.ireturn) 1 := ⟨by decide +kernel, rfl⟩
theorem dX6_talk_31 : dI cX6_talk 31 32 (.aload_n 0) 1 := ⟨by decide +kernel, rfl⟩
theorem dX6_talk_32 : dI cX6_talk 32 35 (.getfield 10) 3 := ⟨by decide +kernel, rfl⟩
theorem dX6_talk_35 : dI cX6_talk 35 38 (.getfield 146) 3 := ⟨by decide +kernel, rfl⟩
theorem dX6_talk_38 : dI cX6_talk 38 40 (.bipush 8) 2 := ⟨by decide +kernel, rfl⟩
theorem dX6_talk_40 : decode cX6_talk 40 = .ok (.if_icmp .lt 6, 3) := by decide +kernel
theorem dX6_talk_43 : dI cX6_talk 43 45 (.ldc 71) 2 := ⟨by decide +kernel, rfl⟩
theorem dX6_talk_45 : dI cX6_talk 45 46 (.ireturn) 1 := ⟨by decide +kernel, rfl⟩
theorem dX6_talk_46 : dI cX6_talk 46 47 (.aload_n 0) 1 := ⟨by decide +kernel, rfl⟩
theorem dX6_talk_47 : dI cX6_talk 47 50 (.getfield 10) 3 := ⟨by decide +kernel, rfl⟩
theorem dX6_talk_50 : dI cX6_talk 50 51 (.iload_n 1) 1 := ⟨by decide +kernel, rfl⟩
theorem dX6_talk_51 : dI cX6_talk 51 52 (.iload_n 2) 1 := ⟨by decide +kernel, rfl⟩
theorem dX6_talk_52 : dI cX6_talk 52 53 (.iload_n 3) 1 := ⟨by decide +kernel, rfl⟩
theorem dX6_talk_53 : decode cX6_talk 53 = .ok (.invokevirtual 149, 3) := by decide +kernel
theorem dX6_talk_56 : dI cX6_talk 56 57 (.ireturn) 1 := ⟨by decide +kernel, rfl⟩
def f_X6_talk (s : hS) (a0 : Nat) (i1 : Int32) (i2 : Int32) (i3 : Int32) : Option (Int32 × hS) :=
  (f_X6_isNoKind s i1).bind fun p1 =>
  if p1.1 = 0 then
    (cV p1.2 a0 6 (f_X6_isNobody p1.2 a0 i2)).bind fun p2 =>
    if p2.1 = 0 then
      (cV p2.2 a0 6 (f_X6_isNobody p2.2 a0 i3)).bind fun p3 =>
      if p3.1 = 0 then
        if i2 = i3 then
          some ((-1000000001 : Int32), p3.2)
        else
          (gR p3.2 a0 6 0).bind fun a4 =>
          (gI p3.2 a4 5 3).bind fun x5 =>
          if x5 < (8 : Int32) then
            (gR p3.2 a0 6 0).bind fun a6 =>
            (cV p3.2 a6 5 (f_X5_addTalk p3.2 a6 i1 i2 i3)).bind fun p7 =>
            some (p7.1, p7.2)
          else
            some ((-1000000003 : Int32), p3.2)
      else
        some ((-1000000001 : Int32), p3.2)
    else
      some ((-1000000001 : Int32), p2.2)
  else
    some ((-1000000001 : Int32), p1.2)
theorem b_X6_talk_in (E : jE)  (s : hS) (a0 : Nat) (i1 : Int32) (i2 : Int32) (i3 : Int32)  : Jo E M_X6_talk cvI 0 [(0, .ref a0), (1, .int i1), (2, .int i2), (3, .int i3)] [] s (f_X6_talk s a0 i1 i2 i3) := by
  unfold f_X6_talk
  refine Jo_iloadn 1 dX6_talk_0 rfl rfl ?_
  refine Jo_callSi (rest := []) [.int i1] yF_X6_isNoKind yS_X6_isNoKind w_434 rfl rfl ⟨Nat.le_of_ble_eq_true rfl, Nat.le_of_ble_eq_true rfl, Nat.le_of_ble_eq_true rfl⟩ dX6_talk_1 rfl (K_X6_isNoKind E s i1) (fun p1 => ?_)
  refine Jo_if_ne 28 dX6_talk_4 (by decide) rfl ?_ ?_
  · refine Jo_aloadn 0 dX6_talk_7 rfl rfl ?_
    refine Jo_iloadn 2 dX6_talk_8 rfl rfl ?_
    refine Jo_callVi (a := a0) (rest := []) [.int i2] cc_6 yF_X6_isNobody yV_X6_isNobody w_399 rfl rfl ⟨Nat.le_of_ble_eq_true rfl, Nat.le_of_ble_eq_true rfl, Nat.le_of_ble_eq_true rfl⟩ dX6_talk_9 rfl (K_X6_isNobody E p1.2 a0 i2) (fun p2 => ?_)
    refine Jo_if_ne 28 dX6_talk_12 (by decide) rfl ?_ ?_
    · refine Jo_aloadn 0 dX6_talk_15 rfl rfl ?_
      refine Jo_iloadn 3 dX6_talk_16 rfl rfl ?_
      refine Jo_callVi (a := a0) (rest := []) [.int i3] cc_6 yF_X6_isNobody yV_X6_isNobody w_399 rfl rfl ⟨Nat.le_of_ble_eq_true rfl, Nat.le_of_ble_eq_true rfl, Nat.le_of_ble_eq_true rfl⟩ dX6_talk_17 rfl (K_X6_isNobody E p2.2 a0 i3) (fun p3 => ?_)
      refine Jo_if_ne 28 dX6_talk_20 (by decide) rfl ?_ ?_
      · refine Jo_iloadn 2 dX6_talk_23 rfl rfl ?_
        refine Jo_iloadn 3 dX6_talk_24 rfl rfl ?_
        refine Jo_icmp_ne 31 dX6_talk_25 (by decide) rfl ?_ ?_
        · refine Jo_ldc dX6_talk_28 w_368 ?_
          exact Jo_iret rfl dX6_talk_30
        · refine Jo_aloadn 0 dX6_talk_31 rfl rfl ?_
          refine Jo_getR fF_6_0 fR_6_0 dX6_talk_32 w_359 (fun a4 => ?_)
          refine Jo_getI fF_5_3 fI_5_3 dX6_talk_35 w_433 (fun x5 => ?_)
          refine Jo_bipush (v := (8 : Int32)) dX6_talk_38 (by decide) ?_
          refine Jo_icmp_lt 46 dX6_talk_40 (by decide) rfl ?_ ?_
          · refine Jo_aloadn 0 dX6_talk_46 rfl rfl ?_
            refine Jo_getR fF_6_0 fR_6_0 dX6_talk_47 w_359 (fun a6 => ?_)
            refine Jo_iloadn 1 dX6_talk_50 rfl rfl ?_
            refine Jo_iloadn 2 dX6_talk_51 rfl rfl ?_
            refine Jo_iloadn 3 dX6_talk_52 rfl rfl ?_
            refine Jo_callVi (a := a6) (rest := []) [.int i1, .int i2, .int i3] cc_5 yF_X5_addTalk yV_X5_addTalk w_432 rfl rfl ⟨Nat.le_of_ble_eq_true rfl, Nat.le_of_ble_eq_true rfl, Nat.le_of_ble_eq_true rfl⟩ dX6_talk_53 rfl (K_X5_addTalk E p3.2 a6 i1 i2 i3) (fun p7 => ?_)
            exact Jo_iret rfl dX6_talk_56
          · refine Jo_ldc dX6_talk_43 w_366 ?_
            exact Jo_iret rfl dX6_talk_45
      · refine Jo_ldc dX6_talk_28 w_368 ?_
        exact Jo_iret rfl dX6_talk_30
    · refine Jo_ldc dX6_talk_28 w_368 ?_
      exact Jo_iret rfl dX6_talk_30
  · refine Jo_ldc dX6_talk_28 w_368 ?_
    exact Jo_iret rfl dX6_talk_30
theorem K_X6_talk (E : jE) (s : hS) (a0 : Nat) (i1 : Int32) (i2 : Int32) (i3 : Int32) : jK E yX6_talk M_X6_talk cvI [.ref a0, .int i1, .int i2, .int i3] s (f_X6_talk s a0 i1 i2 i3) := jK_of ⟨by decide, rfl, rfl⟩ (Nat.le_of_ble_eq_true rfl) (b_X6_talk_in E s a0 i1 i2 i3)
/-! HeronTalk.isNoTalk(I)Z -/
abbrev M_X6_isNoTalk : jM := (RX6, cX6_isNoTalk, 2, (some .boolean), "isNoTalk", 0, 0)
theorem yF_X6_isNoTalk : yF yX6_isNoTalk M_X6_isNoTalk 1 := ⟨w_438, w_278, by decide +kernel⟩
theorem yV_X6_isNoTalk : Cond.instanceMethod yX6_isNoTalk ∈ tbG ∧ Cond.selects yX6_isNoTalk.cls yX6_isNoTalk yX6_isNoTalk ∈ tbG := ⟨w_439, w_440⟩
theorem dX6_isNoTalk_0 : dI cX6_isNoTalk 0 1 (.iload_n 1) 1 := ⟨by decide +kernel, rfl⟩
theorem dX6_isNoTalk_1 : decode cX6_isNoTalk 1 = .ok (.ifCond .lt 14, 3) := by decide +kernel
theorem dX6_isNoTalk_4 : dI cX6_isNoTalk 4 5 (.iload_n 1) 1 := ⟨by decide +kernel, rfl⟩
theorem dX6_isNoTalk_5 : dI cX6_isNoTalk 5 6 (.aload_n 0) 1 := ⟨by decide +kernel, rfl⟩
theorem dX6_isNoTalk_6 : dI cX6_isNoTalk 6 9 (.getfield 10) 3 := ⟨by decide +kernel, rfl⟩
theorem dX6_isNoTalk_9 : dI cX6_isNoTalk 9 12 (.getfield 146) 3 := ⟨by decide +kernel, rfl⟩
theorem dX6_isNoTalk_12 : decode cX6_isNoTalk 12 = .ok (.if_icmp .lt 7, 3) := by decide +kernel
theorem dX6_isNoTalk_15 : dI cX6_isNoTalk 15 16 (.iconst 1) 1 := ⟨by decide +kernel, rfl⟩
theorem dX6_isNoTalk_16 : decode cX6_isNoTalk 16 = .ok (.goto 4, 3) := by decide +kernel
theorem dX6_isNoTalk_19 : dI cX6_isNoTalk 19 20 (.iconst 0) 1 := ⟨by decide +kernel, rfl⟩
theorem dX6_isNoTalk_20 : dI cX6_isNoTalk 20 21 (.ireturn) 1 := ⟨by decide +kernel, rfl⟩
def f_X6_isNoTalk_b15 (s : hS) : Option (Int32 × hS) :=
  some ((1 : Int32), s)
theorem b_X6_isNoTalk_15 (E : jE)  (s : hS)   : Jo E M_X6_isNoTalk cvI 15 [] [] s (f_X6_isNoTalk_b15   s) := by
  unfold f_X6_isNoTalk_b15
  refine Jo_iconst (v := (1 : Int32)) dX6_isNoTalk_15 (by decide) ?_
  refine Jo_goto 20 dX6_isNoTalk_16 (by decide) ?_
  exact Jo_zret1 rfl dX6_isNoTalk_20
def f_X6_isNoTalk (s : hS) (a0 : Nat) (i1 : Int32) : Option (Int32 × hS) :=
  if i1 < 0 then
    f_X6_isNoTalk_b15  s
  else
    (gR s a0 6 0).bind fun a1 =>
    (gI s a1 5 3).bind fun x2 =>
    if i1 < x2 then
      some ((0 : Int32), s)
    else
      f_X6_isNoTalk_b15  s
theorem b_X6_isNoTalk_in (E : jE)  (s : hS) (a0 : Nat) (i1 : Int32)  : Jo E M_X6_isNoTalk cvI 0 [(0, .ref a0), (1, .int i1)] [] s (f_X6_isNoTalk s a0 i1) := by
  unfold f_X6_isNoTalk
  refine Jo_iloadn 1 dX6_isNoTalk_0 rfl rfl ?_
  refine Jo_if_lt 15 dX6_isNoTalk_1 (by decide) rfl ?_ ?_
  · refine Jo_sub [] rfl ?_
    exact b_X6_isNoTalk_15 E s 
  · refine Jo_iloadn 1 dX6_isNoTalk_4 rfl rfl ?_
    refine Jo_aloadn 0 dX6_isNoTalk_5 rfl rfl ?_
    refine Jo_getR fF_6_0 fR_6_0 dX6_isNoTalk_6 w_359 (fun a1 => ?_)
    refine Jo_getI fF_5_3 fI_5_3 dX6_isNoTalk_9 w_433 (fun x2 => ?_)
    refine Jo_icmp_lt 19 dX6_isNoTalk_12 (by decide) rfl ?_ ?_
    · refine Jo_iconst (v := (0 : Int32)) dX6_isNoTalk_19 (by decide) ?_
      exact Jo_zret0 rfl dX6_isNoTalk_20
    · refine Jo_sub [] rfl ?_
      exact b_X6_isNoTalk_15 E s 
theorem K_X6_isNoTalk (E : jE) (s : hS) (a0 : Nat) (i1 : Int32) : jK E yX6_isNoTalk M_X6_isNoTalk cvI [.ref a0, .int i1] s (f_X6_isNoTalk s a0 i1) := jK_of ⟨by decide, rfl, rfl⟩ (Nat.le_of_ble_eq_true rfl) (b_X6_isNoTalk_in E s a0 i1)
/-! HeronTalk.orNone(I)I -/
abbrev M_X6_orNone : jM := (RX6, cX6_orNone, 1, (some .int), "orNone", 0, 0)
theorem yF_X6_orNone : yF yX6_orNone M_X6_orNone 1 := ⟨w_442, w_278, by decide +kernel⟩
theorem yS_X6_orNone : Cond.static yX6_orNone ∈ tbG := w_443
theorem dX6_orNone_0 : dI cX6_orNone 0 1 (.iload_n 0) 1 := ⟨by decide +kernel, rfl⟩
theorem dX6_orNone_1 : dI cX6_orNone 1 2 (.iconst (-1)) 1 := ⟨by decide +kernel, rfl⟩
theorem dX6_orNone_2 : decode cX6_orNone 2 = .ok (.if_icmp .ne 8, 3) := by decide +kernel
theorem dX6_orNone_5 : dI cX6_orNone 5 7 (.ldc 203) 2 := ⟨by decide +kernel, rfl⟩
theorem dX6_orNone_7 : decode cX6_orNone 7 = .ok (.goto 4, 3) := by decide +kernel
theorem dX6_orNone_10 : dI cX6_orNone 10 11 (.iload_n 0) 1 := ⟨by decide +kernel, rfl⟩
theorem dX6_orNone_11 : dI cX6_orNone 11 12 (.ireturn) 1 := ⟨by decide +kernel, rfl⟩
def f_X6_orNone (s : hS) (i0 : Int32) : Option (Int32 × hS) :=
  if i0 = (-1 : Int32) then
    some ((-1000000005 : Int32), s)
  else
    some (i0, s)
theorem b_X6_orNone_in (E : jE)  (s : hS) (i0 : Int32)  : Jo E M_X6_orNone cvI 0 [(0, .int i0)] [] s (f_X6_orNone s i0) := by
  unfold f_X6_orNone
  refine Jo_iloadn 0 dX6_orNone_0 rfl rfl ?_
  refine Jo_iconst (v := (-1 : Int32)) dX6_orNone_1 (by decide) ?_
  refine Jo_icmp_ne 10 dX6_orNone_2 (by decide) rfl ?_ ?_
  · refine Jo_ldc dX6_orNone_5 w_441 ?_
    refine Jo_goto 11 dX6_orNone_7 (by decide) ?_
    exact Jo_iret rfl dX6_orNone_11
  · refine Jo_iloadn 0 dX6_orNone_10 rfl rfl ?_
    exact Jo_iret rfl dX6_orNone_11
theorem K_X6_orNone (E : jE) (s : hS) (i0 : Int32) : jK E yX6_orNone M_X6_orNone cvI [.int i0] s (f_X6_orNone s i0) := jK_of ⟨by decide, rfl, rfl⟩ (Nat.le_of_ble_eq_true rfl) (b_X6_orNone_in E s i0)
/-! HeronTalk.told(II)I -/
abbrev M_X6_told : jM := (RX6, cX6_told, 8, (some .int), "told", 6, 150)
theorem yF_X6_told : yF yX6_told M_X6_told 2 := ⟨w_453, w_278, by decide +kernel⟩
theorem yV_X6_told : Cond.instanceMethod yX6_told ∈ tbG ∧ Cond.selects yX6_told.cls yX6_told yX6_told ∈ tbG := ⟨w_454, w_455⟩
theorem dX6_told_0 : dI cX6_told 0 1 (.aload_n 0) 1 := ⟨by decide +kernel, rfl⟩
theorem dX6_told_1 : dI cX6_told 1 2 (.iload_n 1) 1 := ⟨by decide +kernel, rfl⟩
theorem dX6_told_2 : decode cX6_told 2 = .ok (.invokevirtual 152, 3) := by decide +kernel
theorem dX6_told_5 : decode cX6_told 5 = .ok (.ifCond .eq 6, 3) := by decide +kernel
theorem dX6_told_8 : dI cX6_told 8 10 (.ldc 67) 2 := ⟨by decide +kernel, rfl⟩
theorem dX6_told_10 : dI cX6_told 10 11 (.ireturn) 1 := ⟨by decide +kernel, rfl⟩
theorem dX6_told_11 : dI cX6_told 11 12 (.aload_n 0) 1 := ⟨by decide +kernel, rfl⟩
theorem dX6_told_12 : dI cX6_told 12 15 (.getfield 10) 3 := ⟨by decide +kernel, rfl⟩
theorem dX6_told_15 : dI cX6_told 15 18 (.getfield 155) 3 := ⟨by decide +kernel, rfl⟩
theorem dX6_told_18 : dI cX6_told 18 19 (.iload_n 1) 1 := ⟨by decide +kernel, rfl⟩
theorem dX6_told_19 : dI cX6_told 19 20 (.iaload) 1 := ⟨by decide +kernel, rfl⟩
theorem dX6_told_20 : dI cX6_told 20 21 (.istore_n 3) 1 := ⟨by decide +kernel, rfl⟩
theorem dX6_told_21 : dI cX6_told 21 22 (.aload_n 0) 1 := ⟨by decide +kernel, rfl⟩
theorem dX6_told_22 : dI cX6_told 22 25 (.getfield 10) 3 := ⟨by decide +kernel, rfl⟩
theorem dX6_told_25 : dI cX6_told 25 28 (.getfield 158) 3 := ⟨by decide +kernel, rfl⟩
theorem dX6_told_28 : dI cX6_told 28 29 (.iload_n 1) 1 := ⟨by decide +kernel, rfl⟩
theorem dX6_told_29 : dI cX6_told 29 30 (.iaload) 1 := ⟨by decide +kernel, rfl⟩
theorem dX6_told_30 : dI cX6_told 30 32 (.istore 4) 2 := ⟨by decide +kernel, rfl⟩
theorem dX6_told_32 : dI cX6_told 32 33 (.aload_n 0) 1 := ⟨by decide +kernel, rfl⟩
theorem dX6_told_33 : dI cX6_told 33 36 (.getfield 10) 3 := ⟨by decide +kernel, rfl⟩
theorem dX6_told_36 : dI cX6_told 36 39 (.getfield 161) 3 := ⟨by decide +kernel, rfl⟩
theorem dX6_told_39 : dI cX6_told 39 40 (.iload_n 1) 1 := ⟨by decide +kernel, rfl⟩
theorem dX6_told_40 : dI cX6_told 40 41 (.iaload) 1 := ⟨by decide +kernel, rfl⟩
theorem dX6_told_41 : dI cX6_told 41 43 (.istore 5) 2 := ⟨by decide +kernel, rfl⟩
theorem dX6_told_43 : dI cX6_told 43 44 (.aload_n 0) 1 := ⟨by decide +kernel, rfl⟩
theorem dX6_told_44 : dI cX6_told 44 47 (.getfield 10) 3 := ⟨by decide +kernel, rfl⟩
theorem dX6_told_47 : dI cX6_told 47 48 (.iload_n 3) 1 := ⟨by decide +kernel, rfl⟩
theorem dX6_told_48 : dI cX6_told 48 50 (.iload 4) 2 := ⟨by decide +kernel, rfl⟩
theorem dX6_told_50 : dI cX6_told 50 52 (.iload 5) 2 := ⟨by decide +kernel, rfl⟩
theorem dX6_told_52 : decode cX6_told 52 = .ok (.invokevirtual 164, 3) := by decide +kernel
theorem dX6_told_55 : dI cX6_told 55 57 (.istore 6) 2 := ⟨by decide +kernel, rfl⟩
theorem dX6_told_57 : dI cX6_told 57 58 (.aload_n 0) 1 := ⟨by decide +kernel, rfl⟩
theorem dX6_told_58 : dI cX6_told 58 61 (.getfield 10) 3 := ⟨by decide +kernel, rfl⟩
theorem dX6_told_61 : dI cX6_told 61 62 (.iload_n 3) 1 := ⟨by decide +kernel, rfl⟩
theorem dX6_told_62 : dI cX6_told 62 64 (.iload 4) 2 := ⟨by decide +kernel, rfl⟩
theorem dX6_told_64 : dI cX6_told 64 66 (.iload 5) 2 := ⟨by decide +kernel, rfl⟩
theorem dX6_told_66 : dI cX6_told 66 68 (.iload 6) 2 := ⟨by decide +kernel, rfl⟩
theorem dX6_told_68 : decode cX6_told 68 = .ok (.invokevirtual 167, 3) := by decide +kernel
theorem dX6_told_71 : dI cX6_told 71 73 (.istore 7) 2 := ⟨by decide +kernel, rfl⟩
theorem dX6_told_73 : dI cX6_told 73 74 (.iload_n 2) 1 := ⟨by decide +kernel, rfl⟩
theorem dX6_told_74 : decode cX6_told 74 = .ok (.tableswitch 92 0 6 #[42, 44, 47, 50, 56, 62, 79], 42) := by decide +kernel
theorem dX6_told_116 : dI cX6_told 116 117 (.iload_n 3) 1 := ⟨by decide +kernel, rfl⟩
theorem dX6_told_117 : dI cX6_told 117 118 (.ireturn) 1 := ⟨by decide +kernel, rfl⟩
theorem dX6_told_118 : dI cX6_told 118 120 (.iload 4) 2 := ⟨by decide +kernel, rfl⟩
theorem dX6_told_120 : dI cX6_told 120 121 (.ireturn) 1 := ⟨by decide +kernel, rfl⟩
theorem dX6_told_121 : dI cX6_told 121 123 (.iload 5) 2 := ⟨by decide +kernel, rfl⟩
theorem dX6_told_123 : dI cX6_told 123 124 (.ireturn) 1 := ⟨by decide +kernel, rfl⟩
theorem dX6_told_124 : dI cX6_told 124 126 (.iload 6) 2 := ⟨by decide +kernel, rfl⟩
theorem dX6_told_126 : decode cX6_told 126 = .ok (.invokestatic 171, 3) := by decide +kernel
theorem dX6_told_129 : dI cX6_told 129 130 (.ireturn) 1 := ⟨by decide +kernel, rfl⟩
theorem dX6_told_130 : dI cX6_told 130 132 (.iload 7) 2 := ⟨by decide +kernel, rfl⟩
theorem dX6_told_132 : decode cX6_told 132 = .ok (.invokestatic 171, 3) := by decide +kernel
theorem dX6_told_135 : dI cX6_told 135 136 (.ireturn) 1 := ⟨by decide +kernel, rfl⟩
theorem dX6_told_136 : dI cX6_told 136 137 (.iload_n 3) 1 := ⟨by decide +kernel, rfl⟩
theorem dX6_told_137 : dI cX6_told 137 139 (.iload 6) 2 := ⟨by decide +kernel, rfl⟩
theorem dX6_told_139 : dI cX6_told 139 141 (.iload 7) 2 := ⟨by decide +kernel, rfl⟩
theorem dX6_told_141 : decode cX6_told 141 = .ok (.invokestatic 174, 3) := by decide +kernel
theorem dX6_told_144 : decode cX6_told 144 = .ok (.ifCond .eq 7, 3) := by decide +kernel
theorem dX6_told_147 : dI cX6_told 147 148 (.iconst 1) 1 := ⟨by decide +kernel, rfl⟩
theorem dX6_told_148 : decode cX6_told 148 = .ok (.goto 4, 3) := by decide +kernel
theorem dX6_told_151 : dI cX6_told 151 152 (.iconst 0) 1 := ⟨by decide +kernel, rfl⟩
theorem dX6_told_152 : dI cX6_told 152 153 (.ireturn) 1 := ⟨by decide +kernel, rfl⟩
theorem dX6_told_153 : dI cX6_told 153 154 (.aload_n 0) 1 := ⟨by decide +kernel, rfl⟩
theorem dX6_told_154 : dI cX6_told 154 157 (.getfield 10) 3 := ⟨by decide +kernel, rfl⟩
theorem dX6_told_157 : dI cX6_told 157 158 (.iload_n 3) 1 := ⟨by decide +kernel, rfl⟩
theorem dX6_told_158 : dI cX6_told 158 160 (.iload 4) 2 := ⟨by decide +kernel, rfl⟩
theorem dX6_told_160 : dI cX6_told 160 162 (.iload 5) 2 := ⟨by decide +kernel, rfl⟩
theorem dX6_told_162 : decode cX6_told 162 = .ok (.invokevirtual 177, 3) := by decide +kernel
theorem dX6_told_165 : dI cX6_told 165 166 (.ireturn) 1 := ⟨by decide +kernel, rfl⟩
theorem dX6_told_166 : dI cX6_told 166 168 (.ldc 67) 2 := ⟨by decide +kernel, rfl⟩
theorem dX6_told_168 : dI cX6_told 168 169 (.ireturn) 1 := ⟨by decide +kernel, rfl⟩
def f_X6_told (s : hS) (a0 : Nat) (i1 : Int32) (i2 : Int32) : Option (Int32 × hS) :=
  (cV s a0 6 (f_X6_isNoTalk s a0 i1)).bind fun p1 =>
  if p1.1 = 0 then
    (gR p1.2 a0 6 0).bind fun a2 =>
    (gR p1.2 a2 5 14).bind fun a3 =>
    (aI p1.2 a3 10 i1).bind fun x4 =>
    (gR p1.2 a0 6 0).bind fun a5 =>
    (gR p1.2 a5 5 15).bind fun a6 =>
    (aI p1.2 a6 10 i1).bind fun x7 =>
    (gR p1.2 a0 6 0).bind fun a8 =>
    (gR p1.2 a8 5 16).bind fun a9 =>
    (aI p1.2 a9 10 i1).bind fun x10 =>
    (gR p1.2 a0 6 0).bind fun a11 =>
    (cV p1.2 a11 5 (f_X5_givenOf p1.2 a11 x4 x7 x10)).bind fun p12 =>
    (gR p12.2 a0 6 0).bind fun a13 =>
    (cV p12.2 a13 5 (f_X5_gotOf p12.2 a13 x4 x7 x10 p12.1)).bind fun p14 =>
    if i2 = (0 : Int32) then
      some (x4, p14.2)
    else
    if i2 = (1 : Int32) then
      some (x7, p14.2)
    else
    if i2 = (2 : Int32) then
      some (x10, p14.2)
    else
    if i2 = (3 : Int32) then
      (f_X6_orNone p14.2 p12.1).bind fun p19 =>
      some (p19.1, p19.2)
    else
    if i2 = (4 : Int32) then
      (f_X6_orNone p14.2 p14.1).bind fun p21 =>
      some (p21.1, p21.2)
    else
    if i2 = (5 : Int32) then
      (f_X6_goes p14.2 x4 p12.1 p14.1).bind fun p23 =>
      if p23.1 = 0 then
        some ((0 : Int32), p23.2)
      else
        some ((1 : Int32), p23.2)
    else
    if i2 = (6 : Int32) then
      (gR p14.2 a0 6 0).bind fun a25 =>
      (cV p14.2 a25 5 (f_X5_worthOf p14.2 a25 x4 x7 x10)).bind fun p26 =>
      some (p26.1, p26.2)
    else
    some ((-1000000001 : Int32), p14.2)
  else
    some ((-1000000001 : Int32), p1.2)
theorem b_X6_told_in (E : jE)  (s : hS) (a0 : Nat) (i1 : Int32) (i2 : Int32)  : Jo E M_X6_told cvI 0 [(0, .ref a0), (1, .int i1), (2, .int i2)] [] s (f_X6_told s a0 i1 i2) := by
  unfold f_X6_told
  refine Jo_aloadn 0 dX6_told_0 rfl rfl ?_
  refine Jo_iloadn 1 dX6_told_1 rfl rfl ?_
  refine Jo_callVi (a := a0) (rest := []) [.int i1] cc_6 yF_X6_isNoTalk yV_X6_isNoTalk w_452 rfl rfl ⟨Nat.le_of_ble_eq_true rfl, Nat.le_of_ble_eq_true rfl, Nat.le_of_ble_eq_true rfl⟩ dX6_told_2 rfl (K_X6_isNoTalk E s a0 i1) (fun p1 => ?_)
  refine Jo_if_eq 11 dX6_told_5 (by decide) rfl ?_ ?_
  · refine Jo_aloadn 0 dX6_told_11 rfl rfl ?_
    refine Jo_getR fF_6_0 fR_6_0 dX6_told_12 w_359 (fun a2 => ?_)
    refine Jo_getR fF_5_14 fR_5_14 dX6_told_15 w_451 (fun a3 => ?_)
    refine Jo_iloadn 1 dX6_told_18 rfl rfl ?_
    refine Jo_iaload dX6_told_19 (fun x4 => ?_)
    refine Jo_istoren (ls' := [(3, .int x4), (0, .ref a0), (1, .int i1), (2, .int i2)]) dX6_told_20 rfl (by decide) rfl ?_
    refine Jo_aloadn 1 dX6_told_21 rfl rfl ?_
    refine Jo_getR fF_6_0 fR_6_0 dX6_told_22 w_359 (fun a5 => ?_)
    refine Jo_getR fF_5_15 fR_5_15 dX6_told_25 w_450 (fun a6 => ?_)
    refine Jo_iloadn 2 dX6_told_28 rfl rfl ?_
    refine Jo_iaload dX6_told_29 (fun x7 => ?_)
    refine Jo_istore (ls' := [(4, .int x7), (3, .int x4), (0, .ref a0), (1, .int i1), (2, .int i2)]) dX6_told_30 (by decide) rfl ?_
    refine Jo_aloadn 2 dX6_told_32 rfl rfl ?_
    refine Jo_getR fF_6_0 fR_6_0 dX6_told_33 w_359 (fun a8 => ?_)
    refine Jo_getR fF_5_16 fR_5_16 dX6_told_36 w_449 (fun a9 => ?_)
    refine Jo_iloadn 3 dX6_told_39 rfl rfl ?_
    refine Jo_iaload dX6_told_40 (fun x10 => ?_)
    refine Jo_istore (ls' := [(5, .int x10), (4, .int x7), (3, .int x4), (0, .ref a0), (1, .int i1), (2, .int i2)]) dX6_told_41 (by decide) rfl ?_
    refine Jo_aloadn 3 dX6_told_43 rfl rfl ?_
    refine Jo_getR fF_6_0 fR_6_0 dX6_told_44 w_359 (fun a11 => ?_)
    refine Jo_iloadn 2 dX6_told_47 rfl rfl ?_
    refine Jo_iload 1 dX6_told_48 rfl ?_
    refine Jo_iload 0 dX6_told_50 rfl ?_
    refine Jo_callVi (a := a11) (rest := []) [.int x4, .int x7, .int x10] cc_5 yF_X5_givenOf yV_X5_givenOf w_448 rfl rfl ⟨Nat.le_of_ble_eq_true rfl, Nat.le_of_ble_eq_true rfl, Nat.le_of_ble_eq_true rfl⟩ dX6_told_52 rfl (K_X5_givenOf E p1.2 a11 x4 x7 x10) (fun p12 => ?_)
    refine Jo_istore (ls' := [(6, .int p12.1), (5, .int x10), (4, .int x7), (3, .int x4), (0, .ref a0), (1, .int i1), (2, .int i2)]) dX6_told_55 (by decide) rfl ?_
    refine Jo_aloadn 4 dX6_told_57 rfl rfl ?_
    refine Jo_getR fF_6_0 fR_6_0 dX6_told_58 w_359 (fun a13 => ?_)
    refine Jo_iloadn 3 dX6_told_61 rfl rfl ?_
    refine Jo_iload 2 dX6_told_62 rfl ?_
    refine Jo_iload 1 dX6_told_64 rfl ?_
    refine Jo_iload 0 dX6_told_66 rfl ?_
    refine Jo_callVi (a := a13) (rest := []) [.int x4, .int x7, .int x10, .int p12.1] cc_5 yF_X5_gotOf yV_X5_gotOf w_447 rfl rfl ⟨Nat.le_of_ble_eq_true rfl, Nat.le_of_ble_eq_true rfl, Nat.le_of_ble_eq_true rfl⟩ dX6_told_68 rfl (K_X5_gotOf E p12.2 a13 x4 x7 x10 p12.1) (fun p14 => ?_)
    refine Jo_istore (ls' := [(7, .int p14.1), (6, .int p12.1), (5, .int x10), (4, .int x7), (3, .int x4), (0, .ref a0), (1, .int i1), (2, .int i2)]) dX6_told_71 (by decide) rfl ?_
    refine Jo_iloadn 7 dX6_told_73 rfl rfl ?_
    refine Jo_case ?_ (fun g15 => ?_)
    · refine Jo_tabIn (off := 42) 116 dX6_told_74 (by decide) (by decide) (by decide) (by decide) ?_
      refine Jo_iloadn 4 dX6_told_116 rfl rfl ?_
      exact Jo_iret rfl dX6_told_117
    refine Jo_case ?_ (fun g16 => ?_)
    · refine Jo_tabIn (off := 44) 118 dX6_told_74 (by decide) (by decide) (by decide) (by decide) ?_
      refine Jo_iload 3 dX6_told_118 rfl ?_
      exact Jo_iret rfl dX6_told_120
    refine Jo_case ?_ (fun g17 => ?_)
    · refine Jo_tabIn (off := 47) 121 dX6_told_74 (by decide) (by decide) (by decide) (by decide) ?_
      refine Jo_iload 2 dX6_told_121 rfl ?_
      exact Jo_iret rfl dX6_told_123
    refine Jo_case ?_ (fun g18 => ?_)
    · refine Jo_tabIn (off := 50) 124 dX6_told_74 (by decide) (by decide) (by decide) (by decide) ?_
      refine Jo_iload 1 dX6_told_124 rfl ?_
      refine Jo_callSi (rest := []) [.int p12.1] yF_X6_orNone yS_X6_orNone w_444 rfl rfl ⟨Nat.le_of_ble_eq_true rfl, Nat.le_of_ble_eq_true rfl, Nat.le_of_ble_eq_true rfl⟩ dX6_told_126 rfl (K_X6_orNone E p14.2 p12.1) (fun p19 => ?_)
      exact Jo_iret rfl dX6_told_129
    refine Jo_case ?_ (fun g20 => ?_)
    · refine Jo_tabIn (off := 56) 130 dX6_told_74 (by decide) (by decide) (by decide) (by decide) ?_
      refine Jo_iload 0 dX6_told_130 rfl ?_
      refine Jo_callSi (rest := []) [.int p14.1] yF_X6_orNone yS_X6_orNone w_444 rfl rfl ⟨Nat.le_of_ble_eq_true rfl, Nat.le_of_ble_eq_true rfl, Nat.le_of_ble_eq_true rfl⟩ dX6_told_132 rfl (K_X6_orNone E p14.2 p14.1) (fun p21 => ?_)
      exact Jo_iret rfl dX6_told_135
    refine Jo_case ?_ (fun g22 => ?_)
    · refine Jo_tabIn (off := 62) 136 dX6_told_74 (by decide) (by decide) (by decide) (by decide) ?_
      refine Jo_iloadn 4 dX6_told_136 rfl rfl ?_
      refine Jo_iload 1 dX6_told_137 rfl ?_
      refine Jo_iload 0 dX6_told_139 rfl ?_
      refine Jo_callSi (rest := []) [.int x4, .int p12.1, .int p14.1] yF_X6_goes yS_X6_goes w_445 rfl rfl ⟨Nat.le_of_ble_eq_true rfl, Nat.le_of_ble_eq_true rfl, Nat.le_of_ble_eq_true rfl⟩ dX6_told_141 rfl (K_X6_goes E p14.2 x4 p12.1 p14.1) (fun p23 => ?_)
      refine Jo_if_eq 151 dX6_told_144 (by decide) rfl ?_ ?_
      · refine Jo_iconst (v := (0 : Int32)) dX6_told_151 (by decide) ?_
        exact Jo_iret rfl dX6_told_152
      · refine Jo_iconst (v := (1 : Int32)) dX6_told_147 (by decide) ?_
        refine Jo_goto 152 dX6_told_148 (by decide) ?_
        exact Jo_iret rfl dX6_told_152
    refine Jo_case ?_ (fun g24 => ?_)
    · refine Jo_tabIn (off := 79) 153 dX6_told_74 (by decide) (by decide) (by decide) (by decide) ?_
      refine Jo_aloadn 5 dX6_told_153 rfl rfl ?_
      refine Jo_getR fF_6_0 fR_6_0 dX6_told_154 w_359 (fun a25 => ?_)
      refine Jo_iloadn 4 dX6_told_157 rfl rfl ?_
      refine Jo_iload 3 dX6_told_158 rfl ?_
      refine Jo_iload 2 dX6_told_160 rfl ?_
      refine Jo_callVi (a := a25) (rest := []) [.int x4, .int x7, .int x10] cc_5 yF_X5_worthOf yV_X5_worthOf w_446 rfl rfl ⟨Nat.le_of_ble_eq_true rfl, Nat.le_of_ble_eq_true rfl, Nat.le_of_ble_eq_true rfl⟩ dX6_told_162 rfl (K_X5_worthOf E p14.2 a25 x4 x7 x10) (fun p26 => ?_)
      exact Jo_iret rfl dX6_told_165
    refine Jo_tabOut 166 dX6_told_74 (by have qg15 := i32ne 0 (by decide) g15; have qg16 := i32ne 1 (by decide) g16; have qg17 := i32ne 2 (by decide) g17; have qg18 := i32ne 3 (by decide) g18; have qg20 := i32ne 4 (by decide) g20; have qg22 := i32ne 5 (by decide) g22; have qg24 := i32ne 6 (by decide) g24; omega) (by decide) ?_
    refine Jo_ldc dX6_told_166 w_368 ?_
    exact Jo_iret rfl dX6_told_168
  · refine Jo_ldc dX6_told_8 w_368 ?_
    exact Jo_iret rfl dX6_told_10
theorem K_X6_told (E : jE) (s : hS) (a0 : Nat) (i1 : Int32) (i2 : Int32) : jK E yX6_told M_X6_told cvI [.ref a0, .int i1, .int i2] s (f_X6_told s a0 i1 i2) := jK_of ⟨by decide, rfl, rfl⟩ (Nat.le_of_ble_eq_true rfl) (b_X6_told_in E s a0 i1 i2)
/-! HeronTalk.as(II)I -/
abbrev M_X6_as : jM := (RX6, cX6_as, 3, (some .int), "as", 1, 23)
theorem yF_X6_as : yF yX6_as M_X6_as 2 := ⟨w_457, w_278, by decide +kernel⟩
theorem yV_X6_as : Cond.instanceMethod yX6_as ∈ tbG ∧ Cond.selects yX6_as.cls yX6_as yX6_as ∈ tbG := ⟨w_458, w_459⟩
theorem dX6_as_0 : dI cX6_as 0 1 (.aload_n 0) 1 := ⟨by decide +kernel, rfl⟩
theorem dX6_as_1 : dI cX6_as 1 2 (.iload_n 1) 1 := ⟨by decide +kernel, rfl⟩
theorem dX6_as_2 : decode cX6_as 2 = .ok (.invokevirtual 152, 3) := by decide +kernel
theorem dX6_as_5 : decode cX6_as 5 = .ok (.ifCond .ne 10, 3) := by decide +kernel
theorem dX6_as_8 : dI cX6_as 8 9 (.iload_n 2) 1 := ⟨by decide +kernel, rfl⟩
theorem dX6_as_9 : decode cX6_as 9 = .ok (.invokestatic 143, 3) := by decide +kernel
theorem dX6_as_12 : decode cX6_as 12 = .ok (.ifCond .eq 6, 3) := by decide +kernel
theorem dX6_as_15 : dI cX6_as 15 17 (.ldc 67) 2 := ⟨by decide +kernel, rfl⟩
theorem dX6_as_17 : dI cX6_as 17 18 (.ireturn) 1 := ⟨by decide +kernel, rfl⟩
theorem dX6_as_18 : dI cX6_as 18 19 (.aload_n 0) 1 := ⟨by decide +kernel, rfl⟩
theorem dX6_as_19 : dI cX6_as 19 22 (.getfield 10) 3 := ⟨by decide +kernel, rfl⟩
theorem dX6_as_22 : dI cX6_as 22 25 (.getfield 155) 3 := ⟨by decide +kernel, rfl⟩
theorem dX6_as_25 : dI cX6_as 25 26 (.iload_n 1) 1 := ⟨by decide +kernel, rfl⟩
theorem dX6_as_26 : dI cX6_as 26 27 (.iaload) 1 := ⟨by decide +kernel, rfl⟩
theorem dX6_as_27 : dI cX6_as 27 28 (.iload_n 2) 1 := ⟨by decide +kernel, rfl⟩
theorem dX6_as_28 : decode cX6_as 28 = .ok (.invokestatic 180, 3) := by decide +kernel
theorem dX6_as_31 : decode cX6_as 31 = .ok (.ifCond .eq 15, 3) := by decide +kernel
theorem dX6_as_34 : dI cX6_as 34 35 (.aload_n 0) 1 := ⟨by decide +kernel, rfl⟩
theorem dX6_as_35 : dI cX6_as 35 38 (.getfield 10) 3 := ⟨by decide +kernel, rfl⟩
theorem dX6_as_38 : dI cX6_as 38 41 (.getfield 158) 3 := ⟨by decide +kernel, rfl⟩
theorem dX6_as_41 : dI cX6_as 41 42 (.iload_n 1) 1 := ⟨by decide +kernel, rfl⟩
theorem dX6_as_42 : dI cX6_as 42 43 (.iaload) 1 := ⟨by decide +kernel, rfl⟩
theorem dX6_as_43 : decode cX6_as 43 = .ok (.goto 5, 3) := by decide +kernel
theorem dX6_as_46 : dI cX6_as 46 48 (.ldc 184) 2 := ⟨by decide +kernel, rfl⟩
theorem dX6_as_48 : dI cX6_as 48 49 (.ireturn) 1 := ⟨by decide +kernel, rfl⟩
def f_X6_as (s : hS) (a0 : Nat) (i1 : Int32) (i2 : Int32) : Option (Int32 × hS) :=
  (cV s a0 6 (f_X6_isNoTalk s a0 i1)).bind fun p1 =>
  if p1.1 = 0 then
    (f_X6_isNoKind p1.2 i2).bind fun p2 =>
    if p2.1 = 0 then
      (gR p2.2 a0 6 0).bind fun a3 =>
      (gR p2.2 a3 5 14).bind fun a4 =>
      (aI p2.2 a4 10 i1).bind fun x5 =>
      (f_X6_isOfKind p2.2 x5 i2).bind fun p6 =>
      if p6.1 = 0 then
        some ((-1000000012 : Int32), p6.2)
      else
        (gR p6.2 a0 6 0).bind fun a7 =>
        (gR p6.2 a7 5 15).bind fun a8 =>
        (aI p6.2 a8 10 i1).bind fun x9 =>
        some (x9, p6.2)
    else
      some ((-1000000001 : Int32), p2.2)
  else
    some ((-1000000001 : Int32), p1.2)
theorem b_X6_as_in (E : jE)  (s : hS) (a0 : Nat) (i1 : Int32) (i2 : Int32)  : Jo E M_X6_as cvI 0 [(0, .ref a0), (1, .int i1), (2, .int i2)] [] s (f_X6_as s a0 i1 i2) := by
  unfold f_X6_as
  refine Jo_aloadn 0 dX6_as_0 rfl rfl ?_
  refine Jo_iloadn 1 dX6_as_1 rfl rfl ?_
  refine Jo_callVi (a := a0) (rest := []) [.int i1] cc_6 yF_X6_isNoTalk yV_X6_isNoTalk w_452 rfl rfl ⟨Nat.le_of_ble_eq_true rfl, Nat.le_of_ble_eq_true rfl, Nat.le_of_ble_eq_true rfl⟩ dX6_as_2 rfl (K_X6_isNoTalk E s a0 i1) (fun p1 => ?_)
  refine Jo_if_ne 15 dX6_as_5 (by decide) rfl ?_ ?_
  · refine Jo_iloadn 2 dX6_as_8 rfl rfl ?_
    refine Jo_callSi (rest := []) [.int i2] yF_X6_isNoKind yS_X6_isNoKind w_434 rfl rfl ⟨Nat.le_of_ble_eq_true rfl, Nat.le_of_ble_eq_true rfl, Nat.le_of_ble_eq_true rfl⟩ dX6_as_9 rfl (K_X6_isNoKind E p1.2 i2) (fun p2 => ?_)
    refine Jo_if_eq 18 dX6_as_12 (by decide) rfl ?_ ?_
    · refine Jo_aloadn 0 dX6_as_18 rfl rfl ?_
      refine Jo_getR fF_6_0 fR_6_0 dX6_as_19 w_359 (fun a3 => ?_)
      refine Jo_getR fF_5_14 fR_5_14 dX6_as_22 w_451 (fun a4 => ?_)
      refine Jo_iloadn 1 dX6_as_25 rfl rfl ?_
      refine Jo_iaload dX6_as_26 (fun x5 => ?_)
      refine Jo_iloadn 2 dX6_as_27 rfl rfl ?_
      refine Jo_callSi (rest := []) [.int x5, .int i2] yF_X6_isOfKind yS_X6_isOfKind w_311 rfl rfl ⟨Nat.le_of_ble_eq_true rfl, Nat.le_of_ble_eq_true rfl, Nat.le_of_ble_eq_true rfl⟩ dX6_as_28 rfl (K_X6_isOfKind E p2.2 x5 i2) (fun p6 => ?_)
      refine Jo_if_eq 46 dX6_as_31 (by decide) rfl ?_ ?_
      · refine Jo_ldc dX6_as_46 w_456 ?_
        exact Jo_iret rfl dX6_as_48
      · refine Jo_aloadn 0 dX6_as_34 rfl rfl ?_
        refine Jo_getR fF_6_0 fR_6_0 dX6_as_35 w_359 (fun a7 => ?_)
        refine Jo_getR fF_5_15 fR_5_15 dX6_as_38 w_450 (fun a8 => ?_)
        refine Jo_iloadn 1 dX6_as_41 rfl rfl ?_
        refine Jo_iaload dX6_as_42 (fun x9 => ?_)
        refine Jo_goto 48 dX6_as_43 (by decide) ?_
        exact Jo_iret rfl dX6_as_48
    · refine Jo_ldc dX6_as_15 w_368 ?_
      exact Jo_iret rfl dX6_as_17
  · refine Jo_ldc dX6_as_15 w_368 ?_
    exact Jo_iret rfl dX6_as_17
theorem K_X6_as (E : jE) (s : hS) (a0 : Nat) (i1 : Int32) (i2 : Int32) : jK E yX6_as M_X6_as cvI [.ref a0, .int i1, .int i2] s (f_X6_as s a0 i1 i2) := jK_of ⟨by decide, rfl, rfl⟩ (Nat.le_of_ble_eq_true rfl) (b_X6_as_in E s a0 i1 i2)
/-! HeronTalk.turns(II)I -/
abbrev M_X6_turns : jM := (RX6, cX6_turns, 4, (some .int), "turns", 1, 21)
theorem yF_X6_turns : yF yX6_turns M_X6_turns 2 := ⟨w_460, w_278, by decide +kernel⟩
theorem yV_X6_turns : Cond.instanceMethod yX6_turns ∈ tbG ∧ Cond.selects yX6_turns.cls yX6_turns yX6_turns ∈ tbG := ⟨w_461, w_462⟩
theorem dX6_turns_0 : dI cX6_turns 0 1 (.aload_n 0) 1 := ⟨by decide +kernel, rfl⟩
theorem dX6_turns_1 : dI cX6_turns 1 2 (.iload_n 1) 1 := ⟨by decide +kernel, rfl⟩
theorem dX6_turns_2 : decode cX6_turns 2 = .ok (.invokevirtual 152, 3) := by decide +kernel
theorem dX6_turns_5 : decode cX6_turns 5 = .ok (.ifCond .ne 10, 3) := by decide +kernel
theorem dX6_turns_8 : dI cX6_turns 8 9 (.iload_n 2) 1 := ⟨by decide +kernel, rfl⟩
theorem dX6_turns_9 : decode cX6_turns 9 = .ok (.invokestatic 143, 3) := by decide +kernel
theorem dX6_turns_12 : decode cX6_turns 12 = .ok (.ifCond .eq 6, 3) := by decide +kernel
theorem dX6_turns_15 : dI cX6_turns 15 17 (.ldc 67) 2 := ⟨by decide +kernel, rfl⟩
theorem dX6_turns_17 : dI cX6_turns 17 18 (.ireturn) 1 := ⟨by decide +kernel, rfl⟩
theorem dX6_turns_18 : dI cX6_turns 18 19 (.aload_n 0) 1 := ⟨by decide +kernel, rfl⟩
theorem dX6_turns_19 : dI cX6_turns 19 22 (.getfield 10) 3 := ⟨by decide +kernel, rfl⟩
theorem dX6_turns_22 : dI cX6_turns 22 25 (.getfield 155) 3 := ⟨by decide +kernel, rfl⟩
theorem dX6_turns_25 : dI cX6_turns 25 26 (.iload_n 1) 1 := ⟨by decide +kernel, rfl⟩
theorem dX6_turns_26 : dI cX6_turns 26 27 (.iaload) 1 := ⟨by decide +kernel, rfl⟩
theorem dX6_turns_27 : dI cX6_turns 27 28 (.istore_n 3) 1 := ⟨by decide +kernel, rfl⟩
theorem dX6_turns_28 : dI cX6_turns 28 29 (.aload_n 0) 1 := ⟨by decide +kernel, rfl⟩
theorem dX6_turns_29 : dI cX6_turns 29 32 (.getfield 10) 3 := ⟨by decide +kernel, rfl⟩
theorem dX6_turns_32 : dI cX6_turns 32 35 (.getfield 155) 3 := ⟨by decide +kernel, rfl⟩
theorem dX6_turns_35 : dI cX6_turns 35 36 (.iload_n 1) 1 := ⟨by decide +kernel, rfl⟩
theorem dX6_turns_36 : dI cX6_turns 36 37 (.iload_n 2) 1 := ⟨by decide +kernel, rfl⟩
theorem dX6_turns_37 : dI cX6_turns 37 38 (.iastore) 1 := ⟨by decide +kernel, rfl⟩
theorem dX6_turns_38 : dI cX6_turns 38 39 (.iload_n 3) 1 := ⟨by decide +kernel, rfl⟩
theorem dX6_turns_39 : dI cX6_turns 39 40 (.ireturn) 1 := ⟨by decide +kernel, rfl⟩
def f_X6_turns (s : hS) (a0 : Nat) (i1 : Int32) (i2 : Int32) : Option (Int32 × hS) :=
  (cV s a0 6 (f_X6_isNoTalk s a0 i1)).bind fun p1 =>
  if p1.1 = 0 then
    (f_X6_isNoKind p1.2 i2).bind fun p2 =>
    if p2.1 = 0 then
      (gR p2.2 a0 6 0).bind fun a3 =>
      (gR p2.2 a3 5 14).bind fun a4 =>
      (aI p2.2 a4 10 i1).bind fun x5 =>
      (gR p2.2 a0 6 0).bind fun a6 =>
      (gR p2.2 a6 5 14).bind fun a7 =>
      (sI p2.2 a7 10 i1 i2).bind fun s8 =>
      some (x5, s8)
    else
      some ((-1000000001 : Int32), p2.2)
  else
    some ((-1000000001 : Int32), p1.2)
theorem b_X6_turns_in (E : jE)  (s : hS) (a0 : Nat) (i1 : Int32) (i2 : Int32)  : Jo E M_X6_turns cvI 0 [(0, .ref a0), (1, .int i1), (2, .int i2)] [] s (f_X6_turns s a0 i1 i2) := by
  unfold f_X6_turns
  refine Jo_aloadn 0 dX6_turns_0 rfl rfl ?_
  refine Jo_iloadn 1 dX6_turns_1 rfl rfl ?_
  refine Jo_callVi (a := a0) (rest := []) [.int i1] cc_6 yF_X6_isNoTalk yV_X6_isNoTalk w_452 rfl rfl ⟨Nat.le_of_ble_eq_true rfl, Nat.le_of_ble_eq_true rfl, Nat.le_of_ble_eq_true rfl⟩ dX6_turns_2 rfl (K_X6_isNoTalk E s a0 i1) (fun p1 => ?_)
  refine Jo_if_ne 15 dX6_turns_5 (by decide) rfl ?_ ?_
  · refine Jo_iloadn 2 dX6_turns_8 rfl rfl ?_
    refine Jo_callSi (rest := []) [.int i2] yF_X6_isNoKind yS_X6_isNoKind w_434 rfl rfl ⟨Nat.le_of_ble_eq_true rfl, Nat.le_of_ble_eq_true rfl, Nat.le_of_ble_eq_true rfl⟩ dX6_turns_9 rfl (K_X6_isNoKind E p1.2 i2) (fun p2 => ?_)
    refine Jo_if_eq 18 dX6_turns_12 (by decide) rfl ?_ ?_
    · refine Jo_aloadn 0 dX6_turns_18 rfl rfl ?_
      refine Jo_getR fF_6_0 fR_6_0 dX6_turns_19 w_359 (fun a3 => ?_)
      refine Jo_getR fF_5_14 fR_5_14 dX6_turns_22 w_451 (fun a4 => ?_)
      refine Jo_iloadn 1 dX6_turns_25 rfl rfl ?_
      refine Jo_iaload dX6_turns_26 (fun x5 => ?_)
      refine Jo_istoren (ls' := [(3, .int x5), (0, .ref a0), (1, .int i1), (2, .int i2)]) dX6_turns_27 rfl (by decide) rfl ?_
      refine Jo_aloadn 1 dX6_turns_28 rfl rfl ?_
      refine Jo_getR fF_6_0 fR_6_0 dX6_turns_29 w_359 (fun a6 => ?_)
      refine Jo_getR fF_5_14 fR_5_14 dX6_turns_32 w_451 (fun a7 => ?_)
      refine Jo_iloadn 2 dX6_turns_35 rfl rfl ?_
      refine Jo_iloadn 3 dX6_turns_36 rfl rfl ?_
      refine Jo_iastore dX6_turns_37 (fun s8 => ?_)
      refine Jo_iloadn 0 dX6_turns_38 rfl rfl ?_
      exact Jo_iret rfl dX6_turns_39
    · refine Jo_ldc dX6_turns_15 w_368 ?_
      exact Jo_iret rfl dX6_turns_17
  · refine Jo_ldc dX6_turns_15 w_368 ?_
    exact Jo_iret rfl dX6_turns_17
theorem K_X6_turns (E : jE) (s : hS) (a0 : Nat) (i1 : Int32) (i2 : Int32) : jK E yX6_turns M_X6_turns cvI [.ref a0, .int i1, .int i2] s (f_X6_turns s a0 i1 i2) := jK_of ⟨by decide, rfl, rfl⟩ (Nat.le_of_ble_eq_true rfl) (b_X6_turns_in E s a0 i1 i2)
/-! HeronTalk.say(I)I -/
abbrev M_X6_say : jM := (RX6, cX6_say, 2, (some .int), "say", 6, 149)
theorem yF_X6_say : yF yX6_say M_X6_say 1 := ⟨w_464, w_278, by decide +kernel⟩
theorem yV_X6_say : Cond.instanceMethod yX6_say ∈ tbG ∧ Cond.selects yX6_say.cls yX6_say yX6_say ∈ tbG := ⟨w_465, w_466⟩
theorem dX6_say_0 : dI cX6_say 0 1 (.aload_n 0) 1 := ⟨by decide +kernel, rfl⟩
theorem dX6_say_1 : dI cX6_say 1 2 (.iload_n 1) 1 := ⟨by decide +kernel, rfl⟩
theorem dX6_say_2 : decode cX6_say 2 = .ok (.invokevirtual 152, 3) := by decide +kernel
theorem dX6_say_5 : decode cX6_say 5 = .ok (.ifCond .eq 6, 3) := by decide +kernel
theorem dX6_say_8 : dI cX6_say 8 10 (.ldc 67) 2 := ⟨by decide +kernel, rfl⟩
theorem dX6_say_10 : dI cX6_say 10 11 (.ireturn) 1 := ⟨by decide +kernel, rfl⟩
theorem dX6_say_11 : dI cX6_say 11 12 (.aload_n 0) 1 := ⟨by decide +kernel, rfl⟩
theorem dX6_say_12 : dI cX6_say 12 15 (.getfield 10) 3 := ⟨by decide +kernel, rfl⟩
theorem dX6_say_15 : dI cX6_say 15 16 (.aload_n 0) 1 := ⟨by decide +kernel, rfl⟩
theorem dX6_say_16 : dI cX6_say 16 19 (.getfield 10) 3 := ⟨by decide +kernel, rfl⟩
theorem dX6_say_19 : dI cX6_say 19 22 (.getfield 155) 3 := ⟨by decide +kernel, rfl⟩
theorem dX6_say_22 : dI cX6_say 22 23 (.iload_n 1) 1 := ⟨by decide +kernel, rfl⟩
theorem dX6_say_23 : dI cX6_say 23 24 (.iaload) 1 := ⟨by decide +kernel, rfl⟩
theorem dX6_say_24 : dI cX6_say 24 25 (.aload_n 0) 1 := ⟨by decide +kernel, rfl⟩
theorem dX6_say_25 : dI cX6_say 25 28 (.getfield 10) 3 := ⟨by decide +kernel, rfl⟩
theorem dX6_say_28 : dI cX6_say 28 31 (.getfield 158) 3 := ⟨by decide +kernel, rfl⟩
theorem dX6_say_31 : dI cX6_say 31 32 (.iload_n 1) 1 := ⟨by decide +kernel, rfl⟩
theorem dX6_say_32 : dI cX6_say 32 33 (.iaload) 1 := ⟨by decide +kernel, rfl⟩
theorem dX6_say_33 : dI cX6_say 33 34 (.aload_n 0) 1 := ⟨by decide +kernel, rfl⟩
theorem dX6_say_34 : dI cX6_say 34 37 (.getfield 10) 3 := ⟨by decide +kernel, rfl⟩
theorem dX6_say_37 : dI cX6_say 37 40 (.getfield 161) 3 := ⟨by decide +kernel, rfl⟩
theorem dX6_say_40 : dI cX6_say 40 41 (.iload_n 1) 1 := ⟨by decide +kernel, rfl⟩
theorem dX6_say_41 : dI cX6_say 41 42 (.iaload) 1 := ⟨by decide +kernel, rfl⟩
theorem dX6_say_42 : decode cX6_say 42 = .ok (.invokevirtual 185, 3) := by decide +kernel
theorem dX6_say_45 : decode cX6_say 45 = .ok (.ifCond .eq 7, 3) := by decide +kernel
theorem dX6_say_48 : dI cX6_say 48 49 (.iconst 1) 1 := ⟨by decide +kernel, rfl⟩
theorem dX6_say_49 : decode cX6_say 49 = .ok (.goto 4, 3) := by decide +kernel
theorem dX6_say_52 : dI cX6_say 52 53 (.iconst 0) 1 := ⟨by decide +kernel, rfl⟩
theorem dX6_say_53 : dI cX6_say 53 54 (.ireturn) 1 := ⟨by decide +kernel, rfl⟩
def f_X6_say (s : hS) (a0 : Nat) (i1 : Int32) : Option (Int32 × hS) :=
  (cV s a0 6 (f_X6_isNoTalk s a0 i1)).bind fun p1 =>
  if p1.1 = 0 then
    (gR p1.2 a0 6 0).bind fun a2 =>
    (gR p1.2 a0 6 0).bind fun a3 =>
    (gR p1.2 a3 5 14).bind fun a4 =>
    (aI p1.2 a4 10 i1).bind fun x5 =>
    (gR p1.2 a0 6 0).bind fun a6 =>
    (gR p1.2 a6 5 15).bind fun a7 =>
    (aI p1.2 a7 10 i1).bind fun x8 =>
    (gR p1.2 a0 6 0).bind fun a9 =>
    (gR p1.2 a9 5 16).bind fun a10 =>
    (aI p1.2 a10 10 i1).bind fun x11 =>
    (cV p1.2 a2 5 (f_X5_converse p1.2 a2 x5 x8 x11)).bind fun p12 =>
    if p12.1 = 0 then
      some ((0 : Int32), p12.2)
    else
      some ((1 : Int32), p12.2)
  else
    some ((-1000000001 : Int32), p1.2)
theorem b_X6_say_in (E : jE)  (s : hS) (a0 : Nat) (i1 : Int32)  : Jo E M_X6_say cvI 0 [(0, .ref a0), (1, .int i1)] [] s (f_X6_say s a0 i1) := by
  unfold f_X6_say
  refine Jo_aloadn 0 dX6_say_0 rfl rfl ?_
  refine Jo_iloadn 1 dX6_say_1 rfl rfl ?_
  refine Jo_callVi (a := a0) (rest := []) [.int i1] cc_6 yF_X6_isNoTalk yV_X6_isNoTalk w_452 rfl rfl ⟨Nat.le_of_ble_eq_true rfl, Nat.le_of_ble_eq_true rfl, Nat.le_of_ble_eq_true rfl⟩ dX6_say_2 rfl (K_X6_isNoTalk E s a0 i1) (fun p1 => ?_)
  refine Jo_if_eq 11 dX6_say_5 (by decide) rfl ?_ ?_
  · refine Jo_aloadn 0 dX6_say_11 rfl rfl ?_
    refine Jo_getR fF_6_0 fR_6_0 dX6_say_12 w_359 (fun a2 => ?_)
    refine Jo_aloadn 0 dX6_say_15 rfl rfl ?_
    refine Jo_getR fF_6_0 fR_6_0 dX6_say_16 w_359 (fun a3 => ?_)
    refine Jo_getR fF_5_14 fR_5_14 dX6_say_19 w_451 (fun a4 => ?_)
    refine Jo_iloadn 1 dX6_say_22 rfl rfl ?_
    refine Jo_iaload dX6_say_23 (fun x5 => ?_)
    refine Jo_aloadn 0 dX6_say_24 rfl rfl ?_
    refine Jo_getR fF_6_0 fR_6_0 dX6_say_25 w_359 (fun a6 => ?_)
    refine Jo_getR fF_5_15 fR_5_15 dX6_say_28 w_450 (fun a7 => ?_)
    refine Jo_iloadn 1 dX6_say_31 rfl rfl ?_
    refine Jo_iaload dX6_say_32 (fun x8 => ?_)
    refine Jo_aloadn 0 dX6_say_33 rfl rfl ?_
    refine Jo_getR fF_6_0 fR_6_0 dX6_say_34 w_359 (fun a9 => ?_)
    refine Jo_getR fF_5_16 fR_5_16 dX6_say_37 w_449 (fun a10 => ?_)
    refine Jo_iloadn 1 dX6_say_40 rfl rfl ?_
    refine Jo_iaload dX6_say_41 (fun x11 => ?_)
    refine Jo_callVi (a := a2) (rest := []) [.int x5, .int x8, .int x11] cc_5 yF_X5_converse yV_X5_converse w_463 rfl rfl ⟨Nat.le_of_ble_eq_true rfl, Nat.le_of_ble_eq_true rfl, Nat.le_of_ble_eq_true rfl⟩ dX6_say_42 rfl (K_X5_converse E p1.2 a2 x5 x8 x11) (fun p12 => ?_)
    refine Jo_if_eq 52 dX6_say_45 (by decide) rfl ?_ ?_
    · refine Jo_iconst (v := (0 : Int32)) dX6_say_52 (by decide) ?_
      exact Jo_iret rfl dX6_say_53
    · refine Jo_iconst (v := (1 : Int32)) dX6_say_48 (by decide) ?_
      refine Jo_goto 53 dX6_say_49 (by decide) ?_
      exact Jo_iret rfl dX6_say_53
  · refine Jo_ldc dX6_say_8 w_368 ?_
    exact Jo_iret rfl dX6_say_10
theorem K_X6_say (E : jE) (s : hS) (a0 : Nat) (i1 : Int32) : jK E yX6_say M_X6_say cvI [.ref a0, .int i1] s (f_X6_say s a0 i1) := jK_of ⟨by decide, rfl, rfl⟩ (Nat.le_of_ble_eq_true rfl) (b_X6_say_in E s a0 i1)
/-! HeronTalk.round()I -/
abbrev M_X6_round : jM := (RX6, cX6_round, 1, (some .int), "round", 7, 171)
theorem yF_X6_round : yF yX6_round M_X6_round 0 := ⟨w_469, w_278, by decide +kernel⟩
theorem yV_X6_round : Cond.instanceMethod yX6_round ∈ tbG ∧ Cond.selects yX6_round.cls yX6_round yX6_round ∈ tbG := ⟨w_470, w_471⟩
theorem dX6_round_0 : dI cX6_round 0 1 (.aload_n 0) 1 := ⟨by decide +kernel, rfl⟩
theorem dX6_round_1 : dI cX6_round 1 4 (.getfield 10) 3 := ⟨by decide +kernel, rfl⟩
theorem dX6_round_4 : dI cX6_round 4 7 (.getfield 140) 3 := ⟨by decide +kernel, rfl⟩
theorem dX6_round_7 : dI cX6_round 7 10 (.sipush 999) 3 := ⟨by decide +kernel, rfl⟩
theorem dX6_round_10 : decode cX6_round 10 = .ok (.if_icmp .lt 8, 3) := by decide +kernel
theorem dX6_round_13 : dI cX6_round 13 15 (.ldc 188) 2 := ⟨by decide +kernel, rfl⟩
theorem dX6_round_15 : decode cX6_round 15 = .ok (.goto 10, 3) := by decide +kernel
theorem dX6_round_18 : dI cX6_round 18 19 (.aload_n 0) 1 := ⟨by decide +kernel, rfl⟩
theorem dX6_round_19 : dI cX6_round 19 22 (.getfield 10) 3 := ⟨by decide +kernel, rfl⟩
theorem dX6_round_22 : decode cX6_round 22 = .ok (.invokevirtual 189, 3) := by decide +kernel
theorem dX6_round_25 : dI cX6_round 25 26 (.ireturn) 1 := ⟨by decide +kernel, rfl⟩
def f_X6_round (s : hS) (a0 : Nat) : Option (Int32 × hS) :=
  (gR s a0 6 0).bind fun a1 =>
  (gI s a1 5 5).bind fun x2 =>
  if x2 < (999 : Int32) then
    (gR s a0 6 0).bind fun a3 =>
    (cV s a3 5 (f_X5_goRound s a3)).bind fun p4 =>
    some (p4.1, p4.2)
  else
    some ((-1000000002 : Int32), s)
theorem b_X6_round_in (E : jE)  (s : hS) (a0 : Nat)  : Jo E M_X6_round cvI 0 [(0, .ref a0)] [] s (f_X6_round s a0) := by
  unfold f_X6_round
  refine Jo_aloadn 0 dX6_round_0 rfl rfl ?_
  refine Jo_getR fF_6_0 fR_6_0 dX6_round_1 w_359 (fun a1 => ?_)
  refine Jo_getI fF_5_5 fI_5_5 dX6_round_4 w_426 (fun x2 => ?_)
  refine Jo_sipush (v := (999 : Int32)) dX6_round_7 (by decide) ?_
  refine Jo_icmp_lt 18 dX6_round_10 (by decide) rfl ?_ ?_
  · refine Jo_aloadn 0 dX6_round_18 rfl rfl ?_
    refine Jo_getR fF_6_0 fR_6_0 dX6_round_19 w_359 (fun a3 => ?_)
    refine Jo_callVi (a := a3) (rest := []) [] cc_5 yF_X5_goRound yV_X5_goRound w_467 rfl rfl ⟨Nat.le_of_ble_eq_true rfl, Nat.le_of_ble_eq_true rfl, Nat.le_of_ble_eq_true rfl⟩ dX6_round_22 rfl (K_X5_goRound E s a3) (fun p4 => ?_)
    exact Jo_iret rfl dX6_round_25
  · refine Jo_ldc dX6_round_13 w_468 ?_
    refine Jo_goto 25 dX6_round_15 (by decide) ?_
    exact Jo_iret rfl dX6_round_25
theorem K_X6_round (E : jE) (s : hS) (a0 : Nat) : jK E yX6_round M_X6_round cvI [.ref a0] s (f_X6_round s a0) := jK_of ⟨by decide, rfl, rfl⟩ (Nat.le_of_ble_eq_true rfl) (b_X6_round_in E s a0)
/-! HeronTalk.market()I -/
abbrev M_X6_market : jM := (RX6, cX6_market, 2, (some .int), "market", 7, 171)
theorem yF_X6_market : yF yX6_market M_X6_market 0 := ⟨w_472, w_278, by decide +kernel⟩
theorem yV_X6_market : Cond.instanceMethod yX6_market ∈ tbG ∧ Cond.selects yX6_market.cls yX6_market yX6_market ∈ tbG := ⟨w_473, w_474⟩
theorem dX6_market_0 : dI cX6_market 0 1 (.iconst 0) 1 := ⟨by decide +kernel, rfl⟩
theorem dX6_market_1 : dI cX6_market 1 2 (.istore_n 1) 1 := ⟨by decide +kernel, rfl⟩
theorem dX6_market_2 : dI cX6_market 2 3 (.aload_n 0) 1 := ⟨by decide +kernel, rfl⟩
theorem dX6_market_3 : dI cX6_market 3 6 (.getfield 10) 3 := ⟨by decide +kernel, rfl⟩
theorem dX6_market_6 : dI cX6_market 6 9 (.getfield 140) 3 := ⟨by decide +kernel, rfl⟩
theorem dX6_market_9 : dI cX6_market 9 12 (.sipush 999) 3 := ⟨by decide +kernel, rfl⟩
theorem dX6_market_12 : decode cX6_market 12 = .ok (.if_icmp .ge 26, 3) := by decide +kernel
theorem dX6_market_15 : dI cX6_market 15 16 (.iload_n 1) 1 := ⟨by decide +kernel, rfl⟩
theorem dX6_market_16 : dI cX6_market 16 19 (.sipush 999) 3 := ⟨by decide +kernel, rfl⟩
theorem dX6_market_19 : decode cX6_market 19 = .ok (.if_icmp .ge 19, 3) := by decide +kernel
theorem dX6_market_22 : dI cX6_market 22 25 (.iinc 1 1) 3 := ⟨by decide +kernel, rfl⟩
theorem dX6_market_25 : dI cX6_market 25 26 (.aload_n 0) 1 := ⟨by decide +kernel, rfl⟩
theorem dX6_market_26 : dI cX6_market 26 29 (.getfield 10) 3 := ⟨by decide +kernel, rfl⟩
theorem dX6_market_29 : decode cX6_market 29 = .ok (.invokevirtual 189, 3) := by decide +kernel
theorem dX6_market_32 : decode cX6_market 32 = .ok (.ifCond .ne (-30), 3) := by decide +kernel
theorem dX6_market_35 : decode cX6_market 35 = .ok (.goto 3, 3) := by decide +kernel
theorem dX6_market_38 : dI cX6_market 38 39 (.iload_n 1) 1 := ⟨by decide +kernel, rfl⟩
theorem dX6_market_39 : dI cX6_market 39 40 (.ireturn) 1 := ⟨by decide +kernel, rfl⟩
def f_X6_market_b2 (k2 : Nat → Int32 → hS → Option (Int32 × hS)) (l0 : Nat) (l1 : Int32) (s : hS) : Option (Int32 × hS) :=
  (gR s l0 6 0).bind fun a1 =>
  (gI s a1 5 5).bind fun x2 =>
  if (999 : Int32) ≤ x2 then
    some (l1, s)
  else
    if (999 : Int32) ≤ l1 then
      some (l1, s)
    else
      (gR s l0 6 0).bind fun a3 =>
      (cV s a3 5 (f_X5_goRound s a3)).bind fun p4 =>
      if p4.1 = 0 then
        some ((l1 + (1 : Int32)), p4.2)
      else
        k2 l0 (l1 + (1 : Int32)) p4.2
theorem b_X6_market_2 (E : jE) (k2 : Nat → Int32 → hS → Option (Int32 × hS)) (h2 : ∀ (s : hS) (l0 : Nat) (l1 : Int32) , Jo E M_X6_market cvI 2 [(0, .ref l0), (1, .int l1)] [] s (k2 l0 l1 s)) (s : hS) (l0 : Nat) (l1 : Int32)  : Jo E M_X6_market cvI 2 [(0, .ref l0), (1, .int l1)] [] s (f_X6_market_b2 k2 l0 l1 s) := by
  unfold f_X6_market_b2
  refine Jo_aloadn 0 dX6_market_2 rfl rfl ?_
  refine Jo_getR fF_6_0 fR_6_0 dX6_market_3 w_359 (fun a1 => ?_)
  refine Jo_getI fF_5_5 fI_5_5 dX6_market_6 w_426 (fun x2 => ?_)
  refine Jo_sipush (v := (999 : Int32)) dX6_market_9 (by decide) ?_
  refine Jo_icmp_ge 38 dX6_market_12 (by decide) rfl ?_ ?_
  · refine Jo_iloadn 1 dX6_market_38 rfl rfl ?_
    exact Jo_iret rfl dX6_market_39
  · refine Jo_iloadn 1 dX6_market_15 rfl rfl ?_
    refine Jo_sipush (v := (999 : Int32)) dX6_market_16 (by decide) ?_
    refine Jo_icmp_ge 38 dX6_market_19 (by decide) rfl ?_ ?_
    · refine Jo_iloadn 1 dX6_market_38 rfl rfl ?_
      exact Jo_iret rfl dX6_market_39
    · refine Jo_iinc (v := (l1 + (1 : Int32))) (ls' := [(1, .int (l1 + (1 : Int32))), (0, .ref l0)]) 1 dX6_market_22 rfl rfl (by decide) rfl ?_
      refine Jo_aloadn 1 dX6_market_25 rfl rfl ?_
      refine Jo_getR fF_6_0 fR_6_0 dX6_market_26 w_359 (fun a3 => ?_)
      refine Jo_callVi (a := a3) (rest := []) [] cc_5 yF_X5_goRound yV_X5_goRound w_467 rfl rfl ⟨Nat.le_of_ble_eq_true rfl, Nat.le_of_ble_eq_true rfl, Nat.le_of_ble_eq_true rfl⟩ dX6_market_29 rfl (K_X5_goRound E s a3) (fun p4 => ?_)
      refine Jo_if_ne 2 dX6_market_32 (by decide) rfl ?_ ?_
      · refine Jo_goto 38 dX6_market_35 (by decide) ?_
        refine Jo_iloadn 0 dX6_market_38 rfl rfl ?_
        exact Jo_iret rfl dX6_market_39
      · refine Jo_sub [1, 0] rfl ?_
        exact h2 p4.2 l0 (l1 + (1 : Int32))
theorem e_X6_market_2 (E : jE)  (n : Nat) : ∀ (s : hS) (l0 : Nat) (l1 : Int32) , Jo E M_X6_market cvI 2 [(0, .ref l0), (1, .int l1)] [] s ((jL f_X6_market_b2 (fun _ _ _ => none) n) l0 l1 s) :=
  jL_ind (P := fun f => ∀ (s : hS) (l0 : Nat) (l1 : Int32) , Jo E M_X6_market cvI 2 [(0, .ref l0), (1, .int l1)] [] s (f l0 l1 s)) (fun _ _ _ => Jo_none) (fun b hb s l0 l1 => b_X6_market_2 E  b hb s l0 l1) n
def f_X6_market (s : hS) (a0 : Nat) : Option (Int32 × hS) :=
  jL f_X6_market_b2 (fun _ _ _ => none) jF a0 (0 : Int32) s
theorem b_X6_market_in (E : jE)  (s : hS) (a0 : Nat)  : Jo E M_X6_market cvI 0 [(0, .ref a0)] [] s (f_X6_market s a0) := by
  unfold f_X6_market
  refine Jo_iconst (v := (0 : Int32)) dX6_market_0 (by decide) ?_
  refine Jo_istoren (ls' := [(1, .int (0 : Int32)), (0, .ref a0)]) dX6_market_1 rfl (by decide) rfl ?_
  refine Jo_sub [1, 0] rfl ?_
  exact e_X6_market_2 E jF s a0 (0 : Int32)
theorem K_X6_market (E : jE) (s : hS) (a0 : Nat) : jK E yX6_market M_X6_market cvI [.ref a0] s (f_X6_market s a0) := jK_of ⟨by decide, rfl, rfl⟩ (Nat.le_of_ble_eq_true rfl) (b_X6_market_in E s a0)
