/-! HeronTalkModel.deal()I -/
abbrev M_X7_deal : jM := (RX7, cX7_deal, 3, (some .int), "deal", 2, 48)
theorem yF_X7_deal : yF yX7_deal M_X7_deal 0 := ⟨w_746, w_624, by decide +kernel⟩
theorem yV_X7_deal : Cond.instanceMethod yX7_deal ∈ tbG ∧ Cond.selects yX7_deal.cls yX7_deal yX7_deal ∈ tbG := ⟨w_747, w_748⟩
theorem dX7_deal_0 : dI cX7_deal 0 1 (.iconst 1) 1 := ⟨by decide +kernel, rfl⟩
theorem dX7_deal_1 : dI cX7_deal 1 2 (.aload_n 0) 1 := ⟨by decide +kernel, rfl⟩
theorem dX7_deal_2 : dI cX7_deal 2 5 (.getfield 9) 3 := ⟨by decide +kernel, rfl⟩
theorem dX7_deal_5 : dI cX7_deal 5 6 (.iconst 1) 1 := ⟨by decide +kernel, rfl⟩
theorem dX7_deal_6 : dI cX7_deal 6 7 (.iaload) 1 := ⟨by decide +kernel, rfl⟩
theorem dX7_deal_7 : dI cX7_deal 7 8 (.ishl) 1 := ⟨by decide +kernel, rfl⟩
theorem dX7_deal_8 : dI cX7_deal 8 9 (.iconst 1) 1 := ⟨by decide +kernel, rfl⟩
theorem dX7_deal_9 : dI cX7_deal 9 10 (.isub) 1 := ⟨by decide +kernel, rfl⟩
theorem dX7_deal_10 : dI cX7_deal 10 11 (.istore_n 1) 1 := ⟨by decide +kernel, rfl⟩
theorem dX7_deal_11 : dI cX7_deal 11 12 (.iconst 0) 1 := ⟨by decide +kernel, rfl⟩
theorem dX7_deal_12 : dI cX7_deal 12 13 (.istore_n 2) 1 := ⟨by decide +kernel, rfl⟩
theorem dX7_deal_13 : dI cX7_deal 13 14 (.iload_n 2) 1 := ⟨by decide +kernel, rfl⟩
theorem dX7_deal_14 : dI cX7_deal 14 15 (.aload_n 0) 1 := ⟨by decide +kernel, rfl⟩
theorem dX7_deal_15 : dI cX7_deal 15 18 (.getfield 9) 3 := ⟨by decide +kernel, rfl⟩
theorem dX7_deal_18 : dI cX7_deal 18 19 (.iconst 2) 1 := ⟨by decide +kernel, rfl⟩
theorem dX7_deal_19 : dI cX7_deal 19 20 (.iaload) 1 := ⟨by decide +kernel, rfl⟩
theorem dX7_deal_20 : decode cX7_deal 20 = .ok (.if_icmp .ge 57, 3) := by decide +kernel
theorem dX7_deal_23 : dI cX7_deal 23 24 (.aload_n 0) 1 := ⟨by decide +kernel, rfl⟩
theorem dX7_deal_24 : dI cX7_deal 24 27 (.getfield 9) 3 := ⟨by decide +kernel, rfl⟩
theorem dX7_deal_27 : dI cX7_deal 27 29 (.bipush 40) 2 := ⟨by decide +kernel, rfl⟩
theorem dX7_deal_29 : dI cX7_deal 29 30 (.iconst 2) 1 := ⟨by decide +kernel, rfl⟩
theorem dX7_deal_30 : dI cX7_deal 30 31 (.iload_n 2) 1 := ⟨by decide +kernel, rfl⟩
theorem dX7_deal_31 : dI cX7_deal 31 32 (.imul) 1 := ⟨by decide +kernel, rfl⟩
theorem dX7_deal_32 : dI cX7_deal 32 33 (.iadd) 1 := ⟨by decide +kernel, rfl⟩
theorem dX7_deal_33 : dI cX7_deal 33 34 (.aload_n 0) 1 := ⟨by decide +kernel, rfl⟩
theorem dX7_deal_34 : decode cX7_deal 34 = .ok (.invokevirtual 146, 3) := by decide +kernel
theorem dX7_deal_37 : dI cX7_deal 37 39 (.ldc 150) 2 := ⟨by decide +kernel, rfl⟩
theorem dX7_deal_39 : dI cX7_deal 39 40 (.irem) 1 := ⟨by decide +kernel, rfl⟩
theorem dX7_deal_40 : dI cX7_deal 40 41 (.iload_n 1) 1 := ⟨by decide +kernel, rfl⟩
theorem dX7_deal_41 : dI cX7_deal 41 42 (.iand) 1 := ⟨by decide +kernel, rfl⟩
theorem dX7_deal_42 : dI cX7_deal 42 43 (.iastore) 1 := ⟨by decide +kernel, rfl⟩
theorem dX7_deal_43 : dI cX7_deal 43 44 (.aload_n 0) 1 := ⟨by decide +kernel, rfl⟩
theorem dX7_deal_44 : dI cX7_deal 44 47 (.getfield 9) 3 := ⟨by decide +kernel, rfl⟩
theorem dX7_deal_47 : dI cX7_deal 47 49 (.bipush 40) 2 := ⟨by decide +kernel, rfl⟩
theorem dX7_deal_49 : dI cX7_deal 49 50 (.iconst 2) 1 := ⟨by decide +kernel, rfl⟩
theorem dX7_deal_50 : dI cX7_deal 50 51 (.iload_n 2) 1 := ⟨by decide +kernel, rfl⟩
theorem dX7_deal_51 : dI cX7_deal 51 52 (.imul) 1 := ⟨by decide +kernel, rfl⟩
theorem dX7_deal_52 : dI cX7_deal 52 53 (.iadd) 1 := ⟨by decide +kernel, rfl⟩
theorem dX7_deal_53 : dI cX7_deal 53 54 (.iconst 1) 1 := ⟨by decide +kernel, rfl⟩
theorem dX7_deal_54 : dI cX7_deal 54 55 (.iadd) 1 := ⟨by decide +kernel, rfl⟩
theorem dX7_deal_55 : dI cX7_deal 55 56 (.aload_n 0) 1 := ⟨by decide +kernel, rfl⟩
theorem dX7_deal_56 : decode cX7_deal 56 = .ok (.invokevirtual 146, 3) := by decide +kernel
theorem dX7_deal_59 : dI cX7_deal 59 61 (.ldc 150) 2 := ⟨by decide +kernel, rfl⟩
theorem dX7_deal_61 : dI cX7_deal 61 62 (.irem) 1 := ⟨by decide +kernel, rfl⟩
theorem dX7_deal_62 : dI cX7_deal 62 63 (.iload_n 1) 1 := ⟨by decide +kernel, rfl⟩
theorem dX7_deal_63 : dI cX7_deal 63 64 (.iand) 1 := ⟨by decide +kernel, rfl⟩
theorem dX7_deal_64 : dI cX7_deal 64 65 (.iastore) 1 := ⟨by decide +kernel, rfl⟩
theorem dX7_deal_65 : dI cX7_deal 65 66 (.aload_n 0) 1 := ⟨by decide +kernel, rfl⟩
theorem dX7_deal_66 : dI cX7_deal 66 67 (.iload_n 2) 1 := ⟨by decide +kernel, rfl⟩
theorem dX7_deal_67 : dI cX7_deal 67 68 (.iconst 0) 1 := ⟨by decide +kernel, rfl⟩
theorem dX7_deal_68 : decode cX7_deal 68 = .ok (.invokevirtual 125, 3) := by decide +kernel
theorem dX7_deal_71 : dI cX7_deal 71 74 (.iinc 2 1) 3 := ⟨by decide +kernel, rfl⟩
theorem dX7_deal_74 : decode cX7_deal 74 = .ok (.goto (-61), 3) := by decide +kernel
theorem dX7_deal_77 : dI cX7_deal 77 78 (.aload_n 0) 1 := ⟨by decide +kernel, rfl⟩
theorem dX7_deal_78 : decode cX7_deal 78 = .ok (.invokevirtual 151, 3) := by decide +kernel
theorem dX7_deal_81 : dI cX7_deal 81 82 (.ireturn) 1 := ⟨by decide +kernel, rfl⟩
def f_X7_deal_b13 (k13 : Nat → Int32 → Int32 → hS → Option (Int32 × hS)) (l0 : Nat) (l1 : Int32) (l2 : Int32) (s : hS) : Option (Int32 × hS) :=
  (gR s l0 7 0).bind fun a1 =>
  (aI s a1 10 (2 : Int32)).bind fun x2 =>
  if x2 ≤ l2 then
    (cV s l0 7 (f_X7_knownAll s l0)).bind fun p3 =>
    some (p3.1, p3.2)
  else
    (gR s l0 7 0).bind fun a4 =>
    (cV s l0 7 (f_X7_draw s l0)).bind fun p5 =>
    if (65536 : Int32) = 0 then none else
    (sI p5.2 a4 10 ((40 : Int32) + ((2 : Int32) * l2)) ((p5.1 - p5.1 / (65536 : Int32) * (65536 : Int32)) &&& l1)).bind fun s6 =>
    (gR s6 l0 7 0).bind fun a7 =>
    (cV s6 l0 7 (f_X7_draw s6 l0)).bind fun p8 =>
    if (65536 : Int32) = 0 then none else
    (sI p8.2 a7 10 (((40 : Int32) + ((2 : Int32) * l2)) + (1 : Int32)) ((p8.1 - p8.1 / (65536 : Int32) * (65536 : Int32)) &&& l1)).bind fun s9 =>
    (cV s9 l0 7 (f_X7_learns s9 l0 l2 (0 : Int32))).bind fun p10 =>
    k13 l0 l1 (l2 + (1 : Int32)) p10.2
theorem b_X7_deal_13 (E : jE) (k13 : Nat → Int32 → Int32 → hS → Option (Int32 × hS)) (h13 : ∀ (s : hS) (l0 : Nat) (l1 : Int32) (l2 : Int32) , Jo E M_X7_deal cvI 13 [(0, .ref l0), (1, .int l1), (2, .int l2)] [] s (k13 l0 l1 l2 s)) (s : hS) (l0 : Nat) (l1 : Int32) (l2 : Int32)  : Jo E M_X7_deal cvI 13 [(0, .ref l0), (1, .int l1), (2, .int l2)] [] s (f_X7_deal_b13 k13 l0 l1 l2 s) := by
  unfold f_X7_deal_b13
  refine Jo_iloadn 2 dX7_deal_13 rfl rfl ?_
  refine Jo_aloadn 0 dX7_deal_14 rfl rfl ?_
  refine Jo_getR fF_7_0 fR_7_0 dX7_deal_15 w_598 (fun a1 => ?_)
  refine Jo_iconst (v := (2 : Int32)) dX7_deal_18 (by decide) ?_
  refine Jo_iaload dX7_deal_19 (fun x2 => ?_)
  refine Jo_icmp_ge 77 dX7_deal_20 (by decide) rfl ?_ ?_
  · refine Jo_aloadn 0 dX7_deal_77 rfl rfl ?_
    refine Jo_callVi (a := l0) (rest := []) [] cc_7 yF_X7_knownAll yV_X7_knownAll w_743 rfl rfl ⟨Nat.le_of_ble_eq_true rfl, Nat.le_of_ble_eq_true rfl, Nat.le_of_ble_eq_true rfl⟩ dX7_deal_78 rfl (K_X7_knownAll E s l0) (fun p3 => ?_)
    exact Jo_iret rfl dX7_deal_81
  · refine Jo_aloadn 0 dX7_deal_23 rfl rfl ?_
    refine Jo_getR fF_7_0 fR_7_0 dX7_deal_24 w_598 (fun a4 => ?_)
    refine Jo_bipush (v := (40 : Int32)) dX7_deal_27 (by decide) ?_
    refine Jo_iconst (v := (2 : Int32)) dX7_deal_29 (by decide) ?_
    refine Jo_iloadn 2 dX7_deal_30 rfl rfl ?_
    refine Jo_imul dX7_deal_31 ?_
    refine Jo_iadd dX7_deal_32 ?_
    refine Jo_aloadn 0 dX7_deal_33 rfl rfl ?_
    refine Jo_callVi (a := l0) (rest := [.int ((40 : Int32) + ((2 : Int32) * l2)), .ref a4]) [] cc_7 yF_X7_draw yV_X7_draw w_745 rfl rfl ⟨Nat.le_of_ble_eq_true rfl, Nat.le_of_ble_eq_true rfl, Nat.le_of_ble_eq_true rfl⟩ dX7_deal_34 rfl (K_X7_draw E s l0) (fun p5 => ?_)
    refine Jo_ldc dX7_deal_37 w_744 ?_
    refine Jo_irem dX7_deal_39 ?_
    refine Jo_iloadn 1 dX7_deal_40 rfl rfl ?_
    refine Jo_iand dX7_deal_41 ?_
    refine Jo_iastore dX7_deal_42 (fun s6 => ?_)
    refine Jo_aloadn 0 dX7_deal_43 rfl rfl ?_
    refine Jo_getR fF_7_0 fR_7_0 dX7_deal_44 w_598 (fun a7 => ?_)
    refine Jo_bipush (v := (40 : Int32)) dX7_deal_47 (by decide) ?_
    refine Jo_iconst (v := (2 : Int32)) dX7_deal_49 (by decide) ?_
    refine Jo_iloadn 2 dX7_deal_50 rfl rfl ?_
    refine Jo_imul dX7_deal_51 ?_
    refine Jo_iadd dX7_deal_52 ?_
    refine Jo_iconst (v := (1 : Int32)) dX7_deal_53 (by decide) ?_
    refine Jo_iadd dX7_deal_54 ?_
    refine Jo_aloadn 0 dX7_deal_55 rfl rfl ?_
    refine Jo_callVi (a := l0) (rest := [.int (((40 : Int32) + ((2 : Int32) * l2)) + (1 : Int32)), .ref a7]) [] cc_7 yF_X7_draw yV_X7_draw w_745 rfl rfl ⟨Nat.le_of_ble_eq_true rfl, Nat.le_of_ble_eq_true rfl, Nat.le_of_ble_eq_true rfl⟩ dX7_deal_56 rfl (K_X7_draw E s6 l0) (fun p8 => ?_)
    refine Jo_ldc dX7_deal_59 w_744 ?_
    refine Jo_irem dX7_deal_61 ?_
    refine Jo_iloadn 1 dX7_deal_62 rfl rfl ?_
    refine Jo_iand dX7_deal_63 ?_
    refine Jo_iastore dX7_deal_64 (fun s9 => ?_)
    refine Jo_aloadn 0 dX7_deal_65 rfl rfl ?_
    refine Jo_iloadn 2 dX7_deal_66 rfl rfl ?_
    refine Jo_iconst (v := (0 : Int32)) dX7_deal_67 (by decide) ?_
    refine Jo_callVv (a := l0) (rest := []) [.int l2, .int (0 : Int32)] cc_7 yF_X7_learns yV_X7_learns w_708 rfl rfl ⟨Nat.le_of_ble_eq_true rfl, Nat.le_of_ble_eq_true rfl, Nat.le_of_ble_eq_true rfl⟩ dX7_deal_68 rfl (K_X7_learns E s9 l0 l2 (0 : Int32)) (fun p10 => ?_)
    refine Jo_iinc (v := (l2 + (1 : Int32))) (ls' := [(2, .int (l2 + (1 : Int32))), (0, .ref l0), (1, .int l1)]) 2 dX7_deal_71 rfl rfl (by decide) rfl ?_
    refine Jo_goto 13 dX7_deal_74 (by decide) ?_
    refine Jo_sub [1, 2, 0] rfl ?_
    exact h13 p10.2 l0 l1 (l2 + (1 : Int32))
theorem e_X7_deal_13 (E : jE)  (n : Nat) : ∀ (s : hS) (l0 : Nat) (l1 : Int32) (l2 : Int32) , Jo E M_X7_deal cvI 13 [(0, .ref l0), (1, .int l1), (2, .int l2)] [] s ((jL f_X7_deal_b13 (fun _ _ _ _ => none) n) l0 l1 l2 s) :=
  jL_ind (P := fun f => ∀ (s : hS) (l0 : Nat) (l1 : Int32) (l2 : Int32) , Jo E M_X7_deal cvI 13 [(0, .ref l0), (1, .int l1), (2, .int l2)] [] s (f l0 l1 l2 s)) (fun _ _ _ _ => Jo_none) (fun b hb s l0 l1 l2 => b_X7_deal_13 E  b hb s l0 l1 l2) n
def f_X7_deal (s : hS) (a0 : Nat) : Option (Int32 × hS) :=
  (gR s a0 7 0).bind fun a1 =>
  (aI s a1 10 (1 : Int32)).bind fun x2 =>
  nmv ((((1 : Int32) <<< (x2 &&& 31)) - (1 : Int32))) fun x3 =>
  jL f_X7_deal_b13 (fun _ _ _ _ => none) jF a0 x3 (0 : Int32) s
theorem b_X7_deal_in (E : jE)  (s : hS) (a0 : Nat)  : Jo E M_X7_deal cvI 0 [(0, .ref a0)] [] s (f_X7_deal s a0) := by
  unfold f_X7_deal
  refine Jo_iconst (v := (1 : Int32)) dX7_deal_0 (by decide) ?_
  refine Jo_aloadn 0 dX7_deal_1 rfl rfl ?_
  refine Jo_getR fF_7_0 fR_7_0 dX7_deal_2 w_598 (fun a1 => ?_)
  refine Jo_iconst (v := (1 : Int32)) dX7_deal_5 (by decide) ?_
  refine Jo_iaload dX7_deal_6 (fun x2 => ?_)
  refine Jo_ishl dX7_deal_7 ?_
  refine Jo_iconst (v := (1 : Int32)) dX7_deal_8 (by decide) ?_
  refine Jo_isub dX7_deal_9 ?_
  refine Jo_nm (fun x3 => ?_)
  refine Jo_istoren (ls' := [(1, .int x3), (0, .ref a0)]) dX7_deal_10 rfl (by decide) rfl ?_
  refine Jo_iconst (v := (0 : Int32)) dX7_deal_11 (by decide) ?_
  refine Jo_istoren (ls' := [(2, .int (0 : Int32)), (1, .int x3), (0, .ref a0)]) dX7_deal_12 rfl (by decide) rfl ?_
  refine Jo_sub [2, 1, 0] rfl ?_
  exact e_X7_deal_13 E jF s a0 x3 (0 : Int32)
theorem K_X7_deal (E : jE) (s : hS) (a0 : Nat) : jK E yX7_deal M_X7_deal cvI [.ref a0] s (f_X7_deal s a0) := jK_of ⟨by decide, rfl, rfl⟩ (Nat.le_of_ble_eq_true rfl) (b_X7_deal_in E s a0)
/-! HeronTalkModel.seed(I)I -/
abbrev M_X7_seed : jM := (RX7, cX7_seed, 2, (some .int), "seed", 1, 23)
theorem yF_X7_seed : yF yX7_seed M_X7_seed 1 := ⟨w_749, w_624, by decide +kernel⟩
theorem yV_X7_seed : Cond.instanceMethod yX7_seed ∈ tbG ∧ Cond.selects yX7_seed.cls yX7_seed yX7_seed ∈ tbG := ⟨w_750, w_751⟩
theorem dX7_seed_0 : dI cX7_seed 0 1 (.aload_n 0) 1 := ⟨by decide +kernel, rfl⟩
theorem dX7_seed_1 : dI cX7_seed 1 2 (.iconst 0) 1 := ⟨by decide +kernel, rfl⟩
theorem dX7_seed_2 : dI cX7_seed 2 3 (.iload_n 1) 1 := ⟨by decide +kernel, rfl⟩
theorem dX7_seed_3 : decode cX7_seed 3 = .ok (.invokevirtual 103, 3) := by decide +kernel
theorem dX7_seed_6 : dI cX7_seed 6 7 (.ireturn) 1 := ⟨by decide +kernel, rfl⟩
def f_X7_seed (s : hS) (a0 : Nat) (i1 : Int32) : Option (Int32 × hS) :=
  (cV s a0 7 (f_X7_becomes s a0 (0 : Int32) i1)).bind fun p1 =>
  some (p1.1, p1.2)
theorem b_X7_seed_in (E : jE)  (s : hS) (a0 : Nat) (i1 : Int32)  : Jo E M_X7_seed cvI 0 [(0, .ref a0), (1, .int i1)] [] s (f_X7_seed s a0 i1) := by
  unfold f_X7_seed
  refine Jo_aloadn 0 dX7_seed_0 rfl rfl ?_
  refine Jo_iconst (v := (0 : Int32)) dX7_seed_1 (by decide) ?_
  refine Jo_iloadn 1 dX7_seed_2 rfl rfl ?_
  refine Jo_callVi (a := a0) (rest := []) [.int (0 : Int32), .int i1] cc_7 yF_X7_becomes yV_X7_becomes w_687 rfl rfl ⟨Nat.le_of_ble_eq_true rfl, Nat.le_of_ble_eq_true rfl, Nat.le_of_ble_eq_true rfl⟩ dX7_seed_3 rfl (K_X7_becomes E s a0 (0 : Int32) i1) (fun p1 => ?_)
  exact Jo_iret rfl dX7_seed_6
theorem K_X7_seed (E : jE) (s : hS) (a0 : Nat) (i1 : Int32) : jK E yX7_seed M_X7_seed cvI [.ref a0, .int i1] s (f_X7_seed s a0 i1) := jK_of ⟨by decide, rfl, rfl⟩ (Nat.le_of_ble_eq_true rfl) (b_X7_seed_in E s a0 i1)
/-! HeronTalkModel.clock(I)I -/
abbrev M_X7_clock : jM := (RX7, cX7_clock, 2, (some .int), "clock", 1, 23)
theorem yF_X7_clock : yF yX7_clock M_X7_clock 1 := ⟨w_752, w_624, by decide +kernel⟩
theorem yV_X7_clock : Cond.instanceMethod yX7_clock ∈ tbG ∧ Cond.selects yX7_clock.cls yX7_clock yX7_clock ∈ tbG := ⟨w_753, w_754⟩
theorem dX7_clock_0 : dI cX7_clock 0 1 (.iload_n 1) 1 := ⟨by decide +kernel, rfl⟩
theorem dX7_clock_1 : dI cX7_clock 1 2 (.iconst 0) 1 := ⟨by decide +kernel, rfl⟩
theorem dX7_clock_2 : dI cX7_clock 2 5 (.sipush 999) 3 := ⟨by decide +kernel, rfl⟩
theorem dX7_clock_5 : decode cX7_clock 5 = .ok (.invokestatic 79, 3) := by decide +kernel
theorem dX7_clock_8 : decode cX7_clock 8 = .ok (.ifCond .eq 12, 3) := by decide +kernel
theorem dX7_clock_11 : dI cX7_clock 11 12 (.aload_n 0) 1 := ⟨by decide +kernel, rfl⟩
theorem dX7_clock_12 : dI cX7_clock 12 13 (.iconst 5) 1 := ⟨by decide +kernel, rfl⟩
theorem dX7_clock_13 : dI cX7_clock 13 14 (.iload_n 1) 1 := ⟨by decide +kernel, rfl⟩
theorem dX7_clock_14 : decode cX7_clock 14 = .ok (.invokevirtual 103, 3) := by decide +kernel
theorem dX7_clock_17 : decode cX7_clock 17 = .ok (.goto 5, 3) := by decide +kernel
theorem dX7_clock_20 : dI cX7_clock 20 22 (.ldc 87) 2 := ⟨by decide +kernel, rfl⟩
theorem dX7_clock_22 : dI cX7_clock 22 23 (.ireturn) 1 := ⟨by decide +kernel, rfl⟩
def f_X7_clock (s : hS) (a0 : Nat) (i1 : Int32) : Option (Int32 × hS) :=
  (f_X7_in s i1 (0 : Int32) (999 : Int32)).bind fun p1 =>
  if p1.1 = 0 then
    some ((-1000000001 : Int32), p1.2)
  else
    (cV p1.2 a0 7 (f_X7_becomes p1.2 a0 (5 : Int32) i1)).bind fun p2 =>
    some (p2.1, p2.2)
theorem b_X7_clock_in (E : jE)  (s : hS) (a0 : Nat) (i1 : Int32)  : Jo E M_X7_clock cvI 0 [(0, .ref a0), (1, .int i1)] [] s (f_X7_clock s a0 i1) := by
  unfold f_X7_clock
  refine Jo_iloadn 1 dX7_clock_0 rfl rfl ?_
  refine Jo_iconst (v := (0 : Int32)) dX7_clock_1 (by decide) ?_
  refine Jo_sipush (v := (999 : Int32)) dX7_clock_2 (by decide) ?_
  refine Jo_callSi (rest := []) [.int i1, .int (0 : Int32), .int (999 : Int32)] yF_X7_in yS_X7_in w_635 rfl rfl ⟨Nat.le_of_ble_eq_true rfl, Nat.le_of_ble_eq_true rfl, Nat.le_of_ble_eq_true rfl⟩ dX7_clock_5 rfl (K_X7_in E s i1 (0 : Int32) (999 : Int32)) (fun p1 => ?_)
  refine Jo_if_eq 20 dX7_clock_8 (by decide) rfl ?_ ?_
  · refine Jo_ldc dX7_clock_20 w_673 ?_
    exact Jo_iret rfl dX7_clock_22
  · refine Jo_aloadn 0 dX7_clock_11 rfl rfl ?_
    refine Jo_iconst (v := (5 : Int32)) dX7_clock_12 (by decide) ?_
    refine Jo_iloadn 1 dX7_clock_13 rfl rfl ?_
    refine Jo_callVi (a := a0) (rest := []) [.int (5 : Int32), .int i1] cc_7 yF_X7_becomes yV_X7_becomes w_687 rfl rfl ⟨Nat.le_of_ble_eq_true rfl, Nat.le_of_ble_eq_true rfl, Nat.le_of_ble_eq_true rfl⟩ dX7_clock_14 rfl (K_X7_becomes E p1.2 a0 (5 : Int32) i1) (fun p2 => ?_)
    refine Jo_goto 22 dX7_clock_17 (by decide) ?_
    exact Jo_iret rfl dX7_clock_22
theorem K_X7_clock (E : jE) (s : hS) (a0 : Nat) (i1 : Int32) : jK E yX7_clock M_X7_clock cvI [.ref a0, .int i1] s (f_X7_clock s a0 i1) := jK_of ⟨by decide, rfl, rfl⟩ (Nat.le_of_ble_eq_true rfl) (b_X7_clock_in E s a0 i1)
/-! HeronTalkModel.talk(III)I -/
abbrev M_X7_talk : jM := (RX7, cX7_talk, 5, (some .int), "talk", 2, 43)
theorem yF_X7_talk : yF yX7_talk M_X7_talk 3 := ⟨w_755, w_624, by decide +kernel⟩
theorem yV_X7_talk : Cond.instanceMethod yX7_talk ∈ tbG ∧ Cond.selects yX7_talk.cls yX7_talk yX7_talk ∈ tbG := ⟨w_756, w_757⟩
theorem dX7_talk_0 : dI cX7_talk 0 1 (.iload_n 1) 1 := ⟨by decide +kernel, rfl⟩
theorem dX7_talk_1 : dI cX7_talk 1 2 (.iconst 0) 1 := ⟨by decide +kernel, rfl⟩
theorem dX7_talk_2 : dI cX7_talk 2 3 (.iconst 5) 1 := ⟨by decide +kernel, rfl⟩
theorem dX7_talk_3 : decode cX7_talk 3 = .ok (.invokestatic 79, 3) := by decide +kernel
theorem dX7_talk_6 : decode cX7_talk 6 = .ok (.ifCond .eq 24, 3) := by decide +kernel
theorem dX7_talk_9 : dI cX7_talk 9 10 (.aload_n 0) 1 := ⟨by decide +kernel, rfl⟩
theorem dX7_talk_10 : dI cX7_talk 10 11 (.iload_n 2) 1 := ⟨by decide +kernel, rfl⟩
theorem dX7_talk_11 : decode cX7_talk 11 = .ok (.invokevirtual 110, 3) := by decide +kernel
theorem dX7_talk_14 : decode cX7_talk 14 = .ok (.ifCond .eq 16, 3) := by decide +kernel
theorem dX7_talk_17 : dI cX7_talk 17 18 (.aload_n 0) 1 := ⟨by decide +kernel, rfl⟩
theorem dX7_talk_18 : dI cX7_talk 18 19 (.iload_n 3) 1 := ⟨by decide +kernel, rfl⟩
theorem dX7_talk_19 : decode cX7_talk 19 = .ok (.invokevirtual 110, 3) := by decide +kernel
theorem dX7_talk_22 : decode cX7_talk 22 = .ok (.ifCond .eq 8, 3) := by decide +kernel
theorem dX7_talk_25 : dI cX7_talk 25 26 (.iload_n 2) 1 := ⟨by decide +kernel, rfl⟩
theorem dX7_talk_26 : dI cX7_talk 26 27 (.iload_n 3) 1 := ⟨by decide +kernel, rfl⟩
theorem dX7_talk_27 : decode cX7_talk 27 = .ok (.if_icmp .ne 6, 3) := by decide +kernel
theorem dX7_talk_30 : dI cX7_talk 30 32 (.ldc 87) 2 := ⟨by decide +kernel, rfl⟩
theorem dX7_talk_32 : dI cX7_talk 32 33 (.ireturn) 1 := ⟨by decide +kernel, rfl⟩
theorem dX7_talk_33 : dI cX7_talk 33 34 (.aload_n 0) 1 := ⟨by decide +kernel, rfl⟩
theorem dX7_talk_34 : dI cX7_talk 34 37 (.getfield 9) 3 := ⟨by decide +kernel, rfl⟩
theorem dX7_talk_37 : dI cX7_talk 37 38 (.iconst 3) 1 := ⟨by decide +kernel, rfl⟩
theorem dX7_talk_38 : dI cX7_talk 38 39 (.iaload) 1 := ⟨by decide +kernel, rfl⟩
theorem dX7_talk_39 : dI cX7_talk 39 41 (.bipush 8) 2 := ⟨by decide +kernel, rfl⟩
theorem dX7_talk_41 : decode cX7_talk 41 = .ok (.if_icmp .ne 6, 3) := by decide +kernel
theorem dX7_talk_44 : dI cX7_talk 44 46 (.ldc 88) 2 := ⟨by decide +kernel, rfl⟩
theorem dX7_talk_46 : dI cX7_talk 46 47 (.ireturn) 1 := ⟨by decide +kernel, rfl⟩
theorem dX7_talk_47 : dI cX7_talk 47 49 (.bipush 80) 2 := ⟨by decide +kernel, rfl⟩
theorem dX7_talk_49 : dI cX7_talk 49 50 (.iconst 3) 1 := ⟨by decide +kernel, rfl⟩
theorem dX7_talk_50 : dI cX7_talk 50 51 (.aload_n 0) 1 := ⟨by decide +kernel, rfl⟩
theorem dX7_talk_51 : dI cX7_talk 51 54 (.getfield 9) 3 := ⟨by decide +kernel, rfl⟩
theorem dX7_talk_54 : dI cX7_talk 54 55 (.iconst 3) 1 := ⟨by decide +kernel, rfl⟩
theorem dX7_talk_55 : dI cX7_talk 55 56 (.iaload) 1 := ⟨by decide +kernel, rfl⟩
theorem dX7_talk_56 : dI cX7_talk 56 57 (.imul) 1 := ⟨by decide +kernel, rfl⟩
theorem dX7_talk_57 : dI cX7_talk 57 58 (.iadd) 1 := ⟨by decide +kernel, rfl⟩
theorem dX7_talk_58 : dI cX7_talk 58 60 (.istore 4) 2 := ⟨by decide +kernel, rfl⟩
theorem dX7_talk_60 : dI cX7_talk 60 61 (.aload_n 0) 1 := ⟨by decide +kernel, rfl⟩
theorem dX7_talk_61 : dI cX7_talk 61 64 (.getfield 9) 3 := ⟨by decide +kernel, rfl⟩
theorem dX7_talk_64 : dI cX7_talk 64 66 (.iload 4) 2 := ⟨by decide +kernel, rfl⟩
theorem dX7_talk_66 : dI cX7_talk 66 67 (.iload_n 1) 1 := ⟨by decide +kernel, rfl⟩
theorem dX7_talk_67 : dI cX7_talk 67 68 (.iastore) 1 := ⟨by decide +kernel, rfl⟩
theorem dX7_talk_68 : dI cX7_talk 68 69 (.aload_n 0) 1 := ⟨by decide +kernel, rfl⟩
theorem dX7_talk_69 : dI cX7_talk 69 72 (.getfield 9) 3 := ⟨by decide +kernel, rfl⟩
theorem dX7_talk_72 : dI cX7_talk 72 74 (.iload 4) 2 := ⟨by decide +kernel, rfl⟩
theorem dX7_talk_74 : dI cX7_talk 74 75 (.iconst 1) 1 := ⟨by decide +kernel, rfl⟩
theorem dX7_talk_75 : dI cX7_talk 75 76 (.iadd) 1 := ⟨by decide +kernel, rfl⟩
theorem dX7_talk_76 : dI cX7_talk 76 77 (.iload_n 2) 1 := ⟨by decide +kernel, rfl⟩
theorem dX7_talk_77 : dI cX7_talk 77 78 (.iastore) 1 := ⟨by decide +kernel, rfl⟩
theorem dX7_talk_78 : dI cX7_talk 78 79 (.aload_n 0) 1 := ⟨by decide +kernel, rfl⟩
theorem dX7_talk_79 : dI cX7_talk 79 82 (.getfield 9) 3 := ⟨by decide +kernel, rfl⟩
theorem dX7_talk_82 : dI cX7_talk 82 84 (.iload 4) 2 := ⟨by decide +kernel, rfl⟩
theorem dX7_talk_84 : dI cX7_talk 84 85 (.iconst 2) 1 := ⟨by decide +kernel, rfl⟩
theorem dX7_talk_85 : dI cX7_talk 85 86 (.iadd) 1 := ⟨by decide +kernel, rfl⟩
theorem dX7_talk_86 : dI cX7_talk 86 87 (.iload_n 3) 1 := ⟨by decide +kernel, rfl⟩
theorem dX7_talk_87 : dI cX7_talk 87 88 (.iastore) 1 := ⟨by decide +kernel, rfl⟩
theorem dX7_talk_88 : dI cX7_talk 88 89 (.aload_n 0) 1 := ⟨by decide +kernel, rfl⟩
theorem dX7_talk_89 : dI cX7_talk 89 92 (.getfield 9) 3 := ⟨by decide +kernel, rfl⟩
theorem dX7_talk_92 : dI cX7_talk 92 93 (.iconst 3) 1 := ⟨by decide +kernel, rfl⟩
theorem dX7_talk_93 : dI cX7_talk 93 94 (.dup2) 1 := ⟨by decide +kernel, rfl⟩
theorem dX7_talk_94 : dI cX7_talk 94 95 (.iaload) 1 := ⟨by decide +kernel, rfl⟩
theorem dX7_talk_95 : dI cX7_talk 95 96 (.iconst 1) 1 := ⟨by decide +kernel, rfl⟩
theorem dX7_talk_96 : dI cX7_talk 96 97 (.iadd) 1 := ⟨by decide +kernel, rfl⟩
theorem dX7_talk_97 : dI cX7_talk 97 98 (.iastore) 1 := ⟨by decide +kernel, rfl⟩
theorem dX7_talk_98 : dI cX7_talk 98 99 (.aload_n 0) 1 := ⟨by decide +kernel, rfl⟩
theorem dX7_talk_99 : dI cX7_talk 99 102 (.getfield 9) 3 := ⟨by decide +kernel, rfl⟩
theorem dX7_talk_102 : dI cX7_talk 102 103 (.iconst 3) 1 := ⟨by decide +kernel, rfl⟩
theorem dX7_talk_103 : dI cX7_talk 103 104 (.iaload) 1 := ⟨by decide +kernel, rfl⟩
theorem dX7_talk_104 : dI cX7_talk 104 105 (.iconst 1) 1 := ⟨by decide +kernel, rfl⟩
theorem dX7_talk_105 : dI cX7_talk 105 106 (.isub) 1 := ⟨by decide +kernel, rfl⟩
theorem dX7_talk_106 : dI cX7_talk 106 107 (.ireturn) 1 := ⟨by decide +kernel, rfl⟩
def f_X7_talk (s : hS) (a0 : Nat) (i1 : Int32) (i2 : Int32) (i3 : Int32) : Option (Int32 × hS) :=
  (f_X7_in s i1 (0 : Int32) (5 : Int32)).bind fun p1 =>
  if p1.1 = 0 then
    some ((-1000000001 : Int32), p1.2)
  else
    (cV p1.2 a0 7 (f_X7_isPerson p1.2 a0 i2)).bind fun p2 =>
    if p2.1 = 0 then
      some ((-1000000001 : Int32), p2.2)
    else
      (cV p2.2 a0 7 (f_X7_isPerson p2.2 a0 i3)).bind fun p3 =>
      if p3.1 = 0 then
        some ((-1000000001 : Int32), p3.2)
      else
        if i2 = i3 then
          some ((-1000000001 : Int32), p3.2)
        else
          (gR p3.2 a0 7 0).bind fun a4 =>
          (aI p3.2 a4 10 (3 : Int32)).bind fun x5 =>
          if x5 = (8 : Int32) then
            some ((-1000000003 : Int32), p3.2)
          else
            (gR p3.2 a0 7 0).bind fun a6 =>
            (aI p3.2 a6 10 (3 : Int32)).bind fun x7 =>
            nmv (((80 : Int32) + ((3 : Int32) * x7))) fun x8 =>
            (gR p3.2 a0 7 0).bind fun a9 =>
            (sI p3.2 a9 10 x8 i1).bind fun s10 =>
            (gR s10 a0 7 0).bind fun a11 =>
            (sI s10 a11 10 (x8 + (1 : Int32)) i2).bind fun s12 =>
            (gR s12 a0 7 0).bind fun a13 =>
            (sI s12 a13 10 (x8 + (2 : Int32)) i3).bind fun s14 =>
            (gR s14 a0 7 0).bind fun a15 =>
            (aI s14 a15 10 (3 : Int32)).bind fun x16 =>
            (sI s14 a15 10 (3 : Int32) (x16 + (1 : Int32))).bind fun s17 =>
            (gR s17 a0 7 0).bind fun a18 =>
            (aI s17 a18 10 (3 : Int32)).bind fun x19 =>
            some ((x19 - (1 : Int32)), s17)
theorem b_X7_talk_in (E : jE)  (s : hS) (a0 : Nat) (i1 : Int32) (i2 : Int32) (i3 : Int32)  : Jo E M_X7_talk cvI 0 [(0, .ref a0), (1, .int i1), (2, .int i2), (3, .int i3)] [] s (f_X7_talk s a0 i1 i2 i3) := by
  unfold f_X7_talk
  refine Jo_iloadn 1 dX7_talk_0 rfl rfl ?_
  refine Jo_iconst (v := (0 : Int32)) dX7_talk_1 (by decide) ?_
  refine Jo_iconst (v := (5 : Int32)) dX7_talk_2 (by decide) ?_
  refine Jo_callSi (rest := []) [.int i1, .int (0 : Int32), .int (5 : Int32)] yF_X7_in yS_X7_in w_635 rfl rfl ⟨Nat.le_of_ble_eq_true rfl, Nat.le_of_ble_eq_true rfl, Nat.le_of_ble_eq_true rfl⟩ dX7_talk_3 rfl (K_X7_in E s i1 (0 : Int32) (5 : Int32)) (fun p1 => ?_)
  refine Jo_if_eq 30 dX7_talk_6 (by decide) rfl ?_ ?_
  · refine Jo_ldc dX7_talk_30 w_673 ?_
    exact Jo_iret rfl dX7_talk_32
  · refine Jo_aloadn 0 dX7_talk_9 rfl rfl ?_
    refine Jo_iloadn 2 dX7_talk_10 rfl rfl ?_
    refine Jo_callVi (a := a0) (rest := []) [.int i2] cc_7 yF_X7_isPerson yV_X7_isPerson w_704 rfl rfl ⟨Nat.le_of_ble_eq_true rfl, Nat.le_of_ble_eq_true rfl, Nat.le_of_ble_eq_true rfl⟩ dX7_talk_11 rfl (K_X7_isPerson E p1.2 a0 i2) (fun p2 => ?_)
    refine Jo_if_eq 30 dX7_talk_14 (by decide) rfl ?_ ?_
    · refine Jo_ldc dX7_talk_30 w_673 ?_
      exact Jo_iret rfl dX7_talk_32
    · refine Jo_aloadn 0 dX7_talk_17 rfl rfl ?_
      refine Jo_iloadn 3 dX7_talk_18 rfl rfl ?_
      refine Jo_callVi (a := a0) (rest := []) [.int i3] cc_7 yF_X7_isPerson yV_X7_isPerson w_704 rfl rfl ⟨Nat.le_of_ble_eq_true rfl, Nat.le_of_ble_eq_true rfl, Nat.le_of_ble_eq_true rfl⟩ dX7_talk_19 rfl (K_X7_isPerson E p2.2 a0 i3) (fun p3 => ?_)
      refine Jo_if_eq 30 dX7_talk_22 (by decide) rfl ?_ ?_
      · refine Jo_ldc dX7_talk_30 w_673 ?_
        exact Jo_iret rfl dX7_talk_32
      · refine Jo_iloadn 2 dX7_talk_25 rfl rfl ?_
        refine Jo_iloadn 3 dX7_talk_26 rfl rfl ?_
        refine Jo_icmp_ne 33 dX7_talk_27 (by decide) rfl ?_ ?_
        · refine Jo_ldc dX7_talk_30 w_673 ?_
          exact Jo_iret rfl dX7_talk_32
        · refine Jo_aloadn 0 dX7_talk_33 rfl rfl ?_
          refine Jo_getR fF_7_0 fR_7_0 dX7_talk_34 w_598 (fun a4 => ?_)
          refine Jo_iconst (v := (3 : Int32)) dX7_talk_37 (by decide) ?_
          refine Jo_iaload dX7_talk_38 (fun x5 => ?_)
          refine Jo_bipush (v := (8 : Int32)) dX7_talk_39 (by decide) ?_
          refine Jo_icmp_ne 47 dX7_talk_41 (by decide) rfl ?_ ?_
          · refine Jo_ldc dX7_talk_44 w_672 ?_
            exact Jo_iret rfl dX7_talk_46
          · refine Jo_bipush (v := (80 : Int32)) dX7_talk_47 (by decide) ?_
            refine Jo_iconst (v := (3 : Int32)) dX7_talk_49 (by decide) ?_
            refine Jo_aloadn 0 dX7_talk_50 rfl rfl ?_
            refine Jo_getR fF_7_0 fR_7_0 dX7_talk_51 w_598 (fun a6 => ?_)
            refine Jo_iconst (v := (3 : Int32)) dX7_talk_54 (by decide) ?_
            refine Jo_iaload dX7_talk_55 (fun x7 => ?_)
            refine Jo_imul dX7_talk_56 ?_
            refine Jo_iadd dX7_talk_57 ?_
            refine Jo_nm (fun x8 => ?_)
            refine Jo_istore (ls' := [(4, .int x8), (0, .ref a0), (1, .int i1), (2, .int i2), (3, .int i3)]) dX7_talk_58 (by decide) rfl ?_
            refine Jo_aloadn 1 dX7_talk_60 rfl rfl ?_
            refine Jo_getR fF_7_0 fR_7_0 dX7_talk_61 w_598 (fun a9 => ?_)
            refine Jo_iload 0 dX7_talk_64 rfl ?_
            refine Jo_iloadn 2 dX7_talk_66 rfl rfl ?_
            refine Jo_iastore dX7_talk_67 (fun s10 => ?_)
            refine Jo_aloadn 1 dX7_talk_68 rfl rfl ?_
            refine Jo_getR fF_7_0 fR_7_0 dX7_talk_69 w_598 (fun a11 => ?_)
            refine Jo_iload 0 dX7_talk_72 rfl ?_
            refine Jo_iconst (v := (1 : Int32)) dX7_talk_74 (by decide) ?_
            refine Jo_iadd dX7_talk_75 ?_
            refine Jo_iloadn 3 dX7_talk_76 rfl rfl ?_
            refine Jo_iastore dX7_talk_77 (fun s12 => ?_)
            refine Jo_aloadn 1 dX7_talk_78 rfl rfl ?_
            refine Jo_getR fF_7_0 fR_7_0 dX7_talk_79 w_598 (fun a13 => ?_)
            refine Jo_iload 0 dX7_talk_82 rfl ?_
            refine Jo_iconst (v := (2 : Int32)) dX7_talk_84 (by decide) ?_
            refine Jo_iadd dX7_talk_85 ?_
            refine Jo_iloadn 4 dX7_talk_86 rfl rfl ?_
            refine Jo_iastore dX7_talk_87 (fun s14 => ?_)
            refine Jo_aloadn 1 dX7_talk_88 rfl rfl ?_
            refine Jo_getR fF_7_0 fR_7_0 dX7_talk_89 w_598 (fun a15 => ?_)
            refine Jo_iconst (v := (3 : Int32)) dX7_talk_92 (by decide) ?_
            refine Jo_dup2 dX7_talk_93 rfl rfl ?_
            refine Jo_iaload dX7_talk_94 (fun x16 => ?_)
            refine Jo_iconst (v := (1 : Int32)) dX7_talk_95 (by decide) ?_
            refine Jo_iadd dX7_talk_96 ?_
            refine Jo_iastore dX7_talk_97 (fun s17 => ?_)
            refine Jo_aloadn 1 dX7_talk_98 rfl rfl ?_
            refine Jo_getR fF_7_0 fR_7_0 dX7_talk_99 w_598 (fun a18 => ?_)
            refine Jo_iconst (v := (3 : Int32)) dX7_talk_102 (by decide) ?_
            refine Jo_iaload dX7_talk_103 (fun x19 => ?_)
            refine Jo_iconst (v := (1 : Int32)) dX7_talk_104 (by decide) ?_
            refine Jo_isub dX7_talk_105 ?_
            exact Jo_iret rfl dX7_talk_106
theorem K_X7_talk (E : jE) (s : hS) (a0 : Nat) (i1 : Int32) (i2 : Int32) (i3 : Int32) : jK E yX7_talk M_X7_talk cvI [.ref a0, .int i1, .int i2, .int i3] s (f_X7_talk s a0 i1 i2 i3) := jK_of ⟨by decide, rfl, rfl⟩ (Nat.le_of_ble_eq_true rfl) (b_X7_talk_in E s a0 i1 i2 i3)
/-! HeronTalkModel.best(IIIZI)I -/
abbrev M_X7_best : jM := (RX7, cX7_best, 11, (some .int), "best", 4, 90)
theorem yF_X7_best : yF yX7_best M_X7_best 5 := ⟨w_758, w_624, by decide +kernel⟩
theorem yV_X7_best : Cond.instanceMethod yX7_best ∈ tbG ∧ Cond.selects yX7_best.cls yX7_best yX7_best ∈ tbG := ⟨w_759, w_760⟩
theorem dX7_best_0 : dI cX7_best 0 1 (.iconst (-1)) 1 := ⟨by decide +kernel, rfl⟩
theorem dX7_best_1 : dI cX7_best 1 3 (.istore 6) 2 := ⟨by decide +kernel, rfl⟩
theorem dX7_best_3 : dI cX7_best 3 4 (.iconst 0) 1 := ⟨by decide +kernel, rfl⟩
theorem dX7_best_4 : dI cX7_best 4 6 (.istore 7) 2 := ⟨by decide +kernel, rfl⟩
theorem dX7_best_6 : dI cX7_best 6 7 (.iconst 0) 1 := ⟨by decide +kernel, rfl⟩
theorem dX7_best_7 : dI cX7_best 7 9 (.istore 8) 2 := ⟨by decide +kernel, rfl⟩
theorem dX7_best_9 : dI cX7_best 9 11 (.iload 8) 2 := ⟨by decide +kernel, rfl⟩
theorem dX7_best_11 : dI cX7_best 11 12 (.aload_n 0) 1 := ⟨by decide +kernel, rfl⟩
theorem dX7_best_12 : dI cX7_best 12 15 (.getfield 9) 3 := ⟨by decide +kernel, rfl⟩
theorem dX7_best_15 : dI cX7_best 15 16 (.iconst 1) 1 := ⟨by decide +kernel, rfl⟩
theorem dX7_best_16 : dI cX7_best 16 17 (.iaload) 1 := ⟨by decide +kernel, rfl⟩
theorem dX7_best_17 : decode cX7_best 17 = .ok (.if_icmp .ge 118, 3) := by decide +kernel
theorem dX7_best_20 : dI cX7_best 20 21 (.aload_n 0) 1 := ⟨by decide +kernel, rfl⟩
theorem dX7_best_21 : dI cX7_best 21 23 (.iload 8) 2 := ⟨by decide +kernel, rfl⟩
theorem dX7_best_23 : decode cX7_best 23 = .ok (.invokevirtual 97, 3) := by decide +kernel
theorem dX7_best_26 : decode cX7_best 26 = .ok (.ifCond .eq 103, 3) := by decide +kernel
theorem dX7_best_29 : dI cX7_best 29 30 (.aload_n 0) 1 := ⟨by decide +kernel, rfl⟩
theorem dX7_best_30 : dI cX7_best 30 31 (.iload_n 1) 1 := ⟨by decide +kernel, rfl⟩
theorem dX7_best_31 : dI cX7_best 31 33 (.iload 8) 2 := ⟨by decide +kernel, rfl⟩
theorem dX7_best_33 : decode cX7_best 33 = .ok (.invokevirtual 89, 3) := by decide +kernel
theorem dX7_best_36 : decode cX7_best 36 = .ok (.ifCond .eq 93, 3) := by decide +kernel
theorem dX7_best_39 : dI cX7_best 39 40 (.aload_n 0) 1 := ⟨by decide +kernel, rfl⟩
theorem dX7_best_40 : dI cX7_best 40 41 (.iload_n 2) 1 := ⟨by decide +kernel, rfl⟩
theorem dX7_best_41 : dI cX7_best 41 43 (.iload 8) 2 := ⟨by decide +kernel, rfl⟩
theorem dX7_best_43 : decode cX7_best 43 = .ok (.invokevirtual 89, 3) := by decide +kernel
theorem dX7_best_46 : decode cX7_best 46 = .ok (.ifCond .ne 83, 3) := by decide +kernel
theorem dX7_best_49 : dI cX7_best 49 50 (.aload_n 0) 1 := ⟨by decide +kernel, rfl⟩
theorem dX7_best_50 : dI cX7_best 50 52 (.iload 8) 2 := ⟨by decide +kernel, rfl⟩
theorem dX7_best_52 : dI cX7_best 52 53 (.iload_n 3) 1 := ⟨by decide +kernel, rfl⟩
theorem dX7_best_53 : decode cX7_best 53 = .ok (.invokevirtual 142, 3) := by decide +kernel
theorem dX7_best_56 : dI cX7_best 56 58 (.istore 9) 2 := ⟨by decide +kernel, rfl⟩
theorem dX7_best_58 : dI cX7_best 58 60 (.iload 6) 2 := ⟨by decide +kernel, rfl⟩
theorem dX7_best_60 : decode cX7_best 60 = .ok (.ifCond .lt 25, 3) := by decide +kernel
theorem dX7_best_63 : dI cX7_best 63 65 (.iload 4) 2 := ⟨by decide +kernel, rfl⟩
theorem dX7_best_65 : decode cX7_best 65 = .ok (.ifCond .eq 13, 3) := by decide +kernel
theorem dX7_best_68 : dI cX7_best 68 70 (.iload 9) 2 := ⟨by decide +kernel, rfl⟩
theorem dX7_best_70 : dI cX7_best 70 72 (.iload 7) 2 := ⟨by decide +kernel, rfl⟩
theorem dX7_best_72 : decode cX7_best 72 = .ok (.if_icmp .le 17, 3) := by decide +kernel
theorem dX7_best_75 : decode cX7_best 75 = .ok (.goto 10, 3) := by decide +kernel
theorem dX7_best_78 : dI cX7_best 78 80 (.iload 9) 2 := ⟨by decide +kernel, rfl⟩
theorem dX7_best_80 : dI cX7_best 80 82 (.iload 7) 2 := ⟨by decide +kernel, rfl⟩
theorem dX7_best_82 : decode cX7_best 82 = .ok (.if_icmp .ge 7, 3) := by decide +kernel
theorem dX7_best_85 : dI cX7_best 85 86 (.iconst 1) 1 := ⟨by decide +kernel, rfl⟩
theorem dX7_best_86 : decode cX7_best 86 = .ok (.goto 4, 3) := by decide +kernel
theorem dX7_best_89 : dI cX7_best 89 90 (.iconst 0) 1 := ⟨by decide +kernel, rfl⟩
theorem dX7_best_90 : dI cX7_best 90 92 (.istore 10) 2 := ⟨by decide +kernel, rfl⟩
theorem dX7_best_92 : dI cX7_best 92 94 (.iload 9) 2 := ⟨by decide +kernel, rfl⟩
theorem dX7_best_94 : dI cX7_best 94 96 (.iload 5) 2 := ⟨by decide +kernel, rfl⟩
theorem dX7_best_96 : decode cX7_best 96 = .ok (.if_icmp .gt 13, 3) := by decide +kernel
theorem dX7_best_99 : dI cX7_best 99 101 (.iload 10) 2 := ⟨by decide +kernel, rfl⟩
theorem dX7_best_101 : decode cX7_best 101 = .ok (.ifCond .eq 8, 3) := by decide +kernel
theorem dX7_best_104 : dI cX7_best 104 106 (.iload 8) 2 := ⟨by decide +kernel, rfl⟩
theorem dX7_best_106 : decode cX7_best 106 = .ok (.goto 5, 3) := by decide +kernel
theorem dX7_best_109 : dI cX7_best 109 111 (.iload 6) 2 := ⟨by decide +kernel, rfl⟩
theorem dX7_best_111 : dI cX7_best 111 113 (.istore 6) 2 := ⟨by decide +kernel, rfl⟩
theorem dX7_best_113 : dI cX7_best 113 115 (.iload 6) 2 := ⟨by decide +kernel, rfl⟩
theorem dX7_best_115 : dI cX7_best 115 117 (.iload 8) 2 := ⟨by decide +kernel, rfl⟩
theorem dX7_best_117 : decode cX7_best 117 = .ok (.if_icmp .ne 8, 3) := by decide +kernel
theorem dX7_best_120 : dI cX7_best 120 122 (.iload 9) 2 := ⟨by decide +kernel, rfl⟩
theorem dX7_best_122 : decode cX7_best 122 = .ok (.goto 5, 3) := by decide +kernel
theorem dX7_best_125 : dI cX7_best 125 127 (.iload 7) 2 := ⟨by decide +kernel, rfl⟩
theorem dX7_best_127 : dI cX7_best 127 129 (.istore 7) 2 := ⟨by decide +kernel, rfl⟩
theorem dX7_best_129 : dI cX7_best 129 132 (.iinc 8 1) 3 := ⟨by decide +kernel, rfl⟩
theorem dX7_best_132 : decode cX7_best 132 = .ok (.goto (-123), 3) := by decide +kernel
theorem dX7_best_135 : dI cX7_best 135 137 (.iload 6) 2 := ⟨by decide +kernel, rfl⟩
theorem dX7_best_137 : dI cX7_best 137 138 (.ireturn) 1 := ⟨by decide +kernel, rfl⟩
def f_X7_best_b129 (k9 : Nat → Int32 → Int32 → Int32 → Int32 → Int32 → Int32 → Int32 → Int32 → hS → Option (Int32 × hS)) (l0 : Nat) (l1 : Int32) (l2 : Int32) (l3 : Int32) (l4 : Int32) (l5 : Int32) (l6 : Int32) (l7 : Int32) (l8 : Int32) (s : hS) : Option (Int32 × hS) :=
  k9 l0 l1 l2 l3 l4 l5 l6 l7 (l8 + (1 : Int32)) s
theorem b_X7_best_129 (E : jE) (k9 : Nat → Int32 → Int32 → Int32 → Int32 → Int32 → Int32 → Int32 → Int32 → hS → Option (Int32 × hS)) (h9 : ∀ (s : hS) (l0 : Nat) (l1 : Int32) (l2 : Int32) (l3 : Int32) (l4 : Int32) (l5 : Int32) (l6 : Int32) (l7 : Int32) (l8 : Int32) , Jo E M_X7_best cvI 9 [(0, .ref l0), (1, .int l1), (2, .int l2), (3, .int l3), (4, .int l4), (5, .int l5), (6, .int l6), (7, .int l7), (8, .int l8)] [] s (k9 l0 l1 l2 l3 l4 l5 l6 l7 l8 s)) (s : hS) (l0 : Nat) (l1 : Int32) (l2 : Int32) (l3 : Int32) (l4 : Int32) (l5 : Int32) (l6 : Int32) (l7 : Int32) (l8 : Int32)  : Jo E M_X7_best cvI 129 [(0, .ref l0), (1, .int l1), (2, .int l2), (3, .int l3), (4, .int l4), (5, .int l5), (6, .int l6), (7, .int l7), (8, .int l8)] [] s (f_X7_best_b129 k9 l0 l1 l2 l3 l4 l5 l6 l7 l8 s) := by
  unfold f_X7_best_b129
  refine Jo_iinc (v := (l8 + (1 : Int32))) (ls' := [(8, .int (l8 + (1 : Int32))), (0, .ref l0), (1, .int l1), (2, .int l2), (3, .int l3), (4, .int l4), (5, .int l5), (6, .int l6), (7, .int l7)]) 8 dX7_best_129 rfl rfl (by decide) rfl ?_
  refine Jo_goto 9 dX7_best_132 (by decide) ?_
  refine Jo_sub [1, 2, 3, 4, 5, 6, 7, 8, 0] rfl ?_
  exact h9 s l0 l1 l2 l3 l4 l5 l6 l7 (l8 + (1 : Int32))
def f_X7_best_b127 (k9 : Nat → Int32 → Int32 → Int32 → Int32 → Int32 → Int32 → Int32 → Int32 → hS → Option (Int32 × hS)) (l0 : Nat) (l1 : Int32) (l2 : Int32) (l3 : Int32) (l4 : Int32) (l5 : Int32) (l6 : Int32) (l8 : Int32) (t0 : Int32) (s : hS) : Option (Int32 × hS) :=
  f_X7_best_b129 k9 l0 l1 l2 l3 l4 l5 l6 t0 l8 s
theorem b_X7_best_127 (E : jE) (k9 : Nat → Int32 → Int32 → Int32 → Int32 → Int32 → Int32 → Int32 → Int32 → hS → Option (Int32 × hS)) (h9 : ∀ (s : hS) (l0 : Nat) (l1 : Int32) (l2 : Int32) (l3 : Int32) (l4 : Int32) (l5 : Int32) (l6 : Int32) (l7 : Int32) (l8 : Int32) , Jo E M_X7_best cvI 9 [(0, .ref l0), (1, .int l1), (2, .int l2), (3, .int l3), (4, .int l4), (5, .int l5), (6, .int l6), (7, .int l7), (8, .int l8)] [] s (k9 l0 l1 l2 l3 l4 l5 l6 l7 l8 s)) (s : hS) (l0 : Nat) (l1 : Int32) (l2 : Int32) (l3 : Int32) (l4 : Int32) (l5 : Int32) (l6 : Int32) (l8 : Int32) (t0 : Int32) : Jo E M_X7_best cvI 127 [(0, .ref l0), (1, .int l1), (2, .int l2), (3, .int l3), (4, .int l4), (5, .int l5), (6, .int l6), (8, .int l8)] [.int t0] s (f_X7_best_b127 k9 l0 l1 l2 l3 l4 l5 l6 l8 t0 s) := by
  unfold f_X7_best_b127
  refine Jo_istore (ls' := [(7, .int t0), (0, .ref l0), (1, .int l1), (2, .int l2), (3, .int l3), (4, .int l4), (5, .int l5), (6, .int l6), (8, .int l8)]) dX7_best_127 (by decide) rfl ?_
  refine Jo_sub [1, 2, 3, 4, 5, 6, 7, 0, 8] rfl ?_
  exact b_X7_best_129 E k9 h9 s l0 l1 l2 l3 l4 l5 l6 t0 l8
def f_X7_best_b111 (k9 : Nat → Int32 → Int32 → Int32 → Int32 → Int32 → Int32 → Int32 → Int32 → hS → Option (Int32 × hS)) (l0 : Nat) (l1 : Int32) (l2 : Int32) (l3 : Int32) (l4 : Int32) (l5 : Int32) (l7 : Int32) (l8 : Int32) (l9 : Int32) (t0 : Int32) (s : hS) : Option (Int32 × hS) :=
  if t0 = l8 then
    f_X7_best_b127 k9 l0 l1 l2 l3 l4 l5 t0 l8 l9 s
  else
    f_X7_best_b127 k9 l0 l1 l2 l3 l4 l5 t0 l8 l7 s
theorem b_X7_best_111 (E : jE) (k9 : Nat → Int32 → Int32 → Int32 → Int32 → Int32 → Int32 → Int32 → Int32 → hS → Option (Int32 × hS)) (h9 : ∀ (s : hS) (l0 : Nat) (l1 : Int32) (l2 : Int32) (l3 : Int32) (l4 : Int32) (l5 : Int32) (l6 : Int32) (l7 : Int32) (l8 : Int32) , Jo E M_X7_best cvI 9 [(0, .ref l0), (1, .int l1), (2, .int l2), (3, .int l3), (4, .int l4), (5, .int l5), (6, .int l6), (7, .int l7), (8, .int l8)] [] s (k9 l0 l1 l2 l3 l4 l5 l6 l7 l8 s)) (s : hS) (l0 : Nat) (l1 : Int32) (l2 : Int32) (l3 : Int32) (l4 : Int32) (l5 : Int32) (l7 : Int32) (l8 : Int32) (l9 : Int32) (t0 : Int32) : Jo E M_X7_best cvI 111 [(0, .ref l0), (1, .int l1), (2, .int l2), (3, .int l3), (4, .int l4), (5, .int l5), (7, .int l7), (8, .int l8), (9, .int l9)] [.int t0] s (f_X7_best_b111 k9 l0 l1 l2 l3 l4 l5 l7 l8 l9 t0 s) := by
  unfold f_X7_best_b111
  refine Jo_istore (ls' := [(6, .int t0), (0, .ref l0), (1, .int l1), (2, .int l2), (3, .int l3), (4, .int l4), (5, .int l5), (7, .int l7), (8, .int l8), (9, .int l9)]) dX7_best_111 (by decide) rfl ?_
  refine Jo_iload 0 dX7_best_113 rfl ?_
  refine Jo_iload 8 dX7_best_115 rfl ?_
  refine Jo_icmp_ne 125 dX7_best_117 (by decide) rfl ?_ ?_
  · refine Jo_iload 9 dX7_best_120 rfl ?_
    refine Jo_goto 127 dX7_best_122 (by decide) ?_
    refine Jo_sub [1, 2, 3, 4, 5, 6, 0, 8] rfl ?_
    exact b_X7_best_127 E k9 h9 s l0 l1 l2 l3 l4 l5 t0 l8 l9
  · refine Jo_iload 7 dX7_best_125 rfl ?_
    refine Jo_sub [1, 2, 3, 4, 5, 6, 0, 8] rfl ?_
    exact b_X7_best_127 E k9 h9 s l0 l1 l2 l3 l4 l5 t0 l8 l7
def f_X7_best_b109 (k9 : Nat → Int32 → Int32 → Int32 → Int32 → Int32 → Int32 → Int32 → Int32 → hS → Option (Int32 × hS)) (l0 : Nat) (l1 : Int32) (l2 : Int32) (l3 : Int32) (l4 : Int32) (l5 : Int32) (l6 : Int32) (l7 : Int32) (l8 : Int32) (l9 : Int32) (s : hS) : Option (Int32 × hS) :=
  f_X7_best_b111 k9 l0 l1 l2 l3 l4 l5 l7 l8 l9 l6 s
theorem b_X7_best_109 (E : jE) (k9 : Nat → Int32 → Int32 → Int32 → Int32 → Int32 → Int32 → Int32 → Int32 → hS → Option (Int32 × hS)) (h9 : ∀ (s : hS) (l0 : Nat) (l1 : Int32) (l2 : Int32) (l3 : Int32) (l4 : Int32) (l5 : Int32) (l6 : Int32) (l7 : Int32) (l8 : Int32) , Jo E M_X7_best cvI 9 [(0, .ref l0), (1, .int l1), (2, .int l2), (3, .int l3), (4, .int l4), (5, .int l5), (6, .int l6), (7, .int l7), (8, .int l8)] [] s (k9 l0 l1 l2 l3 l4 l5 l6 l7 l8 s)) (s : hS) (l0 : Nat) (l1 : Int32) (l2 : Int32) (l3 : Int32) (l4 : Int32) (l5 : Int32) (l6 : Int32) (l7 : Int32) (l8 : Int32) (l9 : Int32)  : Jo E M_X7_best cvI 109 [(0, .ref l0), (1, .int l1), (2, .int l2), (3, .int l3), (4, .int l4), (5, .int l5), (6, .int l6), (7, .int l7), (8, .int l8), (9, .int l9)] [] s (f_X7_best_b109 k9 l0 l1 l2 l3 l4 l5 l6 l7 l8 l9 s) := by
  unfold f_X7_best_b109
  refine Jo_iload 6 dX7_best_109 rfl ?_
  refine Jo_sub [0, 1, 2, 3, 4, 5, 7, 8, 9] rfl ?_
  exact b_X7_best_111 E k9 h9 s l0 l1 l2 l3 l4 l5 l7 l8 l9 l6
def f_X7_best_b90 (k9 : Nat → Int32 → Int32 → Int32 → Int32 → Int32 → Int32 → Int32 → Int32 → hS → Option (Int32 × hS)) (l0 : Nat) (l1 : Int32) (l2 : Int32) (l3 : Int32) (l4 : Int32) (l5 : Int32) (l6 : Int32) (l7 : Int32) (l8 : Int32) (l9 : Int32) (t0 : Int32) (s : hS) : Option (Int32 × hS) :=
  if l5 < l9 then
    f_X7_best_b109 k9 l0 l1 l2 l3 l4 l5 l6 l7 l8 l9 s
  else
    if t0 = 0 then
      f_X7_best_b109 k9 l0 l1 l2 l3 l4 l5 l6 l7 l8 l9 s
    else
      f_X7_best_b111 k9 l0 l1 l2 l3 l4 l5 l7 l8 l9 l8 s
theorem b_X7_best_90 (E : jE) (k9 : Nat → Int32 → Int32 → Int32 → Int32 → Int32 → Int32 → Int32 → Int32 → hS → Option (Int32 × hS)) (h9 : ∀ (s : hS) (l0 : Nat) (l1 : Int32) (l2 : Int32) (l3 : Int32) (l4 : Int32) (l5 : Int32) (l6 : Int32) (l7 : Int32) (l8 : Int32) , Jo E M_X7_best cvI 9 [(0, .ref l0), (1, .int l1), (2, .int l2), (3, .int l3), (4, .int l4), (5, .int l5), (6, .int l6), (7, .int l7), (8, .int l8)] [] s (k9 l0 l1 l2 l3 l4 l5 l6 l7 l8 s)) (s : hS) (l0 : Nat) (l1 : Int32) (l2 : Int32) (l3 : Int32) (l4 : Int32) (l5 : Int32) (l6 : Int32) (l7 : Int32) (l8 : Int32) (l9 : Int32) (t0 : Int32) : Jo E M_X7_best cvI 90 [(0, .ref l0), (1, .int l1), (2, .int l2), (3, .int l3), (4, .int l4), (5, .int l5), (6, .int l6), (7, .int l7), (8, .int l8), (9, .int l9)] [.int t0] s (f_X7_best_b90 k9 l0 l1 l2 l3 l4 l5 l6 l7 l8 l9 t0 s) := by
  unfold f_X7_best_b90
  refine Jo_istore (ls' := [(10, .int t0), (0, .ref l0), (1, .int l1), (2, .int l2), (3, .int l3), (4, .int l4), (5, .int l5), (6, .int l6), (7, .int l7), (8, .int l8), (9, .int l9)]) dX7_best_90 (by decide) rfl ?_
  refine Jo_iload 10 dX7_best_92 rfl ?_
  refine Jo_iload 6 dX7_best_94 rfl ?_
  refine Jo_icmp_gt 109 dX7_best_96 (by decide) rfl ?_ ?_
  · refine Jo_sub [1, 2, 3, 4, 5, 6, 7, 8, 9, 10] rfl ?_
    exact b_X7_best_109 E k9 h9 s l0 l1 l2 l3 l4 l5 l6 l7 l8 l9
  · refine Jo_iload 0 dX7_best_99 rfl ?_
    refine Jo_if_eq 109 dX7_best_101 (by decide) rfl ?_ ?_
    · refine Jo_sub [1, 2, 3, 4, 5, 6, 7, 8, 9, 10] rfl ?_
      exact b_X7_best_109 E k9 h9 s l0 l1 l2 l3 l4 l5 l6 l7 l8 l9
    · refine Jo_iload 9 dX7_best_104 rfl ?_
      refine Jo_goto 111 dX7_best_106 (by decide) ?_
      refine Jo_sub [1, 2, 3, 4, 5, 6, 8, 9, 10] rfl ?_
      exact b_X7_best_111 E k9 h9 s l0 l1 l2 l3 l4 l5 l7 l8 l9 l8
def f_X7_best_b85 (k9 : Nat → Int32 → Int32 → Int32 → Int32 → Int32 → Int32 → Int32 → Int32 → hS → Option (Int32 × hS)) (l0 : Nat) (l1 : Int32) (l2 : Int32) (l3 : Int32) (l4 : Int32) (l5 : Int32) (l6 : Int32) (l7 : Int32) (l8 : Int32) (l9 : Int32) (s : hS) : Option (Int32 × hS) :=
  f_X7_best_b90 k9 l0 l1 l2 l3 l4 l5 l6 l7 l8 l9 (1 : Int32) s
theorem b_X7_best_85 (E : jE) (k9 : Nat → Int32 → Int32 → Int32 → Int32 → Int32 → Int32 → Int32 → Int32 → hS → Option (Int32 × hS)) (h9 : ∀ (s : hS) (l0 : Nat) (l1 : Int32) (l2 : Int32) (l3 : Int32) (l4 : Int32) (l5 : Int32) (l6 : Int32) (l7 : Int32) (l8 : Int32) , Jo E M_X7_best cvI 9 [(0, .ref l0), (1, .int l1), (2, .int l2), (3, .int l3), (4, .int l4), (5, .int l5), (6, .int l6), (7, .int l7), (8, .int l8)] [] s (k9 l0 l1 l2 l3 l4 l5 l6 l7 l8 s)) (s : hS) (l0 : Nat) (l1 : Int32) (l2 : Int32) (l3 : Int32) (l4 : Int32) (l5 : Int32) (l6 : Int32) (l7 : Int32) (l8 : Int32) (l9 : Int32)  : Jo E M_X7_best cvI 85 [(0, .ref l0), (1, .int l1), (2, .int l2), (3, .int l3), (4, .int l4), (5, .int l5), (6, .int l6), (7, .int l7), (8, .int l8), (9, .int l9)] [] s (f_X7_best_b85 k9 l0 l1 l2 l3 l4 l5 l6 l7 l8 l9 s) := by
  unfold f_X7_best_b85
  refine Jo_iconst (v := (1 : Int32)) dX7_best_85 (by decide) ?_
  refine Jo_goto 90 dX7_best_86 (by decide) ?_
  exact b_X7_best_90 E k9 h9 s l0 l1 l2 l3 l4 l5 l6 l7 l8 l9 (1 : Int32)
def f_X7_best_b89 (k9 : Nat → Int32 → Int32 → Int32 → Int32 → Int32 → Int32 → Int32 → Int32 → hS → Option (Int32 × hS)) (l0 : Nat) (l1 : Int32) (l2 : Int32) (l3 : Int32) (l4 : Int32) (l5 : Int32) (l6 : Int32) (l7 : Int32) (l8 : Int32) (l9 : Int32) (s : hS) : Option (Int32 × hS) :=
  f_X7_best_b90 k9 l0 l1 l2 l3 l4 l5 l6 l7 l8 l9 (0 : Int32) s
theorem b_X7_best_89 (E : jE) (k9 : Nat → Int32 → Int32 → Int32 → Int32 → Int32 → Int32 → Int32 → Int32 → hS → Option (Int32 × hS)) (h9 : ∀ (s : hS) (l0 : Nat) (l1 : Int32) (l2 : Int32) (l3 : Int32) (l4 : Int32) (l5 : Int32) (l6 : Int32) (l7 : Int32) (l8 : Int32) , Jo E M_X7_best cvI 9 [(0, .ref l0), (1, .int l1), (2, .int l2), (3, .int l3), (4, .int l4), (5, .int l5), (6, .int l6), (7, .int l7), (8, .int l8)] [] s (k9 l0 l1 l2 l3 l4 l5 l6 l7 l8 s)) (s : hS) (l0 : Nat) (l1 : Int32) (l2 : Int32) (l3 : Int32) (l4 : Int32) (l5 : Int32) (l6 : Int32) (l7 : Int32) (l8 : Int32) (l9 : Int32)  : Jo E M_X7_best cvI 89 [(0, .ref l0), (1, .int l1), (2, .int l2), (3, .int l3), (4, .int l4), (5, .int l5), (6, .int l6), (7, .int l7), (8, .int l8), (9, .int l9)] [] s (f_X7_best_b89 k9 l0 l1 l2 l3 l4 l5 l6 l7 l8 l9 s) := by
  unfold f_X7_best_b89
  refine Jo_iconst (v := (0 : Int32)) dX7_best_89 (by decide) ?_
  exact b_X7_best_90 E k9 h9 s l0 l1 l2 l3 l4 l5 l6 l7 l8 l9 (0 : Int32)
def f_X7_best_b9 (k9 : Nat → Int32 → Int32 → Int32 → Int32 → Int32 → Int32 → Int32 → Int32 → hS → Option (Int32 × hS)) (l0 : Nat) (l1 : Int32) (l2 : Int32) (l3 : Int32) (l4 : Int32) (l5 : Int32) (l6 : Int32) (l7 : Int32) (l8 : Int32) (s : hS) : Option (Int32 × hS) :=
  (gR s l0 7 0).bind fun a1 =>
  (aI s a1 10 (1 : Int32)).bind fun x2 =>
  if x2 ≤ l8 then
    some (l6, s)
  else
    (cV s l0 7 (f_X7_isFresh s l0 l8)).bind fun p3 =>
    if p3.1 = 0 then
      f_X7_best_b129 k9 l0 l1 l2 l3 l4 l5 l6 l7 l8 p3.2
    else
      (cV p3.2 l0 7 (f_X7_doesKnow p3.2 l0 l1 l8)).bind fun p4 =>
      if p4.1 = 0 then
        f_X7_best_b129 k9 l0 l1 l2 l3 l4 l5 l6 l7 l8 p4.2
      else
        (cV p4.2 l0 7 (f_X7_doesKnow p4.2 l0 l2 l8)).bind fun p5 =>
        if p5.1 = 0 then
          (cV p5.2 l0 7 (f_X7_priceOf p5.2 l0 l8 l3)).bind fun p6 =>
          if l6 < 0 then
            f_X7_best_b85 k9 l0 l1 l2 l3 l4 l5 l6 l7 l8 p6.1 p6.2
          else
            if l4 = 0 then
              if l7 ≤ p6.1 then
                f_X7_best_b89 k9 l0 l1 l2 l3 l4 l5 l6 l7 l8 p6.1 p6.2
              else
                f_X7_best_b85 k9 l0 l1 l2 l3 l4 l5 l6 l7 l8 p6.1 p6.2
            else
              if p6.1 ≤ l7 then
                f_X7_best_b89 k9 l0 l1 l2 l3 l4 l5 l6 l7 l8 p6.1 p6.2
              else
                f_X7_best_b85 k9 l0 l1 l2 l3 l4 l5 l6 l7 l8 p6.1 p6.2
        else
          f_X7_best_b129 k9 l0 l1 l2 l3 l4 l5 l6 l7 l8 p5.2
theorem b_X7_best_9 (E : jE) (k9 : Nat → Int32 → Int32 → Int32 → Int32 → Int32 → Int32 → Int32 → Int32 → hS → Option (Int32 × hS)) (h9 : ∀ (s : hS) (l0 : Nat) (l1 : Int32) (l2 : Int32) (l3 : Int32) (l4 : Int32) (l5 : Int32) (l6 : Int32) (l7 : Int32) (l8 : Int32) , Jo E M_X7_best cvI 9 [(0, .ref l0), (1, .int l1), (2, .int l2), (3, .int l3), (4, .int l4), (5, .int l5), (6, .int l6), (7, .int l7), (8, .int l8)] [] s (k9 l0 l1 l2 l3 l4 l5 l6 l7 l8 s)) (s : hS) (l0 : Nat) (l1 : Int32) (l2 : Int32) (l3 : Int32) (l4 : Int32) (l5 : Int32) (l6 : Int32) (l7 : Int32) (l8 : Int32)  : Jo E M_X7_best cvI 9 [(0, .ref l0), (1, .int l1), (2, .int l2), (3, .int l3), (4, .int l4), (5, .int l5), (6, .int l6), (7, .int l7), (8, .int l8)] [] s (f_X7_best_b9 k9 l0 l1 l2 l3 l4 l5 l6 l7 l8 s) := by
  unfold f_X7_best_b9
  refine Jo_iload 8 dX7_best_9 rfl ?_
  refine Jo_aloadn 0 dX7_best_11 rfl rfl ?_
  refine Jo_getR fF_7_0 fR_7_0 dX7_best_12 w_598 (fun a1 => ?_)
  refine Jo_iconst (v := (1 : Int32)) dX7_best_15 (by decide) ?_
  refine Jo_iaload dX7_best_16 (fun x2 => ?_)
  refine Jo_icmp_ge 135 dX7_best_17 (by decide) rfl ?_ ?_
  · refine Jo_iload 6 dX7_best_135 rfl ?_
    exact Jo_iret rfl dX7_best_137
  · refine Jo_aloadn 0 dX7_best_20 rfl rfl ?_
    refine Jo_iload 8 dX7_best_21 rfl ?_
    refine Jo_callVi (a := l0) (rest := []) [.int l8] cc_7 yF_X7_isFresh yV_X7_isFresh w_682 rfl rfl ⟨Nat.le_of_ble_eq_true rfl, Nat.le_of_ble_eq_true rfl, Nat.le_of_ble_eq_true rfl⟩ dX7_best_23 rfl (K_X7_isFresh E s l0 l8) (fun p3 => ?_)
    refine Jo_if_eq 129 dX7_best_26 (by decide) rfl ?_ ?_
    · exact b_X7_best_129 E k9 h9 p3.2 l0 l1 l2 l3 l4 l5 l6 l7 l8
    · refine Jo_aloadn 0 dX7_best_29 rfl rfl ?_
      refine Jo_iloadn 1 dX7_best_30 rfl rfl ?_
      refine Jo_iload 8 dX7_best_31 rfl ?_
      refine Jo_callVi (a := l0) (rest := []) [.int l1, .int l8] cc_7 yF_X7_doesKnow yV_X7_doesKnow w_677 rfl rfl ⟨Nat.le_of_ble_eq_true rfl, Nat.le_of_ble_eq_true rfl, Nat.le_of_ble_eq_true rfl⟩ dX7_best_33 rfl (K_X7_doesKnow E p3.2 l0 l1 l8) (fun p4 => ?_)
      refine Jo_if_eq 129 dX7_best_36 (by decide) rfl ?_ ?_
      · exact b_X7_best_129 E k9 h9 p4.2 l0 l1 l2 l3 l4 l5 l6 l7 l8
      · refine Jo_aloadn 0 dX7_best_39 rfl rfl ?_
        refine Jo_iloadn 2 dX7_best_40 rfl rfl ?_
        refine Jo_iload 8 dX7_best_41 rfl ?_
        refine Jo_callVi (a := l0) (rest := []) [.int l2, .int l8] cc_7 yF_X7_doesKnow yV_X7_doesKnow w_677 rfl rfl ⟨Nat.le_of_ble_eq_true rfl, Nat.le_of_ble_eq_true rfl, Nat.le_of_ble_eq_true rfl⟩ dX7_best_43 rfl (K_X7_doesKnow E p4.2 l0 l2 l8) (fun p5 => ?_)
        refine Jo_if_ne 129 dX7_best_46 (by decide) rfl ?_ ?_
        · refine Jo_aloadn 0 dX7_best_49 rfl rfl ?_
          refine Jo_iload 8 dX7_best_50 rfl ?_
          refine Jo_iloadn 3 dX7_best_52 rfl rfl ?_
          refine Jo_callVi (a := l0) (rest := []) [.int l8, .int l3] cc_7 yF_X7_priceOf yV_X7_priceOf w_732 rfl rfl ⟨Nat.le_of_ble_eq_true rfl, Nat.le_of_ble_eq_true rfl, Nat.le_of_ble_eq_true rfl⟩ dX7_best_53 rfl (K_X7_priceOf E p5.2 l0 l8 l3) (fun p6 => ?_)
          refine Jo_istore (ls' := [(9, .int p6.1), (0, .ref l0), (1, .int l1), (2, .int l2), (3, .int l3), (4, .int l4), (5, .int l5), (6, .int l6), (7, .int l7), (8, .int l8)]) dX7_best_56 (by decide) rfl ?_
          refine Jo_iload 7 dX7_best_58 rfl ?_
          refine Jo_if_lt 85 dX7_best_60 (by decide) rfl ?_ ?_
          · refine Jo_sub [1, 2, 3, 4, 5, 6, 7, 8, 9, 0] rfl ?_
            exact b_X7_best_85 E k9 h9 p6.2 l0 l1 l2 l3 l4 l5 l6 l7 l8 p6.1
          · refine Jo_iload 5 dX7_best_63 rfl ?_
            refine Jo_if_eq 78 dX7_best_65 (by decide) rfl ?_ ?_
            · refine Jo_iload 0 dX7_best_78 rfl ?_
              refine Jo_iload 8 dX7_best_80 rfl ?_
              refine Jo_icmp_ge 89 dX7_best_82 (by decide) rfl ?_ ?_
              · refine Jo_sub [1, 2, 3, 4, 5, 6, 7, 8, 9, 0] rfl ?_
                exact b_X7_best_89 E k9 h9 p6.2 l0 l1 l2 l3 l4 l5 l6 l7 l8 p6.1
              · refine Jo_sub [1, 2, 3, 4, 5, 6, 7, 8, 9, 0] rfl ?_
                exact b_X7_best_85 E k9 h9 p6.2 l0 l1 l2 l3 l4 l5 l6 l7 l8 p6.1
            · refine Jo_iload 0 dX7_best_68 rfl ?_
              refine Jo_iload 8 dX7_best_70 rfl ?_
              refine Jo_icmp_le 89 dX7_best_72 (by decide) rfl ?_ ?_
              · refine Jo_sub [1, 2, 3, 4, 5, 6, 7, 8, 9, 0] rfl ?_
                exact b_X7_best_89 E k9 h9 p6.2 l0 l1 l2 l3 l4 l5 l6 l7 l8 p6.1
              · refine Jo_goto 85 dX7_best_75 (by decide) ?_
                refine Jo_sub [1, 2, 3, 4, 5, 6, 7, 8, 9, 0] rfl ?_
                exact b_X7_best_85 E k9 h9 p6.2 l0 l1 l2 l3 l4 l5 l6 l7 l8 p6.1
        · exact b_X7_best_129 E k9 h9 p5.2 l0 l1 l2 l3 l4 l5 l6 l7 l8
theorem e_X7_best_9 (E : jE)  (n : Nat) : ∀ (s : hS) (l0 : Nat) (l1 : Int32) (l2 : Int32) (l3 : Int32) (l4 : Int32) (l5 : Int32) (l6 : Int32) (l7 : Int32) (l8 : Int32) , Jo E M_X7_best cvI 9 [(0, .ref l0), (1, .int l1), (2, .int l2), (3, .int l3), (4, .int l4), (5, .int l5), (6, .int l6), (7, .int l7), (8, .int l8)] [] s ((jL f_X7_best_b9 (fun _ _ _ _ _ _ _ _ _ _ => none) n) l0 l1 l2 l3 l4 l5 l6 l7 l8 s) :=
  jL_ind (P := fun f => ∀ (s : hS) (l0 : Nat) (l1 : Int32) (l2 : Int32) (l3 : Int32) (l4 : Int32) (l5 : Int32) (l6 : Int32) (l7 : Int32) (l8 : Int32) , Jo E M_X7_best cvI 9 [(0, .ref l0), (1, .int l1), (2, .int l2), (3, .int l3), (4, .int l4), (5, .int l5), (6, .int l6), (7, .int l7), (8, .int l8)] [] s (f l0 l1 l2 l3 l4 l5 l6 l7 l8 s)) (fun _ _ _ _ _ _ _ _ _ _ => Jo_none) (fun b hb s l0 l1 l2 l3 l4 l5 l6 l7 l8 => b_X7_best_9 E  b hb s l0 l1 l2 l3 l4 l5 l6 l7 l8) n
def f_X7_best (s : hS) (a0 : Nat) (i1 : Int32) (i2 : Int32) (i3 : Int32) (i4 : Int32) (i5 : Int32) : Option (Int32 × hS) :=
  jL f_X7_best_b9 (fun _ _ _ _ _ _ _ _ _ _ => none) jF a0 i1 i2 i3 i4 i5 (-1 : Int32) (0 : Int32) (0 : Int32) s
theorem b_X7_best_in (E : jE)  (s : hS) (a0 : Nat) (i1 : Int32) (i2 : Int32) (i3 : Int32) (i4 : Int32) (i5 : Int32)  : Jo E M_X7_best cvI 0 [(0, .ref a0), (1, .int i1), (2, .int i2), (3, .int i3), (4, .int i4), (5, .int i5)] [] s (f_X7_best s a0 i1 i2 i3 i4 i5) := by
  unfold f_X7_best
  refine Jo_iconst (v := (-1 : Int32)) dX7_best_0 (by decide) ?_
  refine Jo_istore (ls' := [(6, .int (-1 : Int32)), (0, .ref a0), (1, .int i1), (2, .int i2), (3, .int i3), (4, .int i4), (5, .int i5)]) dX7_best_1 (by decide) rfl ?_
  refine Jo_iconst (v := (0 : Int32)) dX7_best_3 (by decide) ?_
  refine Jo_istore (ls' := [(7, .int (0 : Int32)), (6, .int (-1 : Int32)), (0, .ref a0), (1, .int i1), (2, .int i2), (3, .int i3), (4, .int i4), (5, .int i5)]) dX7_best_4 (by decide) rfl ?_
  refine Jo_iconst (v := (0 : Int32)) dX7_best_6 (by decide) ?_
  refine Jo_istore (ls' := [(8, .int (0 : Int32)), (7, .int (0 : Int32)), (6, .int (-1 : Int32)), (0, .ref a0), (1, .int i1), (2, .int i2), (3, .int i3), (4, .int i4), (5, .int i5)]) dX7_best_7 (by decide) rfl ?_
  refine Jo_sub [3, 4, 5, 6, 7, 8, 2, 1, 0] rfl ?_
  exact e_X7_best_9 E jF s a0 i1 i2 i3 i4 i5 (-1 : Int32) (0 : Int32) (0 : Int32)
theorem K_X7_best (E : jE) (s : hS) (a0 : Nat) (i1 : Int32) (i2 : Int32) (i3 : Int32) (i4 : Int32) (i5 : Int32) : jK E yX7_best M_X7_best cvI [.ref a0, .int i1, .int i2, .int i3, .int i4, .int i5] s (f_X7_best s a0 i1 i2 i3 i4 i5) := jK_of ⟨by decide, rfl, rfl⟩ (Nat.le_of_ble_eq_true rfl) (b_X7_best_in E s a0 i1 i2 i3 i4 i5)
/-! HeronTalkModel.givenBy(III)I -/
abbrev M_X7_givenBy : jM := (RX7, cX7_givenBy, 4, (some .int), "givenBy", 5, 120)
theorem yF_X7_givenBy : yF yX7_givenBy M_X7_givenBy 3 := ⟨w_762, w_624, by decide +kernel⟩
theorem yV_X7_givenBy : Cond.instanceMethod yX7_givenBy ∈ tbG ∧ Cond.selects yX7_givenBy.cls yX7_givenBy yX7_givenBy ∈ tbG := ⟨w_763, w_764⟩
theorem dX7_givenBy_0 : dI cX7_givenBy 0 1 (.iload_n 1) 1 := ⟨by decide +kernel, rfl⟩
theorem dX7_givenBy_1 : dI cX7_givenBy 1 2 (.iconst 4) 1 := ⟨by decide +kernel, rfl⟩
theorem dX7_givenBy_2 : decode cX7_givenBy 2 = .ok (.if_icmp .ne 7, 3) := by decide +kernel
theorem dX7_givenBy_5 : dI cX7_givenBy 5 6 (.iconst (-1)) 1 := ⟨by decide +kernel, rfl⟩
theorem dX7_givenBy_6 : decode cX7_givenBy 6 = .ok (.goto 23, 3) := by decide +kernel
theorem dX7_givenBy_9 : dI cX7_givenBy 9 10 (.aload_n 0) 1 := ⟨by decide +kernel, rfl⟩
theorem dX7_givenBy_10 : dI cX7_givenBy 10 11 (.iload_n 2) 1 := ⟨by decide +kernel, rfl⟩
theorem dX7_givenBy_11 : dI cX7_givenBy 11 12 (.iload_n 3) 1 := ⟨by decide +kernel, rfl⟩
theorem dX7_givenBy_12 : dI cX7_givenBy 12 13 (.iload_n 3) 1 := ⟨by decide +kernel, rfl⟩
theorem dX7_givenBy_13 : dI cX7_givenBy 13 14 (.iload_n 1) 1 := ⟨by decide +kernel, rfl⟩
theorem dX7_givenBy_14 : dI cX7_givenBy 14 15 (.iconst 2) 1 := ⟨by decide +kernel, rfl⟩
theorem dX7_givenBy_15 : decode cX7_givenBy 15 = .ok (.if_icmp .ne 7, 3) := by decide +kernel
theorem dX7_givenBy_18 : dI cX7_givenBy 18 19 (.iconst 1) 1 := ⟨by decide +kernel, rfl⟩
theorem dX7_givenBy_19 : decode cX7_givenBy 19 = .ok (.goto 4, 3) := by decide +kernel
theorem dX7_givenBy_22 : dI cX7_givenBy 22 23 (.iconst 0) 1 := ⟨by decide +kernel, rfl⟩
theorem dX7_givenBy_23 : dI cX7_givenBy 23 26 (.sipush 999) 3 := ⟨by decide +kernel, rfl⟩
theorem dX7_givenBy_26 : decode cX7_givenBy 26 = .ok (.invokevirtual 154, 3) := by decide +kernel
theorem dX7_givenBy_29 : dI cX7_givenBy 29 30 (.ireturn) 1 := ⟨by decide +kernel, rfl⟩
def f_X7_givenBy_b23 (t0 : Nat) (t1 : Int32) (t2 : Int32) (t3 : Int32) (t4 : Int32) (s : hS) : Option (Int32 × hS) :=
  (cV s t0 7 (f_X7_best s t0 t1 t2 t3 t4 (999 : Int32))).bind fun p1 =>
  some (p1.1, p1.2)
theorem b_X7_givenBy_23 (E : jE)  (s : hS)  (t0 : Nat) (t1 : Int32) (t2 : Int32) (t3 : Int32) (t4 : Int32) : Jo E M_X7_givenBy cvI 23 [] [.int t4, .int t3, .int t2, .int t1, .ref t0] s (f_X7_givenBy_b23  t0 t1 t2 t3 t4 s) := by
  unfold f_X7_givenBy_b23
  refine Jo_sipush (v := (999 : Int32)) dX7_givenBy_23 (by decide) ?_
  refine Jo_callVi (a := t0) (rest := []) [.int t1, .int t2, .int t3, .int t4, .int (999 : Int32)] cc_7 yF_X7_best yV_X7_best w_761 rfl rfl ⟨Nat.le_of_ble_eq_true rfl, Nat.le_of_ble_eq_true rfl, Nat.le_of_ble_eq_true rfl⟩ dX7_givenBy_26 rfl (K_X7_best E s t0 t1 t2 t3 t4 (999 : Int32)) (fun p1 => ?_)
  exact Jo_iret rfl dX7_givenBy_29
def f_X7_givenBy (s : hS) (a0 : Nat) (i1 : Int32) (i2 : Int32) (i3 : Int32) : Option (Int32 × hS) :=
  if i1 = (4 : Int32) then
    some ((-1 : Int32), s)
  else
    if i1 = (2 : Int32) then
      f_X7_givenBy_b23 a0 i2 i3 i3 (1 : Int32) s
    else
      f_X7_givenBy_b23 a0 i2 i3 i3 (0 : Int32) s
theorem b_X7_givenBy_in (E : jE)  (s : hS) (a0 : Nat) (i1 : Int32) (i2 : Int32) (i3 : Int32)  : Jo E M_X7_givenBy cvI 0 [(0, .ref a0), (1, .int i1), (2, .int i2), (3, .int i3)] [] s (f_X7_givenBy s a0 i1 i2 i3) := by
  unfold f_X7_givenBy
  refine Jo_iloadn 1 dX7_givenBy_0 rfl rfl ?_
  refine Jo_iconst (v := (4 : Int32)) dX7_givenBy_1 (by decide) ?_
  refine Jo_icmp_ne 9 dX7_givenBy_2 (by decide) rfl ?_ ?_
  · refine Jo_iconst (v := (-1 : Int32)) dX7_givenBy_5 (by decide) ?_
    refine Jo_goto 29 dX7_givenBy_6 (by decide) ?_
    exact Jo_iret rfl dX7_givenBy_29
  · refine Jo_aloadn 0 dX7_givenBy_9 rfl rfl ?_
    refine Jo_iloadn 2 dX7_givenBy_10 rfl rfl ?_
    refine Jo_iloadn 3 dX7_givenBy_11 rfl rfl ?_
    refine Jo_iloadn 3 dX7_givenBy_12 rfl rfl ?_
    refine Jo_iloadn 1 dX7_givenBy_13 rfl rfl ?_
    refine Jo_iconst (v := (2 : Int32)) dX7_givenBy_14 (by decide) ?_
    refine Jo_icmp_ne 22 dX7_givenBy_15 (by decide) rfl ?_ ?_
    · refine Jo_iconst (v := (1 : Int32)) dX7_givenBy_18 (by decide) ?_
      refine Jo_goto 23 dX7_givenBy_19 (by decide) ?_
      refine Jo_sub [] rfl ?_
      exact b_X7_givenBy_23 E s a0 i2 i3 i3 (1 : Int32)
    · refine Jo_iconst (v := (0 : Int32)) dX7_givenBy_22 (by decide) ?_
      refine Jo_sub [] rfl ?_
      exact b_X7_givenBy_23 E s a0 i2 i3 i3 (0 : Int32)
theorem K_X7_givenBy (E : jE) (s : hS) (a0 : Nat) (i1 : Int32) (i2 : Int32) (i3 : Int32) : jK E yX7_givenBy M_X7_givenBy cvI [.ref a0, .int i1, .int i2, .int i3] s (f_X7_givenBy s a0 i1 i2 i3) := jK_of ⟨by decide, rfl, rfl⟩ (Nat.le_of_ble_eq_true rfl) (b_X7_givenBy_in E s a0 i1 i2 i3)
/-! HeronTalkModel.gotBy(III)I -/
abbrev M_X7_gotBy : jM := (RX7, cX7_gotBy, 5, (some .int), "gotBy", 6, 143)
theorem yF_X7_gotBy : yF yX7_gotBy M_X7_gotBy 3 := ⟨w_766, w_624, by decide +kernel⟩
theorem yV_X7_gotBy : Cond.instanceMethod yX7_gotBy ∈ tbG ∧ Cond.selects yX7_gotBy.cls yX7_gotBy yX7_gotBy ∈ tbG := ⟨w_767, w_768⟩
theorem dX7_gotBy_0 : dI cX7_gotBy 0 1 (.iload_n 1) 1 := ⟨by decide +kernel, rfl⟩
theorem dX7_gotBy_1 : dI cX7_gotBy 1 2 (.iconst 1) 1 := ⟨by decide +kernel, rfl⟩
theorem dX7_gotBy_2 : decode cX7_gotBy 2 = .ok (.if_icmp .eq 20, 3) := by decide +kernel
theorem dX7_gotBy_5 : dI cX7_gotBy 5 6 (.iload_n 1) 1 := ⟨by decide +kernel, rfl⟩
theorem dX7_gotBy_6 : dI cX7_gotBy 6 7 (.iconst 3) 1 := ⟨by decide +kernel, rfl⟩
theorem dX7_gotBy_7 : decode cX7_gotBy 7 = .ok (.if_icmp .eq 15, 3) := by decide +kernel
theorem dX7_gotBy_10 : dI cX7_gotBy 10 11 (.aload_n 0) 1 := ⟨by decide +kernel, rfl⟩
theorem dX7_gotBy_11 : dI cX7_gotBy 11 12 (.iload_n 3) 1 := ⟨by decide +kernel, rfl⟩
theorem dX7_gotBy_12 : dI cX7_gotBy 12 13 (.iload_n 2) 1 := ⟨by decide +kernel, rfl⟩
theorem dX7_gotBy_13 : dI cX7_gotBy 13 14 (.iload_n 2) 1 := ⟨by decide +kernel, rfl⟩
theorem dX7_gotBy_14 : dI cX7_gotBy 14 15 (.iconst 1) 1 := ⟨by decide +kernel, rfl⟩
theorem dX7_gotBy_15 : dI cX7_gotBy 15 18 (.sipush 999) 3 := ⟨by decide +kernel, rfl⟩
theorem dX7_gotBy_18 : decode cX7_gotBy 18 = .ok (.invokevirtual 154, 3) := by decide +kernel
theorem dX7_gotBy_21 : dI cX7_gotBy 21 22 (.ireturn) 1 := ⟨by decide +kernel, rfl⟩
theorem dX7_gotBy_22 : dI cX7_gotBy 22 23 (.aload_n 0) 1 := ⟨by decide +kernel, rfl⟩
theorem dX7_gotBy_23 : dI cX7_gotBy 23 24 (.iload_n 1) 1 := ⟨by decide +kernel, rfl⟩
theorem dX7_gotBy_24 : dI cX7_gotBy 24 25 (.iload_n 2) 1 := ⟨by decide +kernel, rfl⟩
theorem dX7_gotBy_25 : dI cX7_gotBy 25 26 (.iload_n 3) 1 := ⟨by decide +kernel, rfl⟩
theorem dX7_gotBy_26 : decode cX7_gotBy 26 = .ok (.invokevirtual 158, 3) := by decide +kernel
theorem dX7_gotBy_29 : dI cX7_gotBy 29 31 (.istore 4) 2 := ⟨by decide +kernel, rfl⟩
theorem dX7_gotBy_31 : dI cX7_gotBy 31 33 (.iload 4) 2 := ⟨by decide +kernel, rfl⟩
theorem dX7_gotBy_33 : decode cX7_gotBy 33 = .ok (.ifCond .ge 7, 3) := by decide +kernel
theorem dX7_gotBy_36 : dI cX7_gotBy 36 37 (.iconst (-1)) 1 := ⟨by decide +kernel, rfl⟩
theorem dX7_gotBy_37 : decode cX7_gotBy 37 = .ok (.goto 18, 3) := by decide +kernel
theorem dX7_gotBy_40 : dI cX7_gotBy 40 41 (.aload_n 0) 1 := ⟨by decide +kernel, rfl⟩
theorem dX7_gotBy_41 : dI cX7_gotBy 41 42 (.iload_n 3) 1 := ⟨by decide +kernel, rfl⟩
theorem dX7_gotBy_42 : dI cX7_gotBy 42 43 (.iload_n 2) 1 := ⟨by decide +kernel, rfl⟩
theorem dX7_gotBy_43 : dI cX7_gotBy 43 44 (.iload_n 2) 1 := ⟨by decide +kernel, rfl⟩
theorem dX7_gotBy_44 : dI cX7_gotBy 44 45 (.iconst 1) 1 := ⟨by decide +kernel, rfl⟩
theorem dX7_gotBy_45 : dI cX7_gotBy 45 46 (.aload_n 0) 1 := ⟨by decide +kernel, rfl⟩
theorem dX7_gotBy_46 : dI cX7_gotBy 46 48 (.iload 4) 2 := ⟨by decide +kernel, rfl⟩
theorem dX7_gotBy_48 : dI cX7_gotBy 48 49 (.iload_n 3) 1 := ⟨by decide +kernel, rfl⟩
theorem dX7_gotBy_49 : decode cX7_gotBy 49 = .ok (.invokevirtual 142, 3) := by decide +kernel
theorem dX7_gotBy_52 : decode cX7_gotBy 52 = .ok (.invokevirtual 154, 3) := by decide +kernel
theorem dX7_gotBy_55 : dI cX7_gotBy 55 56 (.ireturn) 1 := ⟨by decide +kernel, rfl⟩
def f_X7_gotBy_b22 (l0 : Nat) (l1 : Int32) (l2 : Int32) (l3 : Int32) (s : hS) : Option (Int32 × hS) :=
  (cV s l0 7 (f_X7_givenBy s l0 l1 l2 l3)).bind fun p1 =>
  if 0 ≤ p1.1 then
    (cV p1.2 l0 7 (f_X7_priceOf p1.2 l0 p1.1 l3)).bind fun p2 =>
    (cV p2.2 l0 7 (f_X7_best p2.2 l0 l3 l2 l2 (1 : Int32) p2.1)).bind fun p3 =>
    some (p3.1, p3.2)
  else
    some ((-1 : Int32), p1.2)
theorem b_X7_gotBy_22 (E : jE)  (s : hS) (l0 : Nat) (l1 : Int32) (l2 : Int32) (l3 : Int32)  : Jo E M_X7_gotBy cvI 22 [(0, .ref l0), (1, .int l1), (2, .int l2), (3, .int l3)] [] s (f_X7_gotBy_b22  l0 l1 l2 l3 s) := by
  unfold f_X7_gotBy_b22
  refine Jo_aloadn 0 dX7_gotBy_22 rfl rfl ?_
  refine Jo_iloadn 1 dX7_gotBy_23 rfl rfl ?_
  refine Jo_iloadn 2 dX7_gotBy_24 rfl rfl ?_
  refine Jo_iloadn 3 dX7_gotBy_25 rfl rfl ?_
  refine Jo_callVi (a := l0) (rest := []) [.int l1, .int l2, .int l3] cc_7 yF_X7_givenBy yV_X7_givenBy w_765 rfl rfl ⟨Nat.le_of_ble_eq_true rfl, Nat.le_of_ble_eq_true rfl, Nat.le_of_ble_eq_true rfl⟩ dX7_gotBy_26 rfl (K_X7_givenBy E s l0 l1 l2 l3) (fun p1 => ?_)
  refine Jo_istore (ls' := [(4, .int p1.1), (0, .ref l0), (1, .int l1), (2, .int l2), (3, .int l3)]) dX7_gotBy_29 (by decide) rfl ?_
  refine Jo_iload 0 dX7_gotBy_31 rfl ?_
  refine Jo_if_ge 40 dX7_gotBy_33 (by decide) rfl ?_ ?_
  · refine Jo_aloadn 1 dX7_gotBy_40 rfl rfl ?_
    refine Jo_iloadn 4 dX7_gotBy_41 rfl rfl ?_
    refine Jo_iloadn 3 dX7_gotBy_42 rfl rfl ?_
    refine Jo_iloadn 3 dX7_gotBy_43 rfl rfl ?_
    refine Jo_iconst (v := (1 : Int32)) dX7_gotBy_44 (by decide) ?_
    refine Jo_aloadn 1 dX7_gotBy_45 rfl rfl ?_
    refine Jo_iload 0 dX7_gotBy_46 rfl ?_
    refine Jo_iloadn 4 dX7_gotBy_48 rfl rfl ?_
    refine Jo_callVi (a := l0) (rest := [.int (1 : Int32), .int l2, .int l2, .int l3, .ref l0]) [.int p1.1, .int l3] cc_7 yF_X7_priceOf yV_X7_priceOf w_732 rfl rfl ⟨Nat.le_of_ble_eq_true rfl, Nat.le_of_ble_eq_true rfl, Nat.le_of_ble_eq_true rfl⟩ dX7_gotBy_49 rfl (K_X7_priceOf E p1.2 l0 p1.1 l3) (fun p2 => ?_)
    refine Jo_callVi (a := l0) (rest := []) [.int l3, .int l2, .int l2, .int (1 : Int32), .int p2.1] cc_7 yF_X7_best yV_X7_best w_761 rfl rfl ⟨Nat.le_of_ble_eq_true rfl, Nat.le_of_ble_eq_true rfl, Nat.le_of_ble_eq_true rfl⟩ dX7_gotBy_52 rfl (K_X7_best E p2.2 l0 l3 l2 l2 (1 : Int32) p2.1) (fun p3 => ?_)
    exact Jo_iret rfl dX7_gotBy_55
  · refine Jo_iconst (v := (-1 : Int32)) dX7_gotBy_36 (by decide) ?_
    refine Jo_goto 55 dX7_gotBy_37 (by decide) ?_
    exact Jo_iret rfl dX7_gotBy_55
def f_X7_gotBy (s : hS) (a0 : Nat) (i1 : Int32) (i2 : Int32) (i3 : Int32) : Option (Int32 × hS) :=
  if i1 = (1 : Int32) then
    f_X7_gotBy_b22 a0 i1 i2 i3 s
  else
    if i1 = (3 : Int32) then
      f_X7_gotBy_b22 a0 i1 i2 i3 s
    else
      (cV s a0 7 (f_X7_best s a0 i3 i2 i2 (1 : Int32) (999 : Int32))).bind fun p1 =>
      some (p1.1, p1.2)
theorem b_X7_gotBy_in (E : jE)  (s : hS) (a0 : Nat) (i1 : Int32) (i2 : Int32) (i3 : Int32)  : Jo E M_X7_gotBy cvI 0 [(0, .ref a0), (1, .int i1), (2, .int i2), (3, .int i3)] [] s (f_X7_gotBy s a0 i1 i2 i3) := by
  unfold f_X7_gotBy
  refine Jo_iloadn 1 dX7_gotBy_0 rfl rfl ?_
  refine Jo_iconst (v := (1 : Int32)) dX7_gotBy_1 (by decide) ?_
  refine Jo_icmp_eq 22 dX7_gotBy_2 (by decide) rfl ?_ ?_
  · exact b_X7_gotBy_22 E s a0 i1 i2 i3
  · refine Jo_iloadn 1 dX7_gotBy_5 rfl rfl ?_
    refine Jo_iconst (v := (3 : Int32)) dX7_gotBy_6 (by decide) ?_
    refine Jo_icmp_eq 22 dX7_gotBy_7 (by decide) rfl ?_ ?_
    · exact b_X7_gotBy_22 E s a0 i1 i2 i3
    · refine Jo_aloadn 0 dX7_gotBy_10 rfl rfl ?_
      refine Jo_iloadn 3 dX7_gotBy_11 rfl rfl ?_
      refine Jo_iloadn 2 dX7_gotBy_12 rfl rfl ?_
      refine Jo_iloadn 2 dX7_gotBy_13 rfl rfl ?_
      refine Jo_iconst (v := (1 : Int32)) dX7_gotBy_14 (by decide) ?_
      refine Jo_sipush (v := (999 : Int32)) dX7_gotBy_15 (by decide) ?_
      refine Jo_callVi (a := a0) (rest := []) [.int i3, .int i2, .int i2, .int (1 : Int32), .int (999 : Int32)] cc_7 yF_X7_best yV_X7_best w_761 rfl rfl ⟨Nat.le_of_ble_eq_true rfl, Nat.le_of_ble_eq_true rfl, Nat.le_of_ble_eq_true rfl⟩ dX7_gotBy_18 rfl (K_X7_best E s a0 i3 i2 i2 (1 : Int32) (999 : Int32)) (fun p1 => ?_)
      exact Jo_iret rfl dX7_gotBy_21
theorem K_X7_gotBy (E : jE) (s : hS) (a0 : Nat) (i1 : Int32) (i2 : Int32) (i3 : Int32) : jK E yX7_gotBy M_X7_gotBy cvI [.ref a0, .int i1, .int i2, .int i3] s (f_X7_gotBy s a0 i1 i2 i3) := jK_of ⟨by decide, rfl, rfl⟩ (Nat.le_of_ble_eq_true rfl) (b_X7_gotBy_in E s a0 i1 i2 i3)
/-! HeronTalkModel.wouldGo(III)Z -/
abbrev M_X7_wouldGo : jM := (RX7, cX7_wouldGo, 4, (some .boolean), "wouldGo", 7, 167)
theorem yF_X7_wouldGo : yF yX7_wouldGo M_X7_wouldGo 3 := ⟨w_770, w_624, by decide +kernel⟩
theorem yV_X7_wouldGo : Cond.instanceMethod yX7_wouldGo ∈ tbG ∧ Cond.selects yX7_wouldGo.cls yX7_wouldGo yX7_wouldGo ∈ tbG := ⟨w_771, w_772⟩
theorem dX7_wouldGo_0 : dI cX7_wouldGo 0 1 (.aload_n 0) 1 := ⟨by decide +kernel, rfl⟩
theorem dX7_wouldGo_1 : dI cX7_wouldGo 1 2 (.iload_n 1) 1 := ⟨by decide +kernel, rfl⟩
theorem dX7_wouldGo_2 : dI cX7_wouldGo 2 3 (.iload_n 2) 1 := ⟨by decide +kernel, rfl⟩
theorem dX7_wouldGo_3 : dI cX7_wouldGo 3 4 (.iload_n 3) 1 := ⟨by decide +kernel, rfl⟩
theorem dX7_wouldGo_4 : decode cX7_wouldGo 4 = .ok (.invokevirtual 161, 3) := by decide +kernel
theorem dX7_wouldGo_7 : decode cX7_wouldGo 7 = .ok (.ifCond .lt 22, 3) := by decide +kernel
theorem dX7_wouldGo_10 : dI cX7_wouldGo 10 11 (.iload_n 1) 1 := ⟨by decide +kernel, rfl⟩
theorem dX7_wouldGo_11 : dI cX7_wouldGo 11 12 (.iconst 4) 1 := ⟨by decide +kernel, rfl⟩
theorem dX7_wouldGo_12 : decode cX7_wouldGo 12 = .ok (.if_icmp .eq 13, 3) := by decide +kernel
theorem dX7_wouldGo_15 : dI cX7_wouldGo 15 16 (.aload_n 0) 1 := ⟨by decide +kernel, rfl⟩
theorem dX7_wouldGo_16 : dI cX7_wouldGo 16 17 (.iload_n 1) 1 := ⟨by decide +kernel, rfl⟩
theorem dX7_wouldGo_17 : dI cX7_wouldGo 17 18 (.iload_n 2) 1 := ⟨by decide +kernel, rfl⟩
theorem dX7_wouldGo_18 : dI cX7_wouldGo 18 19 (.iload_n 3) 1 := ⟨by decide +kernel, rfl⟩
theorem dX7_wouldGo_19 : decode cX7_wouldGo 19 = .ok (.invokevirtual 158, 3) := by decide +kernel
theorem dX7_wouldGo_22 : decode cX7_wouldGo 22 = .ok (.ifCond .lt 7, 3) := by decide +kernel
theorem dX7_wouldGo_25 : dI cX7_wouldGo 25 26 (.iconst 1) 1 := ⟨by decide +kernel, rfl⟩
theorem dX7_wouldGo_26 : decode cX7_wouldGo 26 = .ok (.goto 4, 3) := by decide +kernel
theorem dX7_wouldGo_29 : dI cX7_wouldGo 29 30 (.iconst 0) 1 := ⟨by decide +kernel, rfl⟩
theorem dX7_wouldGo_30 : dI cX7_wouldGo 30 31 (.ireturn) 1 := ⟨by decide +kernel, rfl⟩
def f_X7_wouldGo_b25 (s : hS) : Option (Int32 × hS) :=
  some ((1 : Int32), s)
theorem b_X7_wouldGo_25 (E : jE)  (s : hS)   : Jo E M_X7_wouldGo cvI 25 [] [] s (f_X7_wouldGo_b25   s) := by
  unfold f_X7_wouldGo_b25
  refine Jo_iconst (v := (1 : Int32)) dX7_wouldGo_25 (by decide) ?_
  refine Jo_goto 30 dX7_wouldGo_26 (by decide) ?_
  exact Jo_zret1 rfl dX7_wouldGo_30
def f_X7_wouldGo (s : hS) (a0 : Nat) (i1 : Int32) (i2 : Int32) (i3 : Int32) : Option (Int32 × hS) :=
  (cV s a0 7 (f_X7_gotBy s a0 i1 i2 i3)).bind fun p1 =>
  if p1.1 < 0 then
    some ((0 : Int32), p1.2)
  else
    if i1 = (4 : Int32) then
      f_X7_wouldGo_b25  p1.2
    else
      (cV p1.2 a0 7 (f_X7_givenBy p1.2 a0 i1 i2 i3)).bind fun p2 =>
      if p2.1 < 0 then
        some ((0 : Int32), p2.2)
      else
        f_X7_wouldGo_b25  p2.2
theorem b_X7_wouldGo_in (E : jE)  (s : hS) (a0 : Nat) (i1 : Int32) (i2 : Int32) (i3 : Int32)  : Jo E M_X7_wouldGo cvI 0 [(0, .ref a0), (1, .int i1), (2, .int i2), (3, .int i3)] [] s (f_X7_wouldGo s a0 i1 i2 i3) := by
  unfold f_X7_wouldGo
  refine Jo_aloadn 0 dX7_wouldGo_0 rfl rfl ?_
  refine Jo_iloadn 1 dX7_wouldGo_1 rfl rfl ?_
  refine Jo_iloadn 2 dX7_wouldGo_2 rfl rfl ?_
  refine Jo_iloadn 3 dX7_wouldGo_3 rfl rfl ?_
  refine Jo_callVi (a := a0) (rest := []) [.int i1, .int i2, .int i3] cc_7 yF_X7_gotBy yV_X7_gotBy w_769 rfl rfl ⟨Nat.le_of_ble_eq_true rfl, Nat.le_of_ble_eq_true rfl, Nat.le_of_ble_eq_true rfl⟩ dX7_wouldGo_4 rfl (K_X7_gotBy E s a0 i1 i2 i3) (fun p1 => ?_)
  refine Jo_if_lt 29 dX7_wouldGo_7 (by decide) rfl ?_ ?_
  · refine Jo_iconst (v := (0 : Int32)) dX7_wouldGo_29 (by decide) ?_
    exact Jo_zret0 rfl dX7_wouldGo_30
  · refine Jo_iloadn 1 dX7_wouldGo_10 rfl rfl ?_
    refine Jo_iconst (v := (4 : Int32)) dX7_wouldGo_11 (by decide) ?_
    refine Jo_icmp_eq 25 dX7_wouldGo_12 (by decide) rfl ?_ ?_
    · refine Jo_sub [] rfl ?_
      exact b_X7_wouldGo_25 E p1.2 
    · refine Jo_aloadn 0 dX7_wouldGo_15 rfl rfl ?_
      refine Jo_iloadn 1 dX7_wouldGo_16 rfl rfl ?_
      refine Jo_iloadn 2 dX7_wouldGo_17 rfl rfl ?_
      refine Jo_iloadn 3 dX7_wouldGo_18 rfl rfl ?_
      refine Jo_callVi (a := a0) (rest := []) [.int i1, .int i2, .int i3] cc_7 yF_X7_givenBy yV_X7_givenBy w_765 rfl rfl ⟨Nat.le_of_ble_eq_true rfl, Nat.le_of_ble_eq_true rfl, Nat.le_of_ble_eq_true rfl⟩ dX7_wouldGo_19 rfl (K_X7_givenBy E p1.2 a0 i1 i2 i3) (fun p2 => ?_)
      refine Jo_if_lt 29 dX7_wouldGo_22 (by decide) rfl ?_ ?_
      · refine Jo_iconst (v := (0 : Int32)) dX7_wouldGo_29 (by decide) ?_
        exact Jo_zret0 rfl dX7_wouldGo_30
      · refine Jo_sub [] rfl ?_
        exact b_X7_wouldGo_25 E p2.2 
theorem K_X7_wouldGo (E : jE) (s : hS) (a0 : Nat) (i1 : Int32) (i2 : Int32) (i3 : Int32) : jK E yX7_wouldGo M_X7_wouldGo cvI [.ref a0, .int i1, .int i2, .int i3] s (f_X7_wouldGo s a0 i1 i2 i3) := jK_of ⟨by decide, rfl, rfl⟩ (Nat.le_of_ble_eq_true rfl) (b_X7_wouldGo_in E s a0 i1 i2 i3)
