/-! HeronTalkModel.person()I -/
abbrev M_X7_person : jM := (RX7, cX7_person, 1, (some .int), "person", 0, 0)
theorem yF_X7_person : yF yX7_person M_X7_person 0 := ⟨w_691, w_624, by decide +kernel⟩
theorem yV_X7_person : Cond.instanceMethod yX7_person ∈ tbG ∧ Cond.selects yX7_person.cls yX7_person yX7_person ∈ tbG := ⟨w_692, w_693⟩
theorem dX7_person_0 : dI cX7_person 0 1 (.aload_n 0) 1 := ⟨by decide +kernel, rfl⟩
theorem dX7_person_1 : dI cX7_person 1 4 (.getfield 9) 3 := ⟨by decide +kernel, rfl⟩
theorem dX7_person_4 : dI cX7_person 4 5 (.iconst 2) 1 := ⟨by decide +kernel, rfl⟩
theorem dX7_person_5 : dI cX7_person 5 6 (.iaload) 1 := ⟨by decide +kernel, rfl⟩
theorem dX7_person_6 : dI cX7_person 6 8 (.bipush 8) 2 := ⟨by decide +kernel, rfl⟩
theorem dX7_person_8 : decode cX7_person 8 = .ok (.if_icmp .ne 6, 3) := by decide +kernel
theorem dX7_person_11 : dI cX7_person 11 13 (.ldc 88) 2 := ⟨by decide +kernel, rfl⟩
theorem dX7_person_13 : dI cX7_person 13 14 (.ireturn) 1 := ⟨by decide +kernel, rfl⟩
theorem dX7_person_14 : dI cX7_person 14 15 (.aload_n 0) 1 := ⟨by decide +kernel, rfl⟩
theorem dX7_person_15 : dI cX7_person 15 18 (.getfield 9) 3 := ⟨by decide +kernel, rfl⟩
theorem dX7_person_18 : dI cX7_person 18 20 (.bipush 40) 2 := ⟨by decide +kernel, rfl⟩
theorem dX7_person_20 : dI cX7_person 20 21 (.iconst 2) 1 := ⟨by decide +kernel, rfl⟩
theorem dX7_person_21 : dI cX7_person 21 22 (.aload_n 0) 1 := ⟨by decide +kernel, rfl⟩
theorem dX7_person_22 : dI cX7_person 22 25 (.getfield 9) 3 := ⟨by decide +kernel, rfl⟩
theorem dX7_person_25 : dI cX7_person 25 26 (.iconst 2) 1 := ⟨by decide +kernel, rfl⟩
theorem dX7_person_26 : dI cX7_person 26 27 (.iaload) 1 := ⟨by decide +kernel, rfl⟩
theorem dX7_person_27 : dI cX7_person 27 28 (.imul) 1 := ⟨by decide +kernel, rfl⟩
theorem dX7_person_28 : dI cX7_person 28 29 (.iadd) 1 := ⟨by decide +kernel, rfl⟩
theorem dX7_person_29 : dI cX7_person 29 30 (.iconst 0) 1 := ⟨by decide +kernel, rfl⟩
theorem dX7_person_30 : dI cX7_person 30 31 (.iastore) 1 := ⟨by decide +kernel, rfl⟩
theorem dX7_person_31 : dI cX7_person 31 32 (.aload_n 0) 1 := ⟨by decide +kernel, rfl⟩
theorem dX7_person_32 : dI cX7_person 32 35 (.getfield 9) 3 := ⟨by decide +kernel, rfl⟩
theorem dX7_person_35 : dI cX7_person 35 37 (.bipush 40) 2 := ⟨by decide +kernel, rfl⟩
theorem dX7_person_37 : dI cX7_person 37 38 (.iconst 2) 1 := ⟨by decide +kernel, rfl⟩
theorem dX7_person_38 : dI cX7_person 38 39 (.aload_n 0) 1 := ⟨by decide +kernel, rfl⟩
theorem dX7_person_39 : dI cX7_person 39 42 (.getfield 9) 3 := ⟨by decide +kernel, rfl⟩
theorem dX7_person_42 : dI cX7_person 42 43 (.iconst 2) 1 := ⟨by decide +kernel, rfl⟩
theorem dX7_person_43 : dI cX7_person 43 44 (.iaload) 1 := ⟨by decide +kernel, rfl⟩
theorem dX7_person_44 : dI cX7_person 44 45 (.imul) 1 := ⟨by decide +kernel, rfl⟩
theorem dX7_person_45 : dI cX7_person 45 46 (.iadd) 1 := ⟨by decide +kernel, rfl⟩
theorem dX7_person_46 : dI cX7_person 46 47 (.iconst 1) 1 := ⟨by decide +kernel, rfl⟩
theorem dX7_person_47 : dI cX7_person 47 48 (.iadd) 1 := ⟨by decide +kernel, rfl⟩
theorem dX7_person_48 : dI cX7_person 48 49 (.iconst 0) 1 := ⟨by decide +kernel, rfl⟩
theorem dX7_person_49 : dI cX7_person 49 50 (.iastore) 1 := ⟨by decide +kernel, rfl⟩
theorem dX7_person_50 : dI cX7_person 50 51 (.aload_n 0) 1 := ⟨by decide +kernel, rfl⟩
theorem dX7_person_51 : dI cX7_person 51 54 (.getfield 9) 3 := ⟨by decide +kernel, rfl⟩
theorem dX7_person_54 : dI cX7_person 54 55 (.iconst 2) 1 := ⟨by decide +kernel, rfl⟩
theorem dX7_person_55 : dI cX7_person 55 56 (.dup2) 1 := ⟨by decide +kernel, rfl⟩
theorem dX7_person_56 : dI cX7_person 56 57 (.iaload) 1 := ⟨by decide +kernel, rfl⟩
theorem dX7_person_57 : dI cX7_person 57 58 (.iconst 1) 1 := ⟨by decide +kernel, rfl⟩
theorem dX7_person_58 : dI cX7_person 58 59 (.iadd) 1 := ⟨by decide +kernel, rfl⟩
theorem dX7_person_59 : dI cX7_person 59 60 (.iastore) 1 := ⟨by decide +kernel, rfl⟩
theorem dX7_person_60 : dI cX7_person 60 61 (.aload_n 0) 1 := ⟨by decide +kernel, rfl⟩
theorem dX7_person_61 : dI cX7_person 61 64 (.getfield 9) 3 := ⟨by decide +kernel, rfl⟩
theorem dX7_person_64 : dI cX7_person 64 65 (.iconst 2) 1 := ⟨by decide +kernel, rfl⟩
theorem dX7_person_65 : dI cX7_person 65 66 (.iaload) 1 := ⟨by decide +kernel, rfl⟩
theorem dX7_person_66 : dI cX7_person 66 67 (.iconst 1) 1 := ⟨by decide +kernel, rfl⟩
theorem dX7_person_67 : dI cX7_person 67 68 (.isub) 1 := ⟨by decide +kernel, rfl⟩
theorem dX7_person_68 : dI cX7_person 68 69 (.ireturn) 1 := ⟨by decide +kernel, rfl⟩
def f_X7_person (s : hS) (a0 : Nat) : Option (Int32 × hS) :=
  (gR s a0 7 0).bind fun a1 =>
  (aI s a1 10 (2 : Int32)).bind fun x2 =>
  if x2 = (8 : Int32) then
    some ((-1000000003 : Int32), s)
  else
    (gR s a0 7 0).bind fun a3 =>
    (gR s a0 7 0).bind fun a4 =>
    (aI s a4 10 (2 : Int32)).bind fun x5 =>
    (sI s a3 10 ((40 : Int32) + ((2 : Int32) * x5)) (0 : Int32)).bind fun s6 =>
    (gR s6 a0 7 0).bind fun a7 =>
    (gR s6 a0 7 0).bind fun a8 =>
    (aI s6 a8 10 (2 : Int32)).bind fun x9 =>
    (sI s6 a7 10 (((40 : Int32) + ((2 : Int32) * x9)) + (1 : Int32)) (0 : Int32)).bind fun s10 =>
    (gR s10 a0 7 0).bind fun a11 =>
    (aI s10 a11 10 (2 : Int32)).bind fun x12 =>
    (sI s10 a11 10 (2 : Int32) (x12 + (1 : Int32))).bind fun s13 =>
    (gR s13 a0 7 0).bind fun a14 =>
    (aI s13 a14 10 (2 : Int32)).bind fun x15 =>
    some ((x15 - (1 : Int32)), s13)
theorem b_X7_person_in (E : jE)  (s : hS) (a0 : Nat)  : Jo E M_X7_person cvI 0 [(0, .ref a0)] [] s (f_X7_person s a0) := by
  unfold f_X7_person
  refine Jo_aloadn 0 dX7_person_0 rfl rfl ?_
  refine Jo_getR fF_7_0 fR_7_0 dX7_person_1 w_598 (fun a1 => ?_)
  refine Jo_iconst (v := (2 : Int32)) dX7_person_4 (by decide) ?_
  refine Jo_iaload dX7_person_5 (fun x2 => ?_)
  refine Jo_bipush (v := (8 : Int32)) dX7_person_6 (by decide) ?_
  refine Jo_icmp_ne 14 dX7_person_8 (by decide) rfl ?_ ?_
  · refine Jo_ldc dX7_person_11 w_672 ?_
    exact Jo_iret rfl dX7_person_13
  · refine Jo_aloadn 0 dX7_person_14 rfl rfl ?_
    refine Jo_getR fF_7_0 fR_7_0 dX7_person_15 w_598 (fun a3 => ?_)
    refine Jo_bipush (v := (40 : Int32)) dX7_person_18 (by decide) ?_
    refine Jo_iconst (v := (2 : Int32)) dX7_person_20 (by decide) ?_
    refine Jo_aloadn 0 dX7_person_21 rfl rfl ?_
    refine Jo_getR fF_7_0 fR_7_0 dX7_person_22 w_598 (fun a4 => ?_)
    refine Jo_iconst (v := (2 : Int32)) dX7_person_25 (by decide) ?_
    refine Jo_iaload dX7_person_26 (fun x5 => ?_)
    refine Jo_imul dX7_person_27 ?_
    refine Jo_iadd dX7_person_28 ?_
    refine Jo_iconst (v := (0 : Int32)) dX7_person_29 (by decide) ?_
    refine Jo_iastore dX7_person_30 (fun s6 => ?_)
    refine Jo_aloadn 0 dX7_person_31 rfl rfl ?_
    refine Jo_getR fF_7_0 fR_7_0 dX7_person_32 w_598 (fun a7 => ?_)
    refine Jo_bipush (v := (40 : Int32)) dX7_person_35 (by decide) ?_
    refine Jo_iconst (v := (2 : Int32)) dX7_person_37 (by decide) ?_
    refine Jo_aloadn 0 dX7_person_38 rfl rfl ?_
    refine Jo_getR fF_7_0 fR_7_0 dX7_person_39 w_598 (fun a8 => ?_)
    refine Jo_iconst (v := (2 : Int32)) dX7_person_42 (by decide) ?_
    refine Jo_iaload dX7_person_43 (fun x9 => ?_)
    refine Jo_imul dX7_person_44 ?_
    refine Jo_iadd dX7_person_45 ?_
    refine Jo_iconst (v := (1 : Int32)) dX7_person_46 (by decide) ?_
    refine Jo_iadd dX7_person_47 ?_
    refine Jo_iconst (v := (0 : Int32)) dX7_person_48 (by decide) ?_
    refine Jo_iastore dX7_person_49 (fun s10 => ?_)
    refine Jo_aloadn 0 dX7_person_50 rfl rfl ?_
    refine Jo_getR fF_7_0 fR_7_0 dX7_person_51 w_598 (fun a11 => ?_)
    refine Jo_iconst (v := (2 : Int32)) dX7_person_54 (by decide) ?_
    refine Jo_dup2 dX7_person_55 rfl rfl ?_
    refine Jo_iaload dX7_person_56 (fun x12 => ?_)
    refine Jo_iconst (v := (1 : Int32)) dX7_person_57 (by decide) ?_
    refine Jo_iadd dX7_person_58 ?_
    refine Jo_iastore dX7_person_59 (fun s13 => ?_)
    refine Jo_aloadn 0 dX7_person_60 rfl rfl ?_
    refine Jo_getR fF_7_0 fR_7_0 dX7_person_61 w_598 (fun a14 => ?_)
    refine Jo_iconst (v := (2 : Int32)) dX7_person_64 (by decide) ?_
    refine Jo_iaload dX7_person_65 (fun x15 => ?_)
    refine Jo_iconst (v := (1 : Int32)) dX7_person_66 (by decide) ?_
    refine Jo_isub dX7_person_67 ?_
    exact Jo_iret rfl dX7_person_68
theorem K_X7_person (E : jE) (s : hS) (a0 : Nat) : jK E yX7_person M_X7_person cvI [.ref a0] s (f_X7_person s a0) := jK_of ⟨by decide, rfl, rfl⟩ (Nat.le_of_ble_eq_true rfl) (b_X7_person_in E s a0)
/-! HeronTalkModel.newsOf(I)I -/
abbrev M_X7_newsOf : jM := (RX7, cX7_newsOf, 4, (some .int), "newsOf", 3, 66)
theorem yF_X7_newsOf : yF yX7_newsOf M_X7_newsOf 1 := ⟨w_694, w_624, by decide +kernel⟩
theorem yV_X7_newsOf : Cond.instanceMethod yX7_newsOf ∈ tbG ∧ Cond.selects yX7_newsOf.cls yX7_newsOf yX7_newsOf ∈ tbG := ⟨w_695, w_696⟩
theorem dX7_newsOf_0 : dI cX7_newsOf 0 1 (.iconst 0) 1 := ⟨by decide +kernel, rfl⟩
theorem dX7_newsOf_1 : dI cX7_newsOf 1 2 (.istore_n 2) 1 := ⟨by decide +kernel, rfl⟩
theorem dX7_newsOf_2 : dI cX7_newsOf 2 3 (.iconst 0) 1 := ⟨by decide +kernel, rfl⟩
theorem dX7_newsOf_3 : dI cX7_newsOf 3 4 (.istore_n 3) 1 := ⟨by decide +kernel, rfl⟩
theorem dX7_newsOf_4 : dI cX7_newsOf 4 5 (.iload_n 3) 1 := ⟨by decide +kernel, rfl⟩
theorem dX7_newsOf_5 : dI cX7_newsOf 5 6 (.aload_n 0) 1 := ⟨by decide +kernel, rfl⟩
theorem dX7_newsOf_6 : dI cX7_newsOf 6 9 (.getfield 9) 3 := ⟨by decide +kernel, rfl⟩
theorem dX7_newsOf_9 : dI cX7_newsOf 9 10 (.iconst 1) 1 := ⟨by decide +kernel, rfl⟩
theorem dX7_newsOf_10 : dI cX7_newsOf 10 11 (.iaload) 1 := ⟨by decide +kernel, rfl⟩
theorem dX7_newsOf_11 : decode cX7_newsOf 11 = .ok (.if_icmp .ge 36, 3) := by decide +kernel
theorem dX7_newsOf_14 : dI cX7_newsOf 14 15 (.iload_n 2) 1 := ⟨by decide +kernel, rfl⟩
theorem dX7_newsOf_15 : dI cX7_newsOf 15 16 (.aload_n 0) 1 := ⟨by decide +kernel, rfl⟩
theorem dX7_newsOf_16 : dI cX7_newsOf 16 17 (.iload_n 3) 1 := ⟨by decide +kernel, rfl⟩
theorem dX7_newsOf_17 : decode cX7_newsOf 17 = .ok (.invokevirtual 97, 3) := by decide +kernel
theorem dX7_newsOf_20 : decode cX7_newsOf 20 = .ok (.ifCond .eq 18, 3) := by decide +kernel
theorem dX7_newsOf_23 : dI cX7_newsOf 23 24 (.aload_n 0) 1 := ⟨by decide +kernel, rfl⟩
theorem dX7_newsOf_24 : dI cX7_newsOf 24 25 (.iload_n 3) 1 := ⟨by decide +kernel, rfl⟩
theorem dX7_newsOf_25 : decode cX7_newsOf 25 = .ok (.invokevirtual 100, 3) := by decide +kernel
theorem dX7_newsOf_28 : dI cX7_newsOf 28 29 (.iconst 1) 1 := ⟨by decide +kernel, rfl⟩
theorem dX7_newsOf_29 : dI cX7_newsOf 29 30 (.iload_n 1) 1 := ⟨by decide +kernel, rfl⟩
theorem dX7_newsOf_30 : dI cX7_newsOf 30 31 (.ishl) 1 := ⟨by decide +kernel, rfl⟩
theorem dX7_newsOf_31 : decode cX7_newsOf 31 = .ok (.if_icmp .ne 7, 3) := by decide +kernel
theorem dX7_newsOf_34 : dI cX7_newsOf 34 35 (.iconst 1) 1 := ⟨by decide +kernel, rfl⟩
theorem dX7_newsOf_35 : decode cX7_newsOf 35 = .ok (.goto 4, 3) := by decide +kernel
theorem dX7_newsOf_38 : dI cX7_newsOf 38 39 (.iconst 0) 1 := ⟨by decide +kernel, rfl⟩
theorem dX7_newsOf_39 : dI cX7_newsOf 39 40 (.iadd) 1 := ⟨by decide +kernel, rfl⟩
theorem dX7_newsOf_40 : dI cX7_newsOf 40 41 (.istore_n 2) 1 := ⟨by decide +kernel, rfl⟩
theorem dX7_newsOf_41 : dI cX7_newsOf 41 44 (.iinc 3 1) 3 := ⟨by decide +kernel, rfl⟩
theorem dX7_newsOf_44 : decode cX7_newsOf 44 = .ok (.goto (-40), 3) := by decide +kernel
theorem dX7_newsOf_47 : dI cX7_newsOf 47 48 (.iload_n 2) 1 := ⟨by decide +kernel, rfl⟩
theorem dX7_newsOf_48 : dI cX7_newsOf 48 49 (.ireturn) 1 := ⟨by decide +kernel, rfl⟩
def f_X7_newsOf_b39 (k4 : Nat → Int32 → Int32 → Int32 → hS → Option (Int32 × hS)) (l0 : Nat) (l1 : Int32) (l3 : Int32) (t0 : Int32) (t1 : Int32) (s : hS) : Option (Int32 × hS) :=
  nmv ((t0 + t1)) fun x1 =>
  k4 l0 l1 x1 (l3 + (1 : Int32)) s
theorem b_X7_newsOf_39 (E : jE) (k4 : Nat → Int32 → Int32 → Int32 → hS → Option (Int32 × hS)) (h4 : ∀ (s : hS) (l0 : Nat) (l1 : Int32) (l2 : Int32) (l3 : Int32) , Jo E M_X7_newsOf cvI 4 [(0, .ref l0), (1, .int l1), (2, .int l2), (3, .int l3)] [] s (k4 l0 l1 l2 l3 s)) (s : hS) (l0 : Nat) (l1 : Int32) (l3 : Int32) (t0 : Int32) (t1 : Int32) : Jo E M_X7_newsOf cvI 39 [(0, .ref l0), (1, .int l1), (3, .int l3)] [.int t1, .int t0] s (f_X7_newsOf_b39 k4 l0 l1 l3 t0 t1 s) := by
  unfold f_X7_newsOf_b39
  refine Jo_iadd dX7_newsOf_39 ?_
  refine Jo_nm (fun x1 => ?_)
  refine Jo_istoren (ls' := [(2, .int x1), (0, .ref l0), (1, .int l1), (3, .int l3)]) dX7_newsOf_40 rfl (by decide) rfl ?_
  refine Jo_iinc (v := (l3 + (1 : Int32))) (ls' := [(3, .int (l3 + (1 : Int32))), (2, .int x1), (0, .ref l0), (1, .int l1)]) 3 dX7_newsOf_41 rfl rfl (by decide) rfl ?_
  refine Jo_goto 4 dX7_newsOf_44 (by decide) ?_
  refine Jo_sub [2, 3, 1, 0] rfl ?_
  exact h4 s l0 l1 x1 (l3 + (1 : Int32))
def f_X7_newsOf_b38 (k4 : Nat → Int32 → Int32 → Int32 → hS → Option (Int32 × hS)) (l0 : Nat) (l1 : Int32) (l3 : Int32) (t0 : Int32) (s : hS) : Option (Int32 × hS) :=
  f_X7_newsOf_b39 k4 l0 l1 l3 t0 (0 : Int32) s
theorem b_X7_newsOf_38 (E : jE) (k4 : Nat → Int32 → Int32 → Int32 → hS → Option (Int32 × hS)) (h4 : ∀ (s : hS) (l0 : Nat) (l1 : Int32) (l2 : Int32) (l3 : Int32) , Jo E M_X7_newsOf cvI 4 [(0, .ref l0), (1, .int l1), (2, .int l2), (3, .int l3)] [] s (k4 l0 l1 l2 l3 s)) (s : hS) (l0 : Nat) (l1 : Int32) (l3 : Int32) (t0 : Int32) : Jo E M_X7_newsOf cvI 38 [(0, .ref l0), (1, .int l1), (3, .int l3)] [.int t0] s (f_X7_newsOf_b38 k4 l0 l1 l3 t0 s) := by
  unfold f_X7_newsOf_b38
  refine Jo_iconst (v := (0 : Int32)) dX7_newsOf_38 (by decide) ?_
  exact b_X7_newsOf_39 E k4 h4 s l0 l1 l3 t0 (0 : Int32)
def f_X7_newsOf_b4 (k4 : Nat → Int32 → Int32 → Int32 → hS → Option (Int32 × hS)) (l0 : Nat) (l1 : Int32) (l2 : Int32) (l3 : Int32) (s : hS) : Option (Int32 × hS) :=
  (gR s l0 7 0).bind fun a1 =>
  (aI s a1 10 (1 : Int32)).bind fun x2 =>
  if x2 ≤ l3 then
    some (l2, s)
  else
    (cV s l0 7 (f_X7_isFresh s l0 l3)).bind fun p3 =>
    if p3.1 = 0 then
      f_X7_newsOf_b38 k4 l0 l1 l3 l2 p3.2
    else
      (cV p3.2 l0 7 (f_X7_knowers p3.2 l0 l3)).bind fun p4 =>
      if p4.1 = ((1 : Int32) <<< (l1 &&& 31)) then
        f_X7_newsOf_b39 k4 l0 l1 l3 l2 (1 : Int32) p4.2
      else
        f_X7_newsOf_b38 k4 l0 l1 l3 l2 p4.2
theorem b_X7_newsOf_4 (E : jE) (k4 : Nat → Int32 → Int32 → Int32 → hS → Option (Int32 × hS)) (h4 : ∀ (s : hS) (l0 : Nat) (l1 : Int32) (l2 : Int32) (l3 : Int32) , Jo E M_X7_newsOf cvI 4 [(0, .ref l0), (1, .int l1), (2, .int l2), (3, .int l3)] [] s (k4 l0 l1 l2 l3 s)) (s : hS) (l0 : Nat) (l1 : Int32) (l2 : Int32) (l3 : Int32)  : Jo E M_X7_newsOf cvI 4 [(0, .ref l0), (1, .int l1), (2, .int l2), (3, .int l3)] [] s (f_X7_newsOf_b4 k4 l0 l1 l2 l3 s) := by
  unfold f_X7_newsOf_b4
  refine Jo_iloadn 3 dX7_newsOf_4 rfl rfl ?_
  refine Jo_aloadn 0 dX7_newsOf_5 rfl rfl ?_
  refine Jo_getR fF_7_0 fR_7_0 dX7_newsOf_6 w_598 (fun a1 => ?_)
  refine Jo_iconst (v := (1 : Int32)) dX7_newsOf_9 (by decide) ?_
  refine Jo_iaload dX7_newsOf_10 (fun x2 => ?_)
  refine Jo_icmp_ge 47 dX7_newsOf_11 (by decide) rfl ?_ ?_
  · refine Jo_iloadn 2 dX7_newsOf_47 rfl rfl ?_
    exact Jo_iret rfl dX7_newsOf_48
  · refine Jo_iloadn 2 dX7_newsOf_14 rfl rfl ?_
    refine Jo_aloadn 0 dX7_newsOf_15 rfl rfl ?_
    refine Jo_iloadn 3 dX7_newsOf_16 rfl rfl ?_
    refine Jo_callVi (a := l0) (rest := [.int l2]) [.int l3] cc_7 yF_X7_isFresh yV_X7_isFresh w_682 rfl rfl ⟨Nat.le_of_ble_eq_true rfl, Nat.le_of_ble_eq_true rfl, Nat.le_of_ble_eq_true rfl⟩ dX7_newsOf_17 rfl (K_X7_isFresh E s l0 l3) (fun p3 => ?_)
    refine Jo_if_eq 38 dX7_newsOf_20 (by decide) rfl ?_ ?_
    · refine Jo_sub [0, 1, 3] rfl ?_
      exact b_X7_newsOf_38 E k4 h4 p3.2 l0 l1 l3 l2
    · refine Jo_aloadn 0 dX7_newsOf_23 rfl rfl ?_
      refine Jo_iloadn 3 dX7_newsOf_24 rfl rfl ?_
      refine Jo_callVi (a := l0) (rest := [.int l2]) [.int l3] cc_7 yF_X7_knowers yV_X7_knowers w_681 rfl rfl ⟨Nat.le_of_ble_eq_true rfl, Nat.le_of_ble_eq_true rfl, Nat.le_of_ble_eq_true rfl⟩ dX7_newsOf_25 rfl (K_X7_knowers E p3.2 l0 l3) (fun p4 => ?_)
      refine Jo_iconst (v := (1 : Int32)) dX7_newsOf_28 (by decide) ?_
      refine Jo_iloadn 1 dX7_newsOf_29 rfl rfl ?_
      refine Jo_ishl dX7_newsOf_30 ?_
      refine Jo_icmp_ne 38 dX7_newsOf_31 (by decide) rfl ?_ ?_
      · refine Jo_iconst (v := (1 : Int32)) dX7_newsOf_34 (by decide) ?_
        refine Jo_goto 39 dX7_newsOf_35 (by decide) ?_
        refine Jo_sub [0, 1, 3] rfl ?_
        exact b_X7_newsOf_39 E k4 h4 p4.2 l0 l1 l3 l2 (1 : Int32)
      · refine Jo_sub [0, 1, 3] rfl ?_
        exact b_X7_newsOf_38 E k4 h4 p4.2 l0 l1 l3 l2
theorem e_X7_newsOf_4 (E : jE)  (n : Nat) : ∀ (s : hS) (l0 : Nat) (l1 : Int32) (l2 : Int32) (l3 : Int32) , Jo E M_X7_newsOf cvI 4 [(0, .ref l0), (1, .int l1), (2, .int l2), (3, .int l3)] [] s ((jL f_X7_newsOf_b4 (fun _ _ _ _ _ => none) n) l0 l1 l2 l3 s) :=
  jL_ind (P := fun f => ∀ (s : hS) (l0 : Nat) (l1 : Int32) (l2 : Int32) (l3 : Int32) , Jo E M_X7_newsOf cvI 4 [(0, .ref l0), (1, .int l1), (2, .int l2), (3, .int l3)] [] s (f l0 l1 l2 l3 s)) (fun _ _ _ _ _ => Jo_none) (fun b hb s l0 l1 l2 l3 => b_X7_newsOf_4 E  b hb s l0 l1 l2 l3) n
def f_X7_newsOf (s : hS) (a0 : Nat) (i1 : Int32) : Option (Int32 × hS) :=
  jL f_X7_newsOf_b4 (fun _ _ _ _ _ => none) jF a0 i1 (0 : Int32) (0 : Int32) s
theorem b_X7_newsOf_in (E : jE)  (s : hS) (a0 : Nat) (i1 : Int32)  : Jo E M_X7_newsOf cvI 0 [(0, .ref a0), (1, .int i1)] [] s (f_X7_newsOf s a0 i1) := by
  unfold f_X7_newsOf
  refine Jo_iconst (v := (0 : Int32)) dX7_newsOf_0 (by decide) ?_
  refine Jo_istoren (ls' := [(2, .int (0 : Int32)), (0, .ref a0), (1, .int i1)]) dX7_newsOf_1 rfl (by decide) rfl ?_
  refine Jo_iconst (v := (0 : Int32)) dX7_newsOf_2 (by decide) ?_
  refine Jo_istoren (ls' := [(3, .int (0 : Int32)), (2, .int (0 : Int32)), (0, .ref a0), (1, .int i1)]) dX7_newsOf_3 rfl (by decide) rfl ?_
  refine Jo_sub [2, 3, 1, 0] rfl ?_
  exact e_X7_newsOf_4 E jF s a0 i1 (0 : Int32) (0 : Int32)
theorem K_X7_newsOf (E : jE) (s : hS) (a0 : Nat) (i1 : Int32) : jK E yX7_newsOf M_X7_newsOf cvI [.ref a0, .int i1] s (f_X7_newsOf s a0 i1) := jK_of ⟨by decide, rfl, rfl⟩ (Nat.le_of_ble_eq_true rfl) (b_X7_newsOf_in E s a0 i1)
/-! HeronTalkModel.richesOf(I)I -/
abbrev M_X7_richesOf : jM := (RX7, cX7_richesOf, 4, (some .int), "richesOf", 2, 43)
theorem yF_X7_richesOf : yF yX7_richesOf M_X7_richesOf 1 := ⟨w_698, w_624, by decide +kernel⟩
theorem yV_X7_richesOf : Cond.instanceMethod yX7_richesOf ∈ tbG ∧ Cond.selects yX7_richesOf.cls yX7_richesOf yX7_richesOf ∈ tbG := ⟨w_699, w_700⟩
theorem dX7_richesOf_0 : dI cX7_richesOf 0 1 (.iconst 0) 1 := ⟨by decide +kernel, rfl⟩
theorem dX7_richesOf_1 : dI cX7_richesOf 1 2 (.istore_n 2) 1 := ⟨by decide +kernel, rfl⟩
theorem dX7_richesOf_2 : dI cX7_richesOf 2 3 (.iconst 0) 1 := ⟨by decide +kernel, rfl⟩
theorem dX7_richesOf_3 : dI cX7_richesOf 3 4 (.istore_n 3) 1 := ⟨by decide +kernel, rfl⟩
theorem dX7_richesOf_4 : dI cX7_richesOf 4 5 (.iload_n 3) 1 := ⟨by decide +kernel, rfl⟩
theorem dX7_richesOf_5 : dI cX7_richesOf 5 6 (.aload_n 0) 1 := ⟨by decide +kernel, rfl⟩
theorem dX7_richesOf_6 : dI cX7_richesOf 6 9 (.getfield 9) 3 := ⟨by decide +kernel, rfl⟩
theorem dX7_richesOf_9 : dI cX7_richesOf 9 10 (.iconst 1) 1 := ⟨by decide +kernel, rfl⟩
theorem dX7_richesOf_10 : dI cX7_richesOf 10 11 (.iaload) 1 := ⟨by decide +kernel, rfl⟩
theorem dX7_richesOf_11 : decode cX7_richesOf 11 = .ok (.if_icmp .ge 30, 3) := by decide +kernel
theorem dX7_richesOf_14 : dI cX7_richesOf 14 15 (.iload_n 2) 1 := ⟨by decide +kernel, rfl⟩
theorem dX7_richesOf_15 : dI cX7_richesOf 15 16 (.aload_n 0) 1 := ⟨by decide +kernel, rfl⟩
theorem dX7_richesOf_16 : dI cX7_richesOf 16 17 (.iload_n 1) 1 := ⟨by decide +kernel, rfl⟩
theorem dX7_richesOf_17 : dI cX7_richesOf 17 18 (.iload_n 3) 1 := ⟨by decide +kernel, rfl⟩
theorem dX7_richesOf_18 : decode cX7_richesOf 18 = .ok (.invokevirtual 89, 3) := by decide +kernel
theorem dX7_richesOf_21 : decode cX7_richesOf 21 = .ok (.ifCond .eq 11, 3) := by decide +kernel
theorem dX7_richesOf_24 : dI cX7_richesOf 24 25 (.aload_n 0) 1 := ⟨by decide +kernel, rfl⟩
theorem dX7_richesOf_25 : dI cX7_richesOf 25 26 (.iload_n 3) 1 := ⟨by decide +kernel, rfl⟩
theorem dX7_richesOf_26 : decode cX7_richesOf 26 = .ok (.invokevirtual 107, 3) := by decide +kernel
theorem dX7_richesOf_29 : decode cX7_richesOf 29 = .ok (.goto 4, 3) := by decide +kernel
theorem dX7_richesOf_32 : dI cX7_richesOf 32 33 (.iconst 0) 1 := ⟨by decide +kernel, rfl⟩
theorem dX7_richesOf_33 : dI cX7_richesOf 33 34 (.iadd) 1 := ⟨by decide +kernel, rfl⟩
theorem dX7_richesOf_34 : dI cX7_richesOf 34 35 (.istore_n 2) 1 := ⟨by decide +kernel, rfl⟩
theorem dX7_richesOf_35 : dI cX7_richesOf 35 38 (.iinc 3 1) 3 := ⟨by decide +kernel, rfl⟩
theorem dX7_richesOf_38 : decode cX7_richesOf 38 = .ok (.goto (-34), 3) := by decide +kernel
theorem dX7_richesOf_41 : dI cX7_richesOf 41 42 (.iload_n 2) 1 := ⟨by decide +kernel, rfl⟩
theorem dX7_richesOf_42 : dI cX7_richesOf 42 43 (.ireturn) 1 := ⟨by decide +kernel, rfl⟩
def f_X7_richesOf_b33 (k4 : Nat → Int32 → Int32 → Int32 → hS → Option (Int32 × hS)) (l0 : Nat) (l1 : Int32) (l3 : Int32) (t0 : Int32) (t1 : Int32) (s : hS) : Option (Int32 × hS) :=
  nmv ((t0 + t1)) fun x1 =>
  k4 l0 l1 x1 (l3 + (1 : Int32)) s
theorem b_X7_richesOf_33 (E : jE) (k4 : Nat → Int32 → Int32 → Int32 → hS → Option (Int32 × hS)) (h4 : ∀ (s : hS) (l0 : Nat) (l1 : Int32) (l2 : Int32) (l3 : Int32) , Jo E M_X7_richesOf cvI 4 [(0, .ref l0), (1, .int l1), (2, .int l2), (3, .int l3)] [] s (k4 l0 l1 l2 l3 s)) (s : hS) (l0 : Nat) (l1 : Int32) (l3 : Int32) (t0 : Int32) (t1 : Int32) : Jo E M_X7_richesOf cvI 33 [(0, .ref l0), (1, .int l1), (3, .int l3)] [.int t1, .int t0] s (f_X7_richesOf_b33 k4 l0 l1 l3 t0 t1 s) := by
  unfold f_X7_richesOf_b33
  refine Jo_iadd dX7_richesOf_33 ?_
  refine Jo_nm (fun x1 => ?_)
  refine Jo_istoren (ls' := [(2, .int x1), (0, .ref l0), (1, .int l1), (3, .int l3)]) dX7_richesOf_34 rfl (by decide) rfl ?_
  refine Jo_iinc (v := (l3 + (1 : Int32))) (ls' := [(3, .int (l3 + (1 : Int32))), (2, .int x1), (0, .ref l0), (1, .int l1)]) 3 dX7_richesOf_35 rfl rfl (by decide) rfl ?_
  refine Jo_goto 4 dX7_richesOf_38 (by decide) ?_
  refine Jo_sub [2, 3, 1, 0] rfl ?_
  exact h4 s l0 l1 x1 (l3 + (1 : Int32))
def f_X7_richesOf_b4 (k4 : Nat → Int32 → Int32 → Int32 → hS → Option (Int32 × hS)) (l0 : Nat) (l1 : Int32) (l2 : Int32) (l3 : Int32) (s : hS) : Option (Int32 × hS) :=
  (gR s l0 7 0).bind fun a1 =>
  (aI s a1 10 (1 : Int32)).bind fun x2 =>
  if x2 ≤ l3 then
    some (l2, s)
  else
    (cV s l0 7 (f_X7_doesKnow s l0 l1 l3)).bind fun p3 =>
    if p3.1 = 0 then
      f_X7_richesOf_b33 k4 l0 l1 l3 l2 (0 : Int32) p3.2
    else
      (cV p3.2 l0 7 (f_X7_worthOf p3.2 l0 l3)).bind fun p4 =>
      f_X7_richesOf_b33 k4 l0 l1 l3 l2 p4.1 p4.2
theorem b_X7_richesOf_4 (E : jE) (k4 : Nat → Int32 → Int32 → Int32 → hS → Option (Int32 × hS)) (h4 : ∀ (s : hS) (l0 : Nat) (l1 : Int32) (l2 : Int32) (l3 : Int32) , Jo E M_X7_richesOf cvI 4 [(0, .ref l0), (1, .int l1), (2, .int l2), (3, .int l3)] [] s (k4 l0 l1 l2 l3 s)) (s : hS) (l0 : Nat) (l1 : Int32) (l2 : Int32) (l3 : Int32)  : Jo E M_X7_richesOf cvI 4 [(0, .ref l0), (1, .int l1), (2, .int l2), (3, .int l3)] [] s (f_X7_richesOf_b4 k4 l0 l1 l2 l3 s) := by
  unfold f_X7_richesOf_b4
  refine Jo_iloadn 3 dX7_richesOf_4 rfl rfl ?_
  refine Jo_aloadn 0 dX7_richesOf_5 rfl rfl ?_
  refine Jo_getR fF_7_0 fR_7_0 dX7_richesOf_6 w_598 (fun a1 => ?_)
  refine Jo_iconst (v := (1 : Int32)) dX7_richesOf_9 (by decide) ?_
  refine Jo_iaload dX7_richesOf_10 (fun x2 => ?_)
  refine Jo_icmp_ge 41 dX7_richesOf_11 (by decide) rfl ?_ ?_
  · refine Jo_iloadn 2 dX7_richesOf_41 rfl rfl ?_
    exact Jo_iret rfl dX7_richesOf_42
  · refine Jo_iloadn 2 dX7_richesOf_14 rfl rfl ?_
    refine Jo_aloadn 0 dX7_richesOf_15 rfl rfl ?_
    refine Jo_iloadn 1 dX7_richesOf_16 rfl rfl ?_
    refine Jo_iloadn 3 dX7_richesOf_17 rfl rfl ?_
    refine Jo_callVi (a := l0) (rest := [.int l2]) [.int l1, .int l3] cc_7 yF_X7_doesKnow yV_X7_doesKnow w_677 rfl rfl ⟨Nat.le_of_ble_eq_true rfl, Nat.le_of_ble_eq_true rfl, Nat.le_of_ble_eq_true rfl⟩ dX7_richesOf_18 rfl (K_X7_doesKnow E s l0 l1 l3) (fun p3 => ?_)
    refine Jo_if_eq 32 dX7_richesOf_21 (by decide) rfl ?_ ?_
    · refine Jo_iconst (v := (0 : Int32)) dX7_richesOf_32 (by decide) ?_
      refine Jo_sub [0, 1, 3] rfl ?_
      exact b_X7_richesOf_33 E k4 h4 p3.2 l0 l1 l3 l2 (0 : Int32)
    · refine Jo_aloadn 0 dX7_richesOf_24 rfl rfl ?_
      refine Jo_iloadn 3 dX7_richesOf_25 rfl rfl ?_
      refine Jo_callVi (a := l0) (rest := [.int l2]) [.int l3] cc_7 yF_X7_worthOf yV_X7_worthOf w_697 rfl rfl ⟨Nat.le_of_ble_eq_true rfl, Nat.le_of_ble_eq_true rfl, Nat.le_of_ble_eq_true rfl⟩ dX7_richesOf_26 rfl (K_X7_worthOf E p3.2 l0 l3) (fun p4 => ?_)
      refine Jo_goto 33 dX7_richesOf_29 (by decide) ?_
      refine Jo_sub [0, 1, 3] rfl ?_
      exact b_X7_richesOf_33 E k4 h4 p4.2 l0 l1 l3 l2 p4.1
theorem e_X7_richesOf_4 (E : jE)  (n : Nat) : ∀ (s : hS) (l0 : Nat) (l1 : Int32) (l2 : Int32) (l3 : Int32) , Jo E M_X7_richesOf cvI 4 [(0, .ref l0), (1, .int l1), (2, .int l2), (3, .int l3)] [] s ((jL f_X7_richesOf_b4 (fun _ _ _ _ _ => none) n) l0 l1 l2 l3 s) :=
  jL_ind (P := fun f => ∀ (s : hS) (l0 : Nat) (l1 : Int32) (l2 : Int32) (l3 : Int32) , Jo E M_X7_richesOf cvI 4 [(0, .ref l0), (1, .int l1), (2, .int l2), (3, .int l3)] [] s (f l0 l1 l2 l3 s)) (fun _ _ _ _ _ => Jo_none) (fun b hb s l0 l1 l2 l3 => b_X7_richesOf_4 E  b hb s l0 l1 l2 l3) n
def f_X7_richesOf (s : hS) (a0 : Nat) (i1 : Int32) : Option (Int32 × hS) :=
  jL f_X7_richesOf_b4 (fun _ _ _ _ _ => none) jF a0 i1 (0 : Int32) (0 : Int32) s
theorem b_X7_richesOf_in (E : jE)  (s : hS) (a0 : Nat) (i1 : Int32)  : Jo E M_X7_richesOf cvI 0 [(0, .ref a0), (1, .int i1)] [] s (f_X7_richesOf s a0 i1) := by
  unfold f_X7_richesOf
  refine Jo_iconst (v := (0 : Int32)) dX7_richesOf_0 (by decide) ?_
  refine Jo_istoren (ls' := [(2, .int (0 : Int32)), (0, .ref a0), (1, .int i1)]) dX7_richesOf_1 rfl (by decide) rfl ?_
  refine Jo_iconst (v := (0 : Int32)) dX7_richesOf_2 (by decide) ?_
  refine Jo_istoren (ls' := [(3, .int (0 : Int32)), (2, .int (0 : Int32)), (0, .ref a0), (1, .int i1)]) dX7_richesOf_3 rfl (by decide) rfl ?_
  refine Jo_sub [2, 3, 1, 0] rfl ?_
  exact e_X7_richesOf_4 E jF s a0 i1 (0 : Int32) (0 : Int32)
theorem K_X7_richesOf (E : jE) (s : hS) (a0 : Nat) (i1 : Int32) : jK E yX7_richesOf M_X7_richesOf cvI [.ref a0, .int i1] s (f_X7_richesOf s a0 i1) := jK_of ⟨by decide, rfl, rfl⟩ (Nat.le_of_ble_eq_true rfl) (b_X7_richesOf_in E s a0 i1)
/-! HeronTalkModel.personTold(II)I -/
abbrev M_X7_personTold : jM := (RX7, cX7_personTold, 3, (some .int), "personTold", 4, 89)
theorem yF_X7_personTold : yF yX7_personTold M_X7_personTold 2 := ⟨w_705, w_624, by decide +kernel⟩
theorem yV_X7_personTold : Cond.instanceMethod yX7_personTold ∈ tbG ∧ Cond.selects yX7_personTold.cls yX7_personTold yX7_personTold ∈ tbG := ⟨w_706, w_707⟩
theorem dX7_personTold_0 : dI cX7_personTold 0 1 (.aload_n 0) 1 := ⟨by decide +kernel, rfl⟩
theorem dX7_personTold_1 : dI cX7_personTold 1 2 (.iload_n 1) 1 := ⟨by decide +kernel, rfl⟩
theorem dX7_personTold_2 : decode cX7_personTold 2 = .ok (.invokevirtual 110, 3) := by decide +kernel
theorem dX7_personTold_5 : decode cX7_personTold 5 = .ok (.ifCond .ne 6, 3) := by decide +kernel
theorem dX7_personTold_8 : dI cX7_personTold 8 10 (.ldc 87) 2 := ⟨by decide +kernel, rfl⟩
theorem dX7_personTold_10 : dI cX7_personTold 10 11 (.ireturn) 1 := ⟨by decide +kernel, rfl⟩
theorem dX7_personTold_11 : dI cX7_personTold 11 12 (.iload_n 2) 1 := ⟨by decide +kernel, rfl⟩
theorem dX7_personTold_12 : decode cX7_personTold 12 = .ok (.tableswitch 74 0 4 #[36, 42, 48, 62, 68], 36) := by decide +kernel
theorem dX7_personTold_48 : dI cX7_personTold 48 49 (.aload_n 0) 1 := ⟨by decide +kernel, rfl⟩
theorem dX7_personTold_49 : dI cX7_personTold 49 50 (.iload_n 1) 1 := ⟨by decide +kernel, rfl⟩
theorem dX7_personTold_50 : decode cX7_personTold 50 = .ok (.invokevirtual 83, 3) := by decide +kernel
theorem dX7_personTold_53 : dI cX7_personTold 53 54 (.ireturn) 1 := ⟨by decide +kernel, rfl⟩
theorem dX7_personTold_54 : dI cX7_personTold 54 55 (.aload_n 0) 1 := ⟨by decide +kernel, rfl⟩
theorem dX7_personTold_55 : dI cX7_personTold 55 56 (.iload_n 1) 1 := ⟨by decide +kernel, rfl⟩
theorem dX7_personTold_56 : decode cX7_personTold 56 = .ok (.invokevirtual 113, 3) := by decide +kernel
theorem dX7_personTold_59 : dI cX7_personTold 59 60 (.ireturn) 1 := ⟨by decide +kernel, rfl⟩
theorem dX7_personTold_60 : dI cX7_personTold 60 61 (.aload_n 0) 1 := ⟨by decide +kernel, rfl⟩
theorem dX7_personTold_61 : dI cX7_personTold 61 62 (.iload_n 1) 1 := ⟨by decide +kernel, rfl⟩
theorem dX7_personTold_62 : decode cX7_personTold 62 = .ok (.invokevirtual 113, 3) := by decide +kernel
theorem dX7_personTold_65 : dI cX7_personTold 65 66 (.aload_n 0) 1 := ⟨by decide +kernel, rfl⟩
theorem dX7_personTold_66 : dI cX7_personTold 66 67 (.iload_n 1) 1 := ⟨by decide +kernel, rfl⟩
theorem dX7_personTold_67 : decode cX7_personTold 67 = .ok (.invokevirtual 83, 3) := by decide +kernel
theorem dX7_personTold_70 : dI cX7_personTold 70 71 (.iconst (-1)) 1 := ⟨by decide +kernel, rfl⟩
theorem dX7_personTold_71 : dI cX7_personTold 71 72 (.ixor) 1 := ⟨by decide +kernel, rfl⟩
theorem dX7_personTold_72 : dI cX7_personTold 72 73 (.iand) 1 := ⟨by decide +kernel, rfl⟩
theorem dX7_personTold_73 : dI cX7_personTold 73 74 (.ireturn) 1 := ⟨by decide +kernel, rfl⟩
theorem dX7_personTold_74 : dI cX7_personTold 74 75 (.aload_n 0) 1 := ⟨by decide +kernel, rfl⟩
theorem dX7_personTold_75 : dI cX7_personTold 75 76 (.iload_n 1) 1 := ⟨by decide +kernel, rfl⟩
theorem dX7_personTold_76 : decode cX7_personTold 76 = .ok (.invokevirtual 116, 3) := by decide +kernel
theorem dX7_personTold_79 : dI cX7_personTold 79 80 (.ireturn) 1 := ⟨by decide +kernel, rfl⟩
theorem dX7_personTold_80 : dI cX7_personTold 80 81 (.aload_n 0) 1 := ⟨by decide +kernel, rfl⟩
theorem dX7_personTold_81 : dI cX7_personTold 81 82 (.iload_n 1) 1 := ⟨by decide +kernel, rfl⟩
theorem dX7_personTold_82 : decode cX7_personTold 82 = .ok (.invokevirtual 119, 3) := by decide +kernel
theorem dX7_personTold_85 : dI cX7_personTold 85 86 (.ireturn) 1 := ⟨by decide +kernel, rfl⟩
theorem dX7_personTold_86 : dI cX7_personTold 86 88 (.ldc 87) 2 := ⟨by decide +kernel, rfl⟩
theorem dX7_personTold_88 : dI cX7_personTold 88 89 (.ireturn) 1 := ⟨by decide +kernel, rfl⟩
def f_X7_personTold (s : hS) (a0 : Nat) (i1 : Int32) (i2 : Int32) : Option (Int32 × hS) :=
  (cV s a0 7 (f_X7_isPerson s a0 i1)).bind fun p1 =>
  if p1.1 = 0 then
    some ((-1000000001 : Int32), p1.2)
  else
    if i2 = (0 : Int32) then
      (cV p1.2 a0 7 (f_X7_knownTo p1.2 a0 i1)).bind fun p3 =>
      some (p3.1, p3.2)
    else
    if i2 = (1 : Int32) then
      (cV p1.2 a0 7 (f_X7_neededBy p1.2 a0 i1)).bind fun p5 =>
      some (p5.1, p5.2)
    else
    if i2 = (2 : Int32) then
      (cV p1.2 a0 7 (f_X7_neededBy p1.2 a0 i1)).bind fun p7 =>
      (cV p7.2 a0 7 (f_X7_knownTo p7.2 a0 i1)).bind fun p8 =>
      some ((p7.1 &&& (p8.1 ^^^ (-1 : Int32))), p8.2)
    else
    if i2 = (3 : Int32) then
      (cV p1.2 a0 7 (f_X7_newsOf p1.2 a0 i1)).bind fun p10 =>
      some (p10.1, p10.2)
    else
    if i2 = (4 : Int32) then
      (cV p1.2 a0 7 (f_X7_richesOf p1.2 a0 i1)).bind fun p12 =>
      some (p12.1, p12.2)
    else
    some ((-1000000001 : Int32), p1.2)
theorem b_X7_personTold_in (E : jE)  (s : hS) (a0 : Nat) (i1 : Int32) (i2 : Int32)  : Jo E M_X7_personTold cvI 0 [(0, .ref a0), (1, .int i1), (2, .int i2)] [] s (f_X7_personTold s a0 i1 i2) := by
  unfold f_X7_personTold
  refine Jo_aloadn 0 dX7_personTold_0 rfl rfl ?_
  refine Jo_iloadn 1 dX7_personTold_1 rfl rfl ?_
  refine Jo_callVi (a := a0) (rest := []) [.int i1] cc_7 yF_X7_isPerson yV_X7_isPerson w_704 rfl rfl ⟨Nat.le_of_ble_eq_true rfl, Nat.le_of_ble_eq_true rfl, Nat.le_of_ble_eq_true rfl⟩ dX7_personTold_2 rfl (K_X7_isPerson E s a0 i1) (fun p1 => ?_)
  refine Jo_if_ne 11 dX7_personTold_5 (by decide) rfl ?_ ?_
  · refine Jo_ldc dX7_personTold_8 w_673 ?_
    exact Jo_iret rfl dX7_personTold_10
  · refine Jo_iloadn 2 dX7_personTold_11 rfl rfl ?_
    refine Jo_case ?_ (fun g2 => ?_)
    · refine Jo_tabIn (off := 36) 48 dX7_personTold_12 (by decide) (by decide) (by decide) (by decide) ?_
      refine Jo_aloadn 0 dX7_personTold_48 rfl rfl ?_
      refine Jo_iloadn 1 dX7_personTold_49 rfl rfl ?_
      refine Jo_callVi (a := a0) (rest := []) [.int i1] cc_7 yF_X7_knownTo yV_X7_knownTo w_665 rfl rfl ⟨Nat.le_of_ble_eq_true rfl, Nat.le_of_ble_eq_true rfl, Nat.le_of_ble_eq_true rfl⟩ dX7_personTold_50 rfl (K_X7_knownTo E p1.2 a0 i1) (fun p3 => ?_)
      exact Jo_iret rfl dX7_personTold_53
    refine Jo_case ?_ (fun g4 => ?_)
    · refine Jo_tabIn (off := 42) 54 dX7_personTold_12 (by decide) (by decide) (by decide) (by decide) ?_
      refine Jo_aloadn 0 dX7_personTold_54 rfl rfl ?_
      refine Jo_iloadn 1 dX7_personTold_55 rfl rfl ?_
      refine Jo_callVi (a := a0) (rest := []) [.int i1] cc_7 yF_X7_neededBy yV_X7_neededBy w_701 rfl rfl ⟨Nat.le_of_ble_eq_true rfl, Nat.le_of_ble_eq_true rfl, Nat.le_of_ble_eq_true rfl⟩ dX7_personTold_56 rfl (K_X7_neededBy E p1.2 a0 i1) (fun p5 => ?_)
      exact Jo_iret rfl dX7_personTold_59
    refine Jo_case ?_ (fun g6 => ?_)
    · refine Jo_tabIn (off := 48) 60 dX7_personTold_12 (by decide) (by decide) (by decide) (by decide) ?_
      refine Jo_aloadn 0 dX7_personTold_60 rfl rfl ?_
      refine Jo_iloadn 1 dX7_personTold_61 rfl rfl ?_
      refine Jo_callVi (a := a0) (rest := []) [.int i1] cc_7 yF_X7_neededBy yV_X7_neededBy w_701 rfl rfl ⟨Nat.le_of_ble_eq_true rfl, Nat.le_of_ble_eq_true rfl, Nat.le_of_ble_eq_true rfl⟩ dX7_personTold_62 rfl (K_X7_neededBy E p1.2 a0 i1) (fun p7 => ?_)
      refine Jo_aloadn 0 dX7_personTold_65 rfl rfl ?_
      refine Jo_iloadn 1 dX7_personTold_66 rfl rfl ?_
      refine Jo_callVi (a := a0) (rest := [.int p7.1]) [.int i1] cc_7 yF_X7_knownTo yV_X7_knownTo w_665 rfl rfl ⟨Nat.le_of_ble_eq_true rfl, Nat.le_of_ble_eq_true rfl, Nat.le_of_ble_eq_true rfl⟩ dX7_personTold_67 rfl (K_X7_knownTo E p7.2 a0 i1) (fun p8 => ?_)
      refine Jo_iconst (v := (-1 : Int32)) dX7_personTold_70 (by decide) ?_
      refine Jo_ixor dX7_personTold_71 ?_
      refine Jo_iand dX7_personTold_72 ?_
      exact Jo_iret rfl dX7_personTold_73
    refine Jo_case ?_ (fun g9 => ?_)
    · refine Jo_tabIn (off := 62) 74 dX7_personTold_12 (by decide) (by decide) (by decide) (by decide) ?_
      refine Jo_aloadn 0 dX7_personTold_74 rfl rfl ?_
      refine Jo_iloadn 1 dX7_personTold_75 rfl rfl ?_
      refine Jo_callVi (a := a0) (rest := []) [.int i1] cc_7 yF_X7_newsOf yV_X7_newsOf w_702 rfl rfl ⟨Nat.le_of_ble_eq_true rfl, Nat.le_of_ble_eq_true rfl, Nat.le_of_ble_eq_true rfl⟩ dX7_personTold_76 rfl (K_X7_newsOf E p1.2 a0 i1) (fun p10 => ?_)
      exact Jo_iret rfl dX7_personTold_79
    refine Jo_case ?_ (fun g11 => ?_)
    · refine Jo_tabIn (off := 68) 80 dX7_personTold_12 (by decide) (by decide) (by decide) (by decide) ?_
      refine Jo_aloadn 0 dX7_personTold_80 rfl rfl ?_
      refine Jo_iloadn 1 dX7_personTold_81 rfl rfl ?_
      refine Jo_callVi (a := a0) (rest := []) [.int i1] cc_7 yF_X7_richesOf yV_X7_richesOf w_703 rfl rfl ⟨Nat.le_of_ble_eq_true rfl, Nat.le_of_ble_eq_true rfl, Nat.le_of_ble_eq_true rfl⟩ dX7_personTold_82 rfl (K_X7_richesOf E p1.2 a0 i1) (fun p12 => ?_)
      exact Jo_iret rfl dX7_personTold_85
    refine Jo_tabOut 86 dX7_personTold_12 (by have qg2 := i32ne 0 (by decide) g2; have qg4 := i32ne 1 (by decide) g4; have qg6 := i32ne 2 (by decide) g6; have qg9 := i32ne 3 (by decide) g9; have qg11 := i32ne 4 (by decide) g11; omega) (by decide) ?_
    refine Jo_ldc dX7_personTold_86 w_673 ?_
    exact Jo_iret rfl dX7_personTold_88
theorem K_X7_personTold (E : jE) (s : hS) (a0 : Nat) (i1 : Int32) (i2 : Int32) : jK E yX7_personTold M_X7_personTold cvI [.ref a0, .int i1, .int i2] s (f_X7_personTold s a0 i1 i2) := jK_of ⟨by decide, rfl, rfl⟩ (Nat.le_of_ble_eq_true rfl) (b_X7_personTold_in E s a0 i1 i2)
/-! HeronTalkModel.knows(III)I -/
abbrev M_X7_knows : jM := (RX7, cX7_knows, 5, (some .int), "knows", 2, 48)
theorem yF_X7_knows : yF yX7_knows M_X7_knows 3 := ⟨w_710, w_624, by decide +kernel⟩
theorem yV_X7_knows : Cond.instanceMethod yX7_knows ∈ tbG ∧ Cond.selects yX7_knows.cls yX7_knows yX7_knows ∈ tbG := ⟨w_711, w_712⟩
theorem dX7_knows_0 : dI cX7_knows 0 1 (.aload_n 0) 1 := ⟨by decide +kernel, rfl⟩
theorem dX7_knows_1 : dI cX7_knows 1 2 (.iload_n 1) 1 := ⟨by decide +kernel, rfl⟩
theorem dX7_knows_2 : decode cX7_knows 2 = .ok (.invokevirtual 110, 3) := by decide +kernel
theorem dX7_knows_5 : decode cX7_knows 5 = .ok (.ifCond .eq 20, 3) := by decide +kernel
theorem dX7_knows_8 : dI cX7_knows 8 9 (.iload_n 2) 1 := ⟨by decide +kernel, rfl⟩
theorem dX7_knows_9 : dI cX7_knows 9 10 (.iconst 0) 1 := ⟨by decide +kernel, rfl⟩
theorem dX7_knows_10 : dI cX7_knows 10 11 (.iconst 1) 1 := ⟨by decide +kernel, rfl⟩
theorem dX7_knows_11 : decode cX7_knows 11 = .ok (.invokestatic 79, 3) := by decide +kernel
theorem dX7_knows_14 : decode cX7_knows 14 = .ok (.ifCond .eq 11, 3) := by decide +kernel
theorem dX7_knows_17 : dI cX7_knows 17 18 (.aload_n 0) 1 := ⟨by decide +kernel, rfl⟩
theorem dX7_knows_18 : dI cX7_knows 18 19 (.iload_n 3) 1 := ⟨by decide +kernel, rfl⟩
theorem dX7_knows_19 : decode cX7_knows 19 = .ok (.invokevirtual 122, 3) := by decide +kernel
theorem dX7_knows_22 : decode cX7_knows 22 = .ok (.ifCond .ne 6, 3) := by decide +kernel
theorem dX7_knows_25 : dI cX7_knows 25 27 (.ldc 87) 2 := ⟨by decide +kernel, rfl⟩
theorem dX7_knows_27 : dI cX7_knows 27 28 (.ireturn) 1 := ⟨by decide +kernel, rfl⟩
theorem dX7_knows_28 : dI cX7_knows 28 29 (.aload_n 0) 1 := ⟨by decide +kernel, rfl⟩
theorem dX7_knows_29 : dI cX7_knows 29 31 (.bipush 40) 2 := ⟨by decide +kernel, rfl⟩
theorem dX7_knows_31 : dI cX7_knows 31 32 (.iconst 2) 1 := ⟨by decide +kernel, rfl⟩
theorem dX7_knows_32 : dI cX7_knows 32 33 (.iload_n 1) 1 := ⟨by decide +kernel, rfl⟩
theorem dX7_knows_33 : dI cX7_knows 33 34 (.imul) 1 := ⟨by decide +kernel, rfl⟩
theorem dX7_knows_34 : dI cX7_knows 34 35 (.iadd) 1 := ⟨by decide +kernel, rfl⟩
theorem dX7_knows_35 : dI cX7_knows 35 36 (.iload_n 2) 1 := ⟨by decide +kernel, rfl⟩
theorem dX7_knows_36 : dI cX7_knows 36 37 (.iadd) 1 := ⟨by decide +kernel, rfl⟩
theorem dX7_knows_37 : dI cX7_knows 37 38 (.iload_n 3) 1 := ⟨by decide +kernel, rfl⟩
theorem dX7_knows_38 : decode cX7_knows 38 = .ok (.invokevirtual 103, 3) := by decide +kernel
theorem dX7_knows_41 : dI cX7_knows 41 43 (.istore 4) 2 := ⟨by decide +kernel, rfl⟩
theorem dX7_knows_43 : dI cX7_knows 43 44 (.aload_n 0) 1 := ⟨by decide +kernel, rfl⟩
theorem dX7_knows_44 : dI cX7_knows 44 45 (.iload_n 1) 1 := ⟨by decide +kernel, rfl⟩
theorem dX7_knows_45 : dI cX7_knows 45 46 (.iconst 0) 1 := ⟨by decide +kernel, rfl⟩
theorem dX7_knows_46 : decode cX7_knows 46 = .ok (.invokevirtual 125, 3) := by decide +kernel
theorem dX7_knows_49 : dI cX7_knows 49 51 (.iload 4) 2 := ⟨by decide +kernel, rfl⟩
theorem dX7_knows_51 : dI cX7_knows 51 52 (.ireturn) 1 := ⟨by decide +kernel, rfl⟩
def f_X7_knows (s : hS) (a0 : Nat) (i1 : Int32) (i2 : Int32) (i3 : Int32) : Option (Int32 × hS) :=
  (cV s a0 7 (f_X7_isPerson s a0 i1)).bind fun p1 =>
  if p1.1 = 0 then
    some ((-1000000001 : Int32), p1.2)
  else
    (f_X7_in p1.2 i2 (0 : Int32) (1 : Int32)).bind fun p2 =>
    if p2.1 = 0 then
      some ((-1000000001 : Int32), p2.2)
    else
      (cV p2.2 a0 7 (f_X7_isSet p2.2 a0 i3)).bind fun p3 =>
      if p3.1 = 0 then
        some ((-1000000001 : Int32), p3.2)
      else
        (cV p3.2 a0 7 (f_X7_becomes p3.2 a0 (((40 : Int32) + ((2 : Int32) * i1)) + i2) i3)).bind fun p4 =>
        (cV p4.2 a0 7 (f_X7_learns p4.2 a0 i1 (0 : Int32))).bind fun p5 =>
        some (p4.1, p5.2)
theorem b_X7_knows_in (E : jE)  (s : hS) (a0 : Nat) (i1 : Int32) (i2 : Int32) (i3 : Int32)  : Jo E M_X7_knows cvI 0 [(0, .ref a0), (1, .int i1), (2, .int i2), (3, .int i3)] [] s (f_X7_knows s a0 i1 i2 i3) := by
  unfold f_X7_knows
  refine Jo_aloadn 0 dX7_knows_0 rfl rfl ?_
  refine Jo_iloadn 1 dX7_knows_1 rfl rfl ?_
  refine Jo_callVi (a := a0) (rest := []) [.int i1] cc_7 yF_X7_isPerson yV_X7_isPerson w_704 rfl rfl ⟨Nat.le_of_ble_eq_true rfl, Nat.le_of_ble_eq_true rfl, Nat.le_of_ble_eq_true rfl⟩ dX7_knows_2 rfl (K_X7_isPerson E s a0 i1) (fun p1 => ?_)
  refine Jo_if_eq 25 dX7_knows_5 (by decide) rfl ?_ ?_
  · refine Jo_ldc dX7_knows_25 w_673 ?_
    exact Jo_iret rfl dX7_knows_27
  · refine Jo_iloadn 2 dX7_knows_8 rfl rfl ?_
    refine Jo_iconst (v := (0 : Int32)) dX7_knows_9 (by decide) ?_
    refine Jo_iconst (v := (1 : Int32)) dX7_knows_10 (by decide) ?_
    refine Jo_callSi (rest := []) [.int i2, .int (0 : Int32), .int (1 : Int32)] yF_X7_in yS_X7_in w_635 rfl rfl ⟨Nat.le_of_ble_eq_true rfl, Nat.le_of_ble_eq_true rfl, Nat.le_of_ble_eq_true rfl⟩ dX7_knows_11 rfl (K_X7_in E p1.2 i2 (0 : Int32) (1 : Int32)) (fun p2 => ?_)
    refine Jo_if_eq 25 dX7_knows_14 (by decide) rfl ?_ ?_
    · refine Jo_ldc dX7_knows_25 w_673 ?_
      exact Jo_iret rfl dX7_knows_27
    · refine Jo_aloadn 0 dX7_knows_17 rfl rfl ?_
      refine Jo_iloadn 3 dX7_knows_18 rfl rfl ?_
      refine Jo_callVi (a := a0) (rest := []) [.int i3] cc_7 yF_X7_isSet yV_X7_isSet w_709 rfl rfl ⟨Nat.le_of_ble_eq_true rfl, Nat.le_of_ble_eq_true rfl, Nat.le_of_ble_eq_true rfl⟩ dX7_knows_19 rfl (K_X7_isSet E p2.2 a0 i3) (fun p3 => ?_)
      refine Jo_if_ne 28 dX7_knows_22 (by decide) rfl ?_ ?_
      · refine Jo_ldc dX7_knows_25 w_673 ?_
        exact Jo_iret rfl dX7_knows_27
      · refine Jo_aloadn 0 dX7_knows_28 rfl rfl ?_
        refine Jo_bipush (v := (40 : Int32)) dX7_knows_29 (by decide) ?_
        refine Jo_iconst (v := (2 : Int32)) dX7_knows_31 (by decide) ?_
        refine Jo_iloadn 1 dX7_knows_32 rfl rfl ?_
        refine Jo_imul dX7_knows_33 ?_
        refine Jo_iadd dX7_knows_34 ?_
        refine Jo_iloadn 2 dX7_knows_35 rfl rfl ?_
        refine Jo_iadd dX7_knows_36 ?_
        refine Jo_iloadn 3 dX7_knows_37 rfl rfl ?_
        refine Jo_callVi (a := a0) (rest := []) [.int (((40 : Int32) + ((2 : Int32) * i1)) + i2), .int i3] cc_7 yF_X7_becomes yV_X7_becomes w_687 rfl rfl ⟨Nat.le_of_ble_eq_true rfl, Nat.le_of_ble_eq_true rfl, Nat.le_of_ble_eq_true rfl⟩ dX7_knows_38 rfl (K_X7_becomes E p3.2 a0 (((40 : Int32) + ((2 : Int32) * i1)) + i2) i3) (fun p4 => ?_)
        refine Jo_istore (ls' := [(4, .int p4.1), (0, .ref a0), (1, .int i1), (2, .int i2), (3, .int i3)]) dX7_knows_41 (by decide) rfl ?_
        refine Jo_aloadn 1 dX7_knows_43 rfl rfl ?_
        refine Jo_iloadn 2 dX7_knows_44 rfl rfl ?_
        refine Jo_iconst (v := (0 : Int32)) dX7_knows_45 (by decide) ?_
        refine Jo_callVv (a := a0) (rest := []) [.int i1, .int (0 : Int32)] cc_7 yF_X7_learns yV_X7_learns w_708 rfl rfl ⟨Nat.le_of_ble_eq_true rfl, Nat.le_of_ble_eq_true rfl, Nat.le_of_ble_eq_true rfl⟩ dX7_knows_46 rfl (K_X7_learns E p4.2 a0 i1 (0 : Int32)) (fun p5 => ?_)
        refine Jo_iload 0 dX7_knows_49 rfl ?_
        exact Jo_iret rfl dX7_knows_51
theorem K_X7_knows (E : jE) (s : hS) (a0 : Nat) (i1 : Int32) (i2 : Int32) (i3 : Int32) : jK E yX7_knows M_X7_knows cvI [.ref a0, .int i1, .int i2, .int i3] s (f_X7_knows s a0 i1 i2 i3) := jK_of ⟨by decide, rfl, rfl⟩ (Nat.le_of_ble_eq_true rfl) (b_X7_knows_in E s a0 i1 i2 i3)
/-! HeronTalkModel.follows(III)I -/
abbrev M_X7_follows : jM := (RX7, cX7_follows, 6, (some .int), "follows", 2, 48)
theorem yF_X7_follows : yF yX7_follows M_X7_follows 3 := ⟨w_713, w_624, by decide +kernel⟩
theorem yV_X7_follows : Cond.instanceMethod yX7_follows ∈ tbG ∧ Cond.selects yX7_follows.cls yX7_follows yX7_follows ∈ tbG := ⟨w_714, w_715⟩
theorem dX7_follows_0 : dI cX7_follows 0 1 (.aload_n 0) 1 := ⟨by decide +kernel, rfl⟩
theorem dX7_follows_1 : dI cX7_follows 1 2 (.iload_n 1) 1 := ⟨by decide +kernel, rfl⟩
theorem dX7_follows_2 : decode cX7_follows 2 = .ok (.invokevirtual 93, 3) := by decide +kernel
theorem dX7_follows_5 : decode cX7_follows 5 = .ok (.ifCond .eq 19, 3) := by decide +kernel
theorem dX7_follows_8 : dI cX7_follows 8 9 (.aload_n 0) 1 := ⟨by decide +kernel, rfl⟩
theorem dX7_follows_9 : dI cX7_follows 9 10 (.iload_n 2) 1 := ⟨by decide +kernel, rfl⟩
theorem dX7_follows_10 : decode cX7_follows 10 = .ok (.invokevirtual 93, 3) := by decide +kernel
theorem dX7_follows_13 : decode cX7_follows 13 = .ok (.ifCond .eq 11, 3) := by decide +kernel
theorem dX7_follows_16 : dI cX7_follows 16 17 (.aload_n 0) 1 := ⟨by decide +kernel, rfl⟩
theorem dX7_follows_17 : dI cX7_follows 17 18 (.iload_n 3) 1 := ⟨by decide +kernel, rfl⟩
theorem dX7_follows_18 : decode cX7_follows 18 = .ok (.invokevirtual 93, 3) := by decide +kernel
theorem dX7_follows_21 : decode cX7_follows 21 = .ok (.ifCond .ne 6, 3) := by decide +kernel
theorem dX7_follows_24 : dI cX7_follows 24 26 (.ldc 87) 2 := ⟨by decide +kernel, rfl⟩
theorem dX7_follows_26 : dI cX7_follows 26 27 (.ireturn) 1 := ⟨by decide +kernel, rfl⟩
theorem dX7_follows_27 : dI cX7_follows 27 28 (.aload_n 0) 1 := ⟨by decide +kernel, rfl⟩
theorem dX7_follows_28 : dI cX7_follows 28 31 (.getfield 9) 3 := ⟨by decide +kernel, rfl⟩
theorem dX7_follows_31 : dI cX7_follows 31 32 (.iconst 4) 1 := ⟨by decide +kernel, rfl⟩
theorem dX7_follows_32 : dI cX7_follows 32 33 (.iaload) 1 := ⟨by decide +kernel, rfl⟩
theorem dX7_follows_33 : dI cX7_follows 33 35 (.bipush 8) 2 := ⟨by decide +kernel, rfl⟩
theorem dX7_follows_35 : decode cX7_follows 35 = .ok (.if_icmp .ne 6, 3) := by decide +kernel
theorem dX7_follows_38 : dI cX7_follows 38 40 (.ldc 88) 2 := ⟨by decide +kernel, rfl⟩
theorem dX7_follows_40 : dI cX7_follows 40 41 (.ireturn) 1 := ⟨by decide +kernel, rfl⟩
theorem dX7_follows_41 : dI cX7_follows 41 43 (.bipush 56) 2 := ⟨by decide +kernel, rfl⟩
theorem dX7_follows_43 : dI cX7_follows 43 44 (.iconst 3) 1 := ⟨by decide +kernel, rfl⟩
theorem dX7_follows_44 : dI cX7_follows 44 45 (.aload_n 0) 1 := ⟨by decide +kernel, rfl⟩
theorem dX7_follows_45 : dI cX7_follows 45 48 (.getfield 9) 3 := ⟨by decide +kernel, rfl⟩
theorem dX7_follows_48 : dI cX7_follows 48 49 (.iconst 4) 1 := ⟨by decide +kernel, rfl⟩
theorem dX7_follows_49 : dI cX7_follows 49 50 (.iaload) 1 := ⟨by decide +kernel, rfl⟩
theorem dX7_follows_50 : dI cX7_follows 50 51 (.imul) 1 := ⟨by decide +kernel, rfl⟩
theorem dX7_follows_51 : dI cX7_follows 51 52 (.iadd) 1 := ⟨by decide +kernel, rfl⟩
theorem dX7_follows_52 : dI cX7_follows 52 54 (.istore 4) 2 := ⟨by decide +kernel, rfl⟩
theorem dX7_follows_54 : dI cX7_follows 54 55 (.aload_n 0) 1 := ⟨by decide +kernel, rfl⟩
theorem dX7_follows_55 : dI cX7_follows 55 58 (.getfield 9) 3 := ⟨by decide +kernel, rfl⟩
theorem dX7_follows_58 : dI cX7_follows 58 60 (.iload 4) 2 := ⟨by decide +kernel, rfl⟩
theorem dX7_follows_60 : dI cX7_follows 60 61 (.iload_n 1) 1 := ⟨by decide +kernel, rfl⟩
theorem dX7_follows_61 : dI cX7_follows 61 62 (.iastore) 1 := ⟨by decide +kernel, rfl⟩
theorem dX7_follows_62 : dI cX7_follows 62 63 (.aload_n 0) 1 := ⟨by decide +kernel, rfl⟩
theorem dX7_follows_63 : dI cX7_follows 63 66 (.getfield 9) 3 := ⟨by decide +kernel, rfl⟩
theorem dX7_follows_66 : dI cX7_follows 66 68 (.iload 4) 2 := ⟨by decide +kernel, rfl⟩
theorem dX7_follows_68 : dI cX7_follows 68 69 (.iconst 1) 1 := ⟨by decide +kernel, rfl⟩
theorem dX7_follows_69 : dI cX7_follows 69 70 (.iadd) 1 := ⟨by decide +kernel, rfl⟩
theorem dX7_follows_70 : dI cX7_follows 70 71 (.iload_n 2) 1 := ⟨by decide +kernel, rfl⟩
theorem dX7_follows_71 : dI cX7_follows 71 72 (.iastore) 1 := ⟨by decide +kernel, rfl⟩
theorem dX7_follows_72 : dI cX7_follows 72 73 (.aload_n 0) 1 := ⟨by decide +kernel, rfl⟩
theorem dX7_follows_73 : dI cX7_follows 73 76 (.getfield 9) 3 := ⟨by decide +kernel, rfl⟩
theorem dX7_follows_76 : dI cX7_follows 76 78 (.iload 4) 2 := ⟨by decide +kernel, rfl⟩
theorem dX7_follows_78 : dI cX7_follows 78 79 (.iconst 2) 1 := ⟨by decide +kernel, rfl⟩
theorem dX7_follows_79 : dI cX7_follows 79 80 (.iadd) 1 := ⟨by decide +kernel, rfl⟩
theorem dX7_follows_80 : dI cX7_follows 80 81 (.iload_n 3) 1 := ⟨by decide +kernel, rfl⟩
theorem dX7_follows_81 : dI cX7_follows 81 82 (.iastore) 1 := ⟨by decide +kernel, rfl⟩
theorem dX7_follows_82 : dI cX7_follows 82 83 (.aload_n 0) 1 := ⟨by decide +kernel, rfl⟩
theorem dX7_follows_83 : dI cX7_follows 83 86 (.getfield 9) 3 := ⟨by decide +kernel, rfl⟩
theorem dX7_follows_86 : dI cX7_follows 86 87 (.iconst 4) 1 := ⟨by decide +kernel, rfl⟩
theorem dX7_follows_87 : dI cX7_follows 87 88 (.dup2) 1 := ⟨by decide +kernel, rfl⟩
theorem dX7_follows_88 : dI cX7_follows 88 89 (.iaload) 1 := ⟨by decide +kernel, rfl⟩
theorem dX7_follows_89 : dI cX7_follows 89 90 (.iconst 1) 1 := ⟨by decide +kernel, rfl⟩
theorem dX7_follows_90 : dI cX7_follows 90 91 (.iadd) 1 := ⟨by decide +kernel, rfl⟩
theorem dX7_follows_91 : dI cX7_follows 91 92 (.iastore) 1 := ⟨by decide +kernel, rfl⟩
theorem dX7_follows_92 : dI cX7_follows 92 93 (.iconst 0) 1 := ⟨by decide +kernel, rfl⟩
theorem dX7_follows_93 : dI cX7_follows 93 95 (.istore 5) 2 := ⟨by decide +kernel, rfl⟩
theorem dX7_follows_95 : dI cX7_follows 95 97 (.iload 5) 2 := ⟨by decide +kernel, rfl⟩
theorem dX7_follows_97 : dI cX7_follows 97 98 (.aload_n 0) 1 := ⟨by decide +kernel, rfl⟩
theorem dX7_follows_98 : dI cX7_follows 98 101 (.getfield 9) 3 := ⟨by decide +kernel, rfl⟩
theorem dX7_follows_101 : dI cX7_follows 101 102 (.iconst 2) 1 := ⟨by decide +kernel, rfl⟩
theorem dX7_follows_102 : dI cX7_follows 102 103 (.iaload) 1 := ⟨by decide +kernel, rfl⟩
theorem dX7_follows_103 : decode cX7_follows 103 = .ok (.if_icmp .ge 16, 3) := by decide +kernel
theorem dX7_follows_106 : dI cX7_follows 106 107 (.aload_n 0) 1 := ⟨by decide +kernel, rfl⟩
theorem dX7_follows_107 : dI cX7_follows 107 109 (.iload 5) 2 := ⟨by decide +kernel, rfl⟩
theorem dX7_follows_109 : dI cX7_follows 109 110 (.iconst 0) 1 := ⟨by decide +kernel, rfl⟩
theorem dX7_follows_110 : decode cX7_follows 110 = .ok (.invokevirtual 125, 3) := by decide +kernel
theorem dX7_follows_113 : dI cX7_follows 113 116 (.iinc 5 1) 3 := ⟨by decide +kernel, rfl⟩
theorem dX7_follows_116 : decode cX7_follows 116 = .ok (.goto (-21), 3) := by decide +kernel
theorem dX7_follows_119 : dI cX7_follows 119 120 (.aload_n 0) 1 := ⟨by decide +kernel, rfl⟩
theorem dX7_follows_120 : dI cX7_follows 120 123 (.getfield 9) 3 := ⟨by decide +kernel, rfl⟩
theorem dX7_follows_123 : dI cX7_follows 123 124 (.iconst 4) 1 := ⟨by decide +kernel, rfl⟩
theorem dX7_follows_124 : dI cX7_follows 124 125 (.iaload) 1 := ⟨by decide +kernel, rfl⟩
theorem dX7_follows_125 : dI cX7_follows 125 126 (.ireturn) 1 := ⟨by decide +kernel, rfl⟩
def f_X7_follows_b95 (k95 : Nat → Int32 → hS → Option (Int32 × hS)) (l0 : Nat) (l5 : Int32) (s : hS) : Option (Int32 × hS) :=
  (gR s l0 7 0).bind fun a1 =>
  (aI s a1 10 (2 : Int32)).bind fun x2 =>
  if x2 ≤ l5 then
    (gR s l0 7 0).bind fun a3 =>
    (aI s a3 10 (4 : Int32)).bind fun x4 =>
    some (x4, s)
  else
    (cV s l0 7 (f_X7_learns s l0 l5 (0 : Int32))).bind fun p5 =>
    k95 l0 (l5 + (1 : Int32)) p5.2
theorem b_X7_follows_95 (E : jE) (k95 : Nat → Int32 → hS → Option (Int32 × hS)) (h95 : ∀ (s : hS) (l0 : Nat) (l5 : Int32) , Jo E M_X7_follows cvI 95 [(0, .ref l0), (5, .int l5)] [] s (k95 l0 l5 s)) (s : hS) (l0 : Nat) (l5 : Int32)  : Jo E M_X7_follows cvI 95 [(0, .ref l0), (5, .int l5)] [] s (f_X7_follows_b95 k95 l0 l5 s) := by
  unfold f_X7_follows_b95
  refine Jo_iload 1 dX7_follows_95 rfl ?_
  refine Jo_aloadn 0 dX7_follows_97 rfl rfl ?_
  refine Jo_getR fF_7_0 fR_7_0 dX7_follows_98 w_598 (fun a1 => ?_)
  refine Jo_iconst (v := (2 : Int32)) dX7_follows_101 (by decide) ?_
  refine Jo_iaload dX7_follows_102 (fun x2 => ?_)
  refine Jo_icmp_ge 119 dX7_follows_103 (by decide) rfl ?_ ?_
  · refine Jo_aloadn 0 dX7_follows_119 rfl rfl ?_
    refine Jo_getR fF_7_0 fR_7_0 dX7_follows_120 w_598 (fun a3 => ?_)
    refine Jo_iconst (v := (4 : Int32)) dX7_follows_123 (by decide) ?_
    refine Jo_iaload dX7_follows_124 (fun x4 => ?_)
    exact Jo_iret rfl dX7_follows_125
  · refine Jo_aloadn 0 dX7_follows_106 rfl rfl ?_
    refine Jo_iload 1 dX7_follows_107 rfl ?_
    refine Jo_iconst (v := (0 : Int32)) dX7_follows_109 (by decide) ?_
    refine Jo_callVv (a := l0) (rest := []) [.int l5, .int (0 : Int32)] cc_7 yF_X7_learns yV_X7_learns w_708 rfl rfl ⟨Nat.le_of_ble_eq_true rfl, Nat.le_of_ble_eq_true rfl, Nat.le_of_ble_eq_true rfl⟩ dX7_follows_110 rfl (K_X7_learns E s l0 l5 (0 : Int32)) (fun p5 => ?_)
    refine Jo_iinc (v := (l5 + (1 : Int32))) (ls' := [(5, .int (l5 + (1 : Int32))), (0, .ref l0)]) 1 dX7_follows_113 rfl rfl (by decide) rfl ?_
    refine Jo_goto 95 dX7_follows_116 (by decide) ?_
    refine Jo_sub [1, 0] rfl ?_
    exact h95 p5.2 l0 (l5 + (1 : Int32))
theorem e_X7_follows_95 (E : jE)  (n : Nat) : ∀ (s : hS) (l0 : Nat) (l5 : Int32) , Jo E M_X7_follows cvI 95 [(0, .ref l0), (5, .int l5)] [] s ((jL f_X7_follows_b95 (fun _ _ _ => none) n) l0 l5 s) :=
  jL_ind (P := fun f => ∀ (s : hS) (l0 : Nat) (l5 : Int32) , Jo E M_X7_follows cvI 95 [(0, .ref l0), (5, .int l5)] [] s (f l0 l5 s)) (fun _ _ _ => Jo_none) (fun b hb s l0 l5 => b_X7_follows_95 E  b hb s l0 l5) n
def f_X7_follows (s : hS) (a0 : Nat) (i1 : Int32) (i2 : Int32) (i3 : Int32) : Option (Int32 × hS) :=
  (cV s a0 7 (f_X7_isFact s a0 i1)).bind fun p1 =>
  if p1.1 = 0 then
    some ((-1000000001 : Int32), p1.2)
  else
    (cV p1.2 a0 7 (f_X7_isFact p1.2 a0 i2)).bind fun p2 =>
    if p2.1 = 0 then
      some ((-1000000001 : Int32), p2.2)
    else
      (cV p2.2 a0 7 (f_X7_isFact p2.2 a0 i3)).bind fun p3 =>
      if p3.1 = 0 then
        some ((-1000000001 : Int32), p3.2)
      else
        (gR p3.2 a0 7 0).bind fun a4 =>
        (aI p3.2 a4 10 (4 : Int32)).bind fun x5 =>
        if x5 = (8 : Int32) then
          some ((-1000000003 : Int32), p3.2)
        else
          (gR p3.2 a0 7 0).bind fun a6 =>
          (aI p3.2 a6 10 (4 : Int32)).bind fun x7 =>
          nmv (((56 : Int32) + ((3 : Int32) * x7))) fun x8 =>
          (gR p3.2 a0 7 0).bind fun a9 =>
          (sI p3.2 a9 10 x8 i1).bind fun s10 =>
          (gR s10 a0 7 0).bind fun a11 =>
          (sI s10 a11 10 (x8 + (1 : Int32)) i2).bind fun s12 =>
          (gR s12 a0 7 0).bind fun a13 =>
          (sI s12 a13 10 (x8 + (2 : Int32)) i3).bind fun s14 =>
          (gR s14 a0 7 0).bind fun a15 =>
          (aI s14 a15 10 (4 : Int32)).bind fun x16 =>
          (sI s14 a15 10 (4 : Int32) (x16 + (1 : Int32))).bind fun s17 =>
          jL f_X7_follows_b95 (fun _ _ _ => none) jF a0 (0 : Int32) s17
theorem b_X7_follows_in (E : jE)  (s : hS) (a0 : Nat) (i1 : Int32) (i2 : Int32) (i3 : Int32)  : Jo E M_X7_follows cvI 0 [(0, .ref a0), (1, .int i1), (2, .int i2), (3, .int i3)] [] s (f_X7_follows s a0 i1 i2 i3) := by
  unfold f_X7_follows
  refine Jo_aloadn 0 dX7_follows_0 rfl rfl ?_
  refine Jo_iloadn 1 dX7_follows_1 rfl rfl ?_
  refine Jo_callVi (a := a0) (rest := []) [.int i1] cc_7 yF_X7_isFact yV_X7_isFact w_683 rfl rfl ⟨Nat.le_of_ble_eq_true rfl, Nat.le_of_ble_eq_true rfl, Nat.le_of_ble_eq_true rfl⟩ dX7_follows_2 rfl (K_X7_isFact E s a0 i1) (fun p1 => ?_)
  refine Jo_if_eq 24 dX7_follows_5 (by decide) rfl ?_ ?_
  · refine Jo_ldc dX7_follows_24 w_673 ?_
    exact Jo_iret rfl dX7_follows_26
  · refine Jo_aloadn 0 dX7_follows_8 rfl rfl ?_
    refine Jo_iloadn 2 dX7_follows_9 rfl rfl ?_
    refine Jo_callVi (a := a0) (rest := []) [.int i2] cc_7 yF_X7_isFact yV_X7_isFact w_683 rfl rfl ⟨Nat.le_of_ble_eq_true rfl, Nat.le_of_ble_eq_true rfl, Nat.le_of_ble_eq_true rfl⟩ dX7_follows_10 rfl (K_X7_isFact E p1.2 a0 i2) (fun p2 => ?_)
    refine Jo_if_eq 24 dX7_follows_13 (by decide) rfl ?_ ?_
    · refine Jo_ldc dX7_follows_24 w_673 ?_
      exact Jo_iret rfl dX7_follows_26
    · refine Jo_aloadn 0 dX7_follows_16 rfl rfl ?_
      refine Jo_iloadn 3 dX7_follows_17 rfl rfl ?_
      refine Jo_callVi (a := a0) (rest := []) [.int i3] cc_7 yF_X7_isFact yV_X7_isFact w_683 rfl rfl ⟨Nat.le_of_ble_eq_true rfl, Nat.le_of_ble_eq_true rfl, Nat.le_of_ble_eq_true rfl⟩ dX7_follows_18 rfl (K_X7_isFact E p2.2 a0 i3) (fun p3 => ?_)
      refine Jo_if_ne 27 dX7_follows_21 (by decide) rfl ?_ ?_
      · refine Jo_ldc dX7_follows_24 w_673 ?_
        exact Jo_iret rfl dX7_follows_26
      · refine Jo_aloadn 0 dX7_follows_27 rfl rfl ?_
        refine Jo_getR fF_7_0 fR_7_0 dX7_follows_28 w_598 (fun a4 => ?_)
        refine Jo_iconst (v := (4 : Int32)) dX7_follows_31 (by decide) ?_
        refine Jo_iaload dX7_follows_32 (fun x5 => ?_)
        refine Jo_bipush (v := (8 : Int32)) dX7_follows_33 (by decide) ?_
        refine Jo_icmp_ne 41 dX7_follows_35 (by decide) rfl ?_ ?_
        · refine Jo_ldc dX7_follows_38 w_672 ?_
          exact Jo_iret rfl dX7_follows_40
        · refine Jo_bipush (v := (56 : Int32)) dX7_follows_41 (by decide) ?_
          refine Jo_iconst (v := (3 : Int32)) dX7_follows_43 (by decide) ?_
          refine Jo_aloadn 0 dX7_follows_44 rfl rfl ?_
          refine Jo_getR fF_7_0 fR_7_0 dX7_follows_45 w_598 (fun a6 => ?_)
          refine Jo_iconst (v := (4 : Int32)) dX7_follows_48 (by decide) ?_
          refine Jo_iaload dX7_follows_49 (fun x7 => ?_)
          refine Jo_imul dX7_follows_50 ?_
          refine Jo_iadd dX7_follows_51 ?_
          refine Jo_nm (fun x8 => ?_)
          refine Jo_istore (ls' := [(4, .int x8), (0, .ref a0), (1, .int i1), (2, .int i2), (3, .int i3)]) dX7_follows_52 (by decide) rfl ?_
          refine Jo_aloadn 1 dX7_follows_54 rfl rfl ?_
          refine Jo_getR fF_7_0 fR_7_0 dX7_follows_55 w_598 (fun a9 => ?_)
          refine Jo_iload 0 dX7_follows_58 rfl ?_
          refine Jo_iloadn 2 dX7_follows_60 rfl rfl ?_
          refine Jo_iastore dX7_follows_61 (fun s10 => ?_)
          refine Jo_aloadn 1 dX7_follows_62 rfl rfl ?_
          refine Jo_getR fF_7_0 fR_7_0 dX7_follows_63 w_598 (fun a11 => ?_)
          refine Jo_iload 0 dX7_follows_66 rfl ?_
          refine Jo_iconst (v := (1 : Int32)) dX7_follows_68 (by decide) ?_
          refine Jo_iadd dX7_follows_69 ?_
          refine Jo_iloadn 3 dX7_follows_70 rfl rfl ?_
          refine Jo_iastore dX7_follows_71 (fun s12 => ?_)
          refine Jo_aloadn 1 dX7_follows_72 rfl rfl ?_
          refine Jo_getR fF_7_0 fR_7_0 dX7_follows_73 w_598 (fun a13 => ?_)
          refine Jo_iload 0 dX7_follows_76 rfl ?_
          refine Jo_iconst (v := (2 : Int32)) dX7_follows_78 (by decide) ?_
          refine Jo_iadd dX7_follows_79 ?_
          refine Jo_iloadn 4 dX7_follows_80 rfl rfl ?_
          refine Jo_iastore dX7_follows_81 (fun s14 => ?_)
          refine Jo_aloadn 1 dX7_follows_82 rfl rfl ?_
          refine Jo_getR fF_7_0 fR_7_0 dX7_follows_83 w_598 (fun a15 => ?_)
          refine Jo_iconst (v := (4 : Int32)) dX7_follows_86 (by decide) ?_
          refine Jo_dup2 dX7_follows_87 rfl rfl ?_
          refine Jo_iaload dX7_follows_88 (fun x16 => ?_)
          refine Jo_iconst (v := (1 : Int32)) dX7_follows_89 (by decide) ?_
          refine Jo_iadd dX7_follows_90 ?_
          refine Jo_iastore dX7_follows_91 (fun s17 => ?_)
          refine Jo_iconst (v := (0 : Int32)) dX7_follows_92 (by decide) ?_
          refine Jo_istore (ls' := [(5, .int (0 : Int32)), (4, .int x8), (0, .ref a0), (1, .int i1), (2, .int i2), (3, .int i3)]) dX7_follows_93 (by decide) rfl ?_
          refine Jo_sub [2, 0] rfl ?_
          exact e_X7_follows_95 E jF s17 a0 (0 : Int32)
theorem K_X7_follows (E : jE) (s : hS) (a0 : Nat) (i1 : Int32) (i2 : Int32) (i3 : Int32) : jK E yX7_follows M_X7_follows cvI [.ref a0, .int i1, .int i2, .int i3] s (f_X7_follows s a0 i1 i2 i3) := jK_of ⟨by decide, rfl, rfl⟩ (Nat.le_of_ble_eq_true rfl) (b_X7_follows_in E s a0 i1 i2 i3)
/-! HeronTalkModel.counts(I)I -/
abbrev M_X7_counts : jM := (RX7, cX7_counts, 3, (some .int), "counts", 0, 0)
theorem yF_X7_counts : yF yX7_counts M_X7_counts 1 := ⟨w_716, w_624, by decide +kernel⟩
theorem yV_X7_counts : Cond.instanceMethod yX7_counts ∈ tbG ∧ Cond.selects yX7_counts.cls yX7_counts yX7_counts ∈ tbG := ⟨w_717, w_718⟩
theorem dX7_counts_0 : dI cX7_counts 0 1 (.aload_n 0) 1 := ⟨by decide +kernel, rfl⟩
theorem dX7_counts_1 : dI cX7_counts 1 4 (.getfield 9) 3 := ⟨by decide +kernel, rfl⟩
theorem dX7_counts_4 : dI cX7_counts 4 6 (.bipush 7) 2 := ⟨by decide +kernel, rfl⟩
theorem dX7_counts_6 : dI cX7_counts 6 7 (.iaload) 1 := ⟨by decide +kernel, rfl⟩
theorem dX7_counts_7 : dI cX7_counts 7 8 (.iconst 1) 1 := ⟨by decide +kernel, rfl⟩
theorem dX7_counts_8 : dI cX7_counts 8 9 (.isub) 1 := ⟨by decide +kernel, rfl⟩
theorem dX7_counts_9 : dI cX7_counts 9 10 (.istore_n 2) 1 := ⟨by decide +kernel, rfl⟩
theorem dX7_counts_10 : dI cX7_counts 10 11 (.iload_n 2) 1 := ⟨by decide +kernel, rfl⟩
theorem dX7_counts_11 : decode cX7_counts 11 = .ok (.ifCond .lt 30, 3) := by decide +kernel
theorem dX7_counts_14 : dI cX7_counts 14 15 (.aload_n 0) 1 := ⟨by decide +kernel, rfl⟩
theorem dX7_counts_15 : dI cX7_counts 15 18 (.getfield 9) 3 := ⟨by decide +kernel, rfl⟩
theorem dX7_counts_18 : dI cX7_counts 18 20 (.bipush 104) 2 := ⟨by decide +kernel, rfl⟩
theorem dX7_counts_20 : dI cX7_counts 20 21 (.iconst 2) 1 := ⟨by decide +kernel, rfl⟩
theorem dX7_counts_21 : dI cX7_counts 21 22 (.iload_n 2) 1 := ⟨by decide +kernel, rfl⟩
theorem dX7_counts_22 : dI cX7_counts 22 23 (.imul) 1 := ⟨by decide +kernel, rfl⟩
theorem dX7_counts_23 : dI cX7_counts 23 24 (.iadd) 1 := ⟨by decide +kernel, rfl⟩
theorem dX7_counts_24 : dI cX7_counts 24 25 (.iaload) 1 := ⟨by decide +kernel, rfl⟩
theorem dX7_counts_25 : dI cX7_counts 25 28 (.sipush 1000) 3 := ⟨by decide +kernel, rfl⟩
theorem dX7_counts_28 : dI cX7_counts 28 29 (.idiv) 1 := ⟨by decide +kernel, rfl⟩
theorem dX7_counts_29 : dI cX7_counts 29 30 (.iload_n 1) 1 := ⟨by decide +kernel, rfl⟩
theorem dX7_counts_30 : decode cX7_counts 30 = .ok (.if_icmp .ne 5, 3) := by decide +kernel
theorem dX7_counts_33 : dI cX7_counts 33 34 (.iload_n 2) 1 := ⟨by decide +kernel, rfl⟩
theorem dX7_counts_34 : dI cX7_counts 34 35 (.ireturn) 1 := ⟨by decide +kernel, rfl⟩
theorem dX7_counts_35 : dI cX7_counts 35 38 (.iinc 2 (-1)) 3 := ⟨by decide +kernel, rfl⟩
theorem dX7_counts_38 : decode cX7_counts 38 = .ok (.goto (-28), 3) := by decide +kernel
theorem dX7_counts_41 : dI cX7_counts 41 42 (.iconst (-1)) 1 := ⟨by decide +kernel, rfl⟩
theorem dX7_counts_42 : dI cX7_counts 42 43 (.ireturn) 1 := ⟨by decide +kernel, rfl⟩
def f_X7_counts_b10 (k10 : Nat → Int32 → Int32 → hS → Option (Int32 × hS)) (l0 : Nat) (l1 : Int32) (l2 : Int32) (s : hS) : Option (Int32 × hS) :=
  if l2 < 0 then
    some ((-1 : Int32), s)
  else
    (gR s l0 7 0).bind fun a1 =>
    (aI s a1 10 ((104 : Int32) + ((2 : Int32) * l2))).bind fun x2 =>
    if (1000 : Int32) = 0 then none else
    if (x2 / (1000 : Int32)) = l1 then
      some (l2, s)
    else
      k10 l0 l1 (l2 + (-1 : Int32)) s
theorem b_X7_counts_10 (E : jE) (k10 : Nat → Int32 → Int32 → hS → Option (Int32 × hS)) (h10 : ∀ (s : hS) (l0 : Nat) (l1 : Int32) (l2 : Int32) , Jo E M_X7_counts cvI 10 [(0, .ref l0), (1, .int l1), (2, .int l2)] [] s (k10 l0 l1 l2 s)) (s : hS) (l0 : Nat) (l1 : Int32) (l2 : Int32)  : Jo E M_X7_counts cvI 10 [(0, .ref l0), (1, .int l1), (2, .int l2)] [] s (f_X7_counts_b10 k10 l0 l1 l2 s) := by
  unfold f_X7_counts_b10
  refine Jo_iloadn 2 dX7_counts_10 rfl rfl ?_
  refine Jo_if_lt 41 dX7_counts_11 (by decide) rfl ?_ ?_
  · refine Jo_iconst (v := (-1 : Int32)) dX7_counts_41 (by decide) ?_
    exact Jo_iret rfl dX7_counts_42
  · refine Jo_aloadn 0 dX7_counts_14 rfl rfl ?_
    refine Jo_getR fF_7_0 fR_7_0 dX7_counts_15 w_598 (fun a1 => ?_)
    refine Jo_bipush (v := (104 : Int32)) dX7_counts_18 (by decide) ?_
    refine Jo_iconst (v := (2 : Int32)) dX7_counts_20 (by decide) ?_
    refine Jo_iloadn 2 dX7_counts_21 rfl rfl ?_
    refine Jo_imul dX7_counts_22 ?_
    refine Jo_iadd dX7_counts_23 ?_
    refine Jo_iaload dX7_counts_24 (fun x2 => ?_)
    refine Jo_sipush (v := (1000 : Int32)) dX7_counts_25 (by decide) ?_
    refine Jo_idiv dX7_counts_28 ?_
    refine Jo_iloadn 1 dX7_counts_29 rfl rfl ?_
    refine Jo_icmp_ne 35 dX7_counts_30 (by decide) rfl ?_ ?_
    · refine Jo_iloadn 2 dX7_counts_33 rfl rfl ?_
      exact Jo_iret rfl dX7_counts_34
    · refine Jo_iinc (v := (l2 + (-1 : Int32))) (ls' := [(2, .int (l2 + (-1 : Int32))), (0, .ref l0), (1, .int l1)]) 2 dX7_counts_35 rfl rfl (by decide) rfl ?_
      refine Jo_goto 10 dX7_counts_38 (by decide) ?_
      refine Jo_sub [1, 2, 0] rfl ?_
      exact h10 s l0 l1 (l2 + (-1 : Int32))
theorem e_X7_counts_10 (E : jE)  (n : Nat) : ∀ (s : hS) (l0 : Nat) (l1 : Int32) (l2 : Int32) , Jo E M_X7_counts cvI 10 [(0, .ref l0), (1, .int l1), (2, .int l2)] [] s ((jL f_X7_counts_b10 (fun _ _ _ _ => none) n) l0 l1 l2 s) :=
  jL_ind (P := fun f => ∀ (s : hS) (l0 : Nat) (l1 : Int32) (l2 : Int32) , Jo E M_X7_counts cvI 10 [(0, .ref l0), (1, .int l1), (2, .int l2)] [] s (f l0 l1 l2 s)) (fun _ _ _ _ => Jo_none) (fun b hb s l0 l1 l2 => b_X7_counts_10 E  b hb s l0 l1 l2) n
def f_X7_counts (s : hS) (a0 : Nat) (i1 : Int32) : Option (Int32 × hS) :=
  (gR s a0 7 0).bind fun a1 =>
  (aI s a1 10 (7 : Int32)).bind fun x2 =>
  nmv ((x2 - (1 : Int32))) fun x3 =>
  jL f_X7_counts_b10 (fun _ _ _ _ => none) jF a0 i1 x3 s
theorem b_X7_counts_in (E : jE)  (s : hS) (a0 : Nat) (i1 : Int32)  : Jo E M_X7_counts cvI 0 [(0, .ref a0), (1, .int i1)] [] s (f_X7_counts s a0 i1) := by
  unfold f_X7_counts
  refine Jo_aloadn 0 dX7_counts_0 rfl rfl ?_
  refine Jo_getR fF_7_0 fR_7_0 dX7_counts_1 w_598 (fun a1 => ?_)
  refine Jo_bipush (v := (7 : Int32)) dX7_counts_4 (by decide) ?_
  refine Jo_iaload dX7_counts_6 (fun x2 => ?_)
  refine Jo_iconst (v := (1 : Int32)) dX7_counts_7 (by decide) ?_
  refine Jo_isub dX7_counts_8 ?_
  refine Jo_nm (fun x3 => ?_)
  refine Jo_istoren (ls' := [(2, .int x3), (0, .ref a0), (1, .int i1)]) dX7_counts_9 rfl (by decide) rfl ?_
  refine Jo_sub [1, 2, 0] rfl ?_
  exact e_X7_counts_10 E jF s a0 i1 x3
theorem K_X7_counts (E : jE) (s : hS) (a0 : Nat) (i1 : Int32) : jK E yX7_counts M_X7_counts cvI [.ref a0, .int i1] s (f_X7_counts s a0 i1) := jK_of ⟨by decide, rfl, rfl⟩ (Nat.le_of_ble_eq_true rfl) (b_X7_counts_in E s a0 i1)
