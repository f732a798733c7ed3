/-! HeronTalk$Town.richesOf(I)I -/
abbrev M_X5_richesOf : jM := (RX5, cX5_richesOf, 4, (some .int), "richesOf", 1, 22)
theorem yF_X5_richesOf : yF yX5_richesOf M_X5_richesOf 1 := ⟨w_254, w_198, by decide +kernel⟩
theorem yV_X5_richesOf : Cond.instanceMethod yX5_richesOf ∈ tbG ∧ Cond.selects yX5_richesOf.cls yX5_richesOf yX5_richesOf ∈ tbG := ⟨w_255, w_256⟩
theorem dX5_richesOf_0 : dI cX5_richesOf 0 1 (.iconst 0) 1 := ⟨by decide +kernel, rfl⟩
theorem dX5_richesOf_1 : dI cX5_richesOf 1 2 (.istore_n 2) 1 := ⟨by decide +kernel, rfl⟩
theorem dX5_richesOf_2 : dI cX5_richesOf 2 3 (.iconst 0) 1 := ⟨by decide +kernel, rfl⟩
theorem dX5_richesOf_3 : dI cX5_richesOf 3 4 (.istore_n 3) 1 := ⟨by decide +kernel, rfl⟩
theorem dX5_richesOf_4 : dI cX5_richesOf 4 5 (.iload_n 3) 1 := ⟨by decide +kernel, rfl⟩
theorem dX5_richesOf_5 : dI cX5_richesOf 5 6 (.aload_n 0) 1 := ⟨by decide +kernel, rfl⟩
theorem dX5_richesOf_6 : dI cX5_richesOf 6 9 (.getfield 9) 3 := ⟨by decide +kernel, rfl⟩
theorem dX5_richesOf_9 : decode cX5_richesOf 9 = .ok (.if_icmp .ge 27, 3) := by decide +kernel
theorem dX5_richesOf_12 : dI cX5_richesOf 12 13 (.aload_n 0) 1 := ⟨by decide +kernel, rfl⟩
theorem dX5_richesOf_13 : dI cX5_richesOf 13 14 (.iload_n 1) 1 := ⟨by decide +kernel, rfl⟩
theorem dX5_richesOf_14 : dI cX5_richesOf 14 15 (.iload_n 3) 1 := ⟨by decide +kernel, rfl⟩
theorem dX5_richesOf_15 : decode cX5_richesOf 15 = .ok (.invokevirtual 78, 3) := by decide +kernel
theorem dX5_richesOf_18 : decode cX5_richesOf 18 = .ok (.ifCond .eq 12, 3) := by decide +kernel
theorem dX5_richesOf_21 : dI cX5_richesOf 21 22 (.iload_n 2) 1 := ⟨by decide +kernel, rfl⟩
theorem dX5_richesOf_22 : dI cX5_richesOf 22 23 (.aload_n 0) 1 := ⟨by decide +kernel, rfl⟩
theorem dX5_richesOf_23 : dI cX5_richesOf 23 26 (.getfield 36) 3 := ⟨by decide +kernel, rfl⟩
theorem dX5_richesOf_26 : dI cX5_richesOf 26 27 (.iload_n 3) 1 := ⟨by decide +kernel, rfl⟩
theorem dX5_richesOf_27 : dI cX5_richesOf 27 28 (.iaload) 1 := ⟨by decide +kernel, rfl⟩
theorem dX5_richesOf_28 : dI cX5_richesOf 28 29 (.iadd) 1 := ⟨by decide +kernel, rfl⟩
theorem dX5_richesOf_29 : dI cX5_richesOf 29 30 (.istore_n 2) 1 := ⟨by decide +kernel, rfl⟩
theorem dX5_richesOf_30 : dI cX5_richesOf 30 33 (.iinc 3 1) 3 := ⟨by decide +kernel, rfl⟩
theorem dX5_richesOf_33 : decode cX5_richesOf 33 = .ok (.goto (-29), 3) := by decide +kernel
theorem dX5_richesOf_36 : dI cX5_richesOf 36 37 (.iload_n 2) 1 := ⟨by decide +kernel, rfl⟩
theorem dX5_richesOf_37 : dI cX5_richesOf 37 38 (.ireturn) 1 := ⟨by decide +kernel, rfl⟩
def f_X5_richesOf_b30 (k4 : Nat → Int32 → Int32 → Int32 → hS → Option (Int32 × hS)) (l0 : Nat) (l1 : Int32) (l2 : Int32) (l3 : Int32) (s : hS) : Option (Int32 × hS) :=
  k4 l0 l1 l2 (l3 + (1 : Int32)) s
theorem b_X5_richesOf_30 (E : jE) (k4 : Nat → Int32 → Int32 → Int32 → hS → Option (Int32 × hS)) (h4 : ∀ (s : hS) (l0 : Nat) (l1 : Int32) (l2 : Int32) (l3 : Int32) , Jo E M_X5_richesOf cvI 4 [(0, .ref l0), (1, .int l1), (2, .int l2), (3, .int l3)] [] s (k4 l0 l1 l2 l3 s)) (s : hS) (l0 : Nat) (l1 : Int32) (l2 : Int32) (l3 : Int32)  : Jo E M_X5_richesOf cvI 30 [(0, .ref l0), (1, .int l1), (2, .int l2), (3, .int l3)] [] s (f_X5_richesOf_b30 k4 l0 l1 l2 l3 s) := by
  unfold f_X5_richesOf_b30
  refine Jo_iinc (v := (l3 + (1 : Int32))) (ls' := [(3, .int (l3 + (1 : Int32))), (0, .ref l0), (1, .int l1), (2, .int l2)]) 3 dX5_richesOf_30 rfl rfl (by decide) rfl ?_
  refine Jo_goto 4 dX5_richesOf_33 (by decide) ?_
  refine Jo_sub [1, 2, 3, 0] rfl ?_
  exact h4 s l0 l1 l2 (l3 + (1 : Int32))
def f_X5_richesOf_b4 (k4 : Nat → Int32 → Int32 → Int32 → hS → Option (Int32 × hS)) (l0 : Nat) (l1 : Int32) (l2 : Int32) (l3 : Int32) (s : hS) : Option (Int32 × hS) :=
  (gI s l0 5 0).bind fun x1 =>
  if x1 ≤ l3 then
    some (l2, s)
  else
    (cV s l0 5 (f_X5_isKnown s l0 l1 l3)).bind fun p2 =>
    if p2.1 = 0 then
      f_X5_richesOf_b30 k4 l0 l1 l2 l3 p2.2
    else
      (gR p2.2 l0 5 8).bind fun a3 =>
      (aI p2.2 a3 10 l3).bind fun x4 =>
      nmv ((l2 + x4)) fun x5 =>
      f_X5_richesOf_b30 k4 l0 l1 x5 l3 p2.2
theorem b_X5_richesOf_4 (E : jE) (k4 : Nat → Int32 → Int32 → Int32 → hS → Option (Int32 × hS)) (h4 : ∀ (s : hS) (l0 : Nat) (l1 : Int32) (l2 : Int32) (l3 : Int32) , Jo E M_X5_richesOf cvI 4 [(0, .ref l0), (1, .int l1), (2, .int l2), (3, .int l3)] [] s (k4 l0 l1 l2 l3 s)) (s : hS) (l0 : Nat) (l1 : Int32) (l2 : Int32) (l3 : Int32)  : Jo E M_X5_richesOf cvI 4 [(0, .ref l0), (1, .int l1), (2, .int l2), (3, .int l3)] [] s (f_X5_richesOf_b4 k4 l0 l1 l2 l3 s) := by
  unfold f_X5_richesOf_b4
  refine Jo_iloadn 3 dX5_richesOf_4 rfl rfl ?_
  refine Jo_aloadn 0 dX5_richesOf_5 rfl rfl ?_
  refine Jo_getI fF_5_0 fI_5_0 dX5_richesOf_6 w_195 (fun x1 => ?_)
  refine Jo_icmp_ge 36 dX5_richesOf_9 (by decide) rfl ?_ ?_
  · refine Jo_iloadn 2 dX5_richesOf_36 rfl rfl ?_
    exact Jo_iret rfl dX5_richesOf_37
  · refine Jo_aloadn 0 dX5_richesOf_12 rfl rfl ?_
    refine Jo_iloadn 1 dX5_richesOf_13 rfl rfl ?_
    refine Jo_iloadn 3 dX5_richesOf_14 rfl rfl ?_
    refine Jo_callVi (a := l0) (rest := []) [.int l1, .int l3] cc_5 yF_X5_isKnown yV_X5_isKnown w_239 rfl rfl ⟨Nat.le_of_ble_eq_true rfl, Nat.le_of_ble_eq_true rfl, Nat.le_of_ble_eq_true rfl⟩ dX5_richesOf_15 rfl (K_X5_isKnown E s l0 l1 l3) (fun p2 => ?_)
    refine Jo_if_eq 30 dX5_richesOf_18 (by decide) rfl ?_ ?_
    · exact b_X5_richesOf_30 E k4 h4 p2.2 l0 l1 l2 l3
    · refine Jo_iloadn 2 dX5_richesOf_21 rfl rfl ?_
      refine Jo_aloadn 0 dX5_richesOf_22 rfl rfl ?_
      refine Jo_getR fF_5_8 fR_5_8 dX5_richesOf_23 w_187 (fun a3 => ?_)
      refine Jo_iloadn 3 dX5_richesOf_26 rfl rfl ?_
      refine Jo_iaload dX5_richesOf_27 (fun x4 => ?_)
      refine Jo_iadd dX5_richesOf_28 ?_
      refine Jo_nm (fun x5 => ?_)
      refine Jo_istoren (ls' := [(2, .int x5), (0, .ref l0), (1, .int l1), (3, .int l3)]) dX5_richesOf_29 rfl (by decide) rfl ?_
      refine Jo_sub [1, 2, 0, 3] rfl ?_
      exact b_X5_richesOf_30 E k4 h4 p2.2 l0 l1 x5 l3
theorem e_X5_richesOf_4 (E : jE)  (n : Nat) : ∀ (s : hS) (l0 : Nat) (l1 : Int32) (l2 : Int32) (l3 : Int32) , Jo E M_X5_richesOf cvI 4 [(0, .ref l0), (1, .int l1), (2, .int l2), (3, .int l3)] [] s ((jL f_X5_richesOf_b4 (fun _ _ _ _ _ => none) n) l0 l1 l2 l3 s) :=
  jL_ind (P := fun f => ∀ (s : hS) (l0 : Nat) (l1 : Int32) (l2 : Int32) (l3 : Int32) , Jo E M_X5_richesOf cvI 4 [(0, .ref l0), (1, .int l1), (2, .int l2), (3, .int l3)] [] s (f l0 l1 l2 l3 s)) (fun _ _ _ _ _ => Jo_none) (fun b hb s l0 l1 l2 l3 => b_X5_richesOf_4 E  b hb s l0 l1 l2 l3) n
def f_X5_richesOf (s : hS) (a0 : Nat) (i1 : Int32) : Option (Int32 × hS) :=
  jL f_X5_richesOf_b4 (fun _ _ _ _ _ => none) jF a0 i1 (0 : Int32) (0 : Int32) s
theorem b_X5_richesOf_in (E : jE)  (s : hS) (a0 : Nat) (i1 : Int32)  : Jo E M_X5_richesOf cvI 0 [(0, .ref a0), (1, .int i1)] [] s (f_X5_richesOf s a0 i1) := by
  unfold f_X5_richesOf
  refine Jo_iconst (v := (0 : Int32)) dX5_richesOf_0 (by decide) ?_
  refine Jo_istoren (ls' := [(2, .int (0 : Int32)), (0, .ref a0), (1, .int i1)]) dX5_richesOf_1 rfl (by decide) rfl ?_
  refine Jo_iconst (v := (0 : Int32)) dX5_richesOf_2 (by decide) ?_
  refine Jo_istoren (ls' := [(3, .int (0 : Int32)), (2, .int (0 : Int32)), (0, .ref a0), (1, .int i1)]) dX5_richesOf_3 rfl (by decide) rfl ?_
  refine Jo_sub [2, 3, 1, 0] rfl ?_
  exact e_X5_richesOf_4 E jF s a0 i1 (0 : Int32) (0 : Int32)
theorem K_X5_richesOf (E : jE) (s : hS) (a0 : Nat) (i1 : Int32) : jK E yX5_richesOf M_X5_richesOf cvI [.ref a0, .int i1] s (f_X5_richesOf s a0 i1) := jK_of ⟨by decide, rfl, rfl⟩ (Nat.le_of_ble_eq_true rfl) (b_X5_richesOf_in E s a0 i1)
/-! HeronTalk$Town.richestOne()I -/
abbrev M_X5_richestOne : jM := (RX5, cX5_richestOne, 5, (some .int), "richestOne", 2, 45)
theorem yF_X5_richestOne : yF yX5_richestOne M_X5_richestOne 0 := ⟨w_258, w_198, by decide +kernel⟩
theorem yV_X5_richestOne : Cond.instanceMethod yX5_richestOne ∈ tbG ∧ Cond.selects yX5_richestOne.cls yX5_richestOne yX5_richestOne ∈ tbG := ⟨w_259, w_260⟩
theorem dX5_richestOne_0 : dI cX5_richestOne 0 1 (.iconst (-1)) 1 := ⟨by decide +kernel, rfl⟩
theorem dX5_richestOne_1 : dI cX5_richestOne 1 2 (.istore_n 1) 1 := ⟨by decide +kernel, rfl⟩
theorem dX5_richestOne_2 : dI cX5_richestOne 2 3 (.iconst 0) 1 := ⟨by decide +kernel, rfl⟩
theorem dX5_richestOne_3 : dI cX5_richestOne 3 4 (.istore_n 2) 1 := ⟨by decide +kernel, rfl⟩
theorem dX5_richestOne_4 : dI cX5_richestOne 4 5 (.iconst 0) 1 := ⟨by decide +kernel, rfl⟩
theorem dX5_richestOne_5 : dI cX5_richestOne 5 6 (.istore_n 3) 1 := ⟨by decide +kernel, rfl⟩
theorem dX5_richestOne_6 : dI cX5_richestOne 6 7 (.iload_n 3) 1 := ⟨by decide +kernel, rfl⟩
theorem dX5_richestOne_7 : dI cX5_richestOne 7 8 (.aload_n 0) 1 := ⟨by decide +kernel, rfl⟩
theorem dX5_richestOne_8 : dI cX5_richestOne 8 11 (.getfield 15) 3 := ⟨by decide +kernel, rfl⟩
theorem dX5_richestOne_11 : decode cX5_richestOne 11 = .ok (.if_icmp .ge 32, 3) := by decide +kernel
theorem dX5_richestOne_14 : dI cX5_richestOne 14 15 (.aload_n 0) 1 := ⟨by decide +kernel, rfl⟩
theorem dX5_richestOne_15 : dI cX5_richestOne 15 16 (.iload_n 3) 1 := ⟨by decide +kernel, rfl⟩
theorem dX5_richestOne_16 : decode cX5_richestOne 16 = .ok (.invokevirtual 92, 3) := by decide +kernel
theorem dX5_richestOne_19 : dI cX5_richestOne 19 21 (.istore 4) 2 := ⟨by decide +kernel, rfl⟩
theorem dX5_richestOne_21 : dI cX5_richestOne 21 22 (.iload_n 1) 1 := ⟨by decide +kernel, rfl⟩
theorem dX5_richestOne_22 : dI cX5_richestOne 22 23 (.iconst (-1)) 1 := ⟨by decide +kernel, rfl⟩
theorem dX5_richestOne_23 : decode cX5_richestOne 23 = .ok (.if_icmp .eq 9, 3) := by decide +kernel
theorem dX5_richestOne_26 : dI cX5_richestOne 26 28 (.iload 4) 2 := ⟨by decide +kernel, rfl⟩
theorem dX5_richestOne_28 : dI cX5_richestOne 28 29 (.iload_n 2) 1 := ⟨by decide +kernel, rfl⟩
theorem dX5_richestOne_29 : decode cX5_richestOne 29 = .ok (.if_icmp .le 8, 3) := by decide +kernel
theorem dX5_richestOne_32 : dI cX5_richestOne 32 33 (.iload_n 3) 1 := ⟨by decide +kernel, rfl⟩
theorem dX5_richestOne_33 : dI cX5_richestOne 33 34 (.istore_n 1) 1 := ⟨by decide +kernel, rfl⟩
theorem dX5_richestOne_34 : dI cX5_richestOne 34 36 (.iload 4) 2 := ⟨by decide +kernel, rfl⟩
theorem dX5_richestOne_36 : dI cX5_richestOne 36 37 (.istore_n 2) 1 := ⟨by decide +kernel, rfl⟩
theorem dX5_richestOne_37 : dI cX5_richestOne 37 40 (.iinc 3 1) 3 := ⟨by decide +kernel, rfl⟩
theorem dX5_richestOne_40 : decode cX5_richestOne 40 = .ok (.goto (-34), 3) := by decide +kernel
theorem dX5_richestOne_43 : dI cX5_richestOne 43 44 (.iload_n 1) 1 := ⟨by decide +kernel, rfl⟩
theorem dX5_richestOne_44 : dI cX5_richestOne 44 45 (.ireturn) 1 := ⟨by decide +kernel, rfl⟩
def f_X5_richestOne_b37 (k6 : Nat → Int32 → Int32 → Int32 → hS → Option (Int32 × hS)) (l0 : Nat) (l1 : Int32) (l2 : Int32) (l3 : Int32) (s : hS) : Option (Int32 × hS) :=
  k6 l0 l1 l2 (l3 + (1 : Int32)) s
theorem b_X5_richestOne_37 (E : jE) (k6 : Nat → Int32 → Int32 → Int32 → hS → Option (Int32 × hS)) (h6 : ∀ (s : hS) (l0 : Nat) (l1 : Int32) (l2 : Int32) (l3 : Int32) , Jo E M_X5_richestOne cvI 6 [(0, .ref l0), (1, .int l1), (2, .int l2), (3, .int l3)] [] s (k6 l0 l1 l2 l3 s)) (s : hS) (l0 : Nat) (l1 : Int32) (l2 : Int32) (l3 : Int32)  : Jo E M_X5_richestOne cvI 37 [(0, .ref l0), (1, .int l1), (2, .int l2), (3, .int l3)] [] s (f_X5_richestOne_b37 k6 l0 l1 l2 l3 s) := by
  unfold f_X5_richestOne_b37
  refine Jo_iinc (v := (l3 + (1 : Int32))) (ls' := [(3, .int (l3 + (1 : Int32))), (0, .ref l0), (1, .int l1), (2, .int l2)]) 3 dX5_richestOne_37 rfl rfl (by decide) rfl ?_
  refine Jo_goto 6 dX5_richestOne_40 (by decide) ?_
  refine Jo_sub [1, 2, 3, 0] rfl ?_
  exact h6 s l0 l1 l2 (l3 + (1 : Int32))
def f_X5_richestOne_b32 (k6 : Nat → Int32 → Int32 → Int32 → hS → Option (Int32 × hS)) (l0 : Nat) (l3 : Int32) (l4 : Int32) (s : hS) : Option (Int32 × hS) :=
  f_X5_richestOne_b37 k6 l0 l3 l4 l3 s
theorem b_X5_richestOne_32 (E : jE) (k6 : Nat → Int32 → Int32 → Int32 → hS → Option (Int32 × hS)) (h6 : ∀ (s : hS) (l0 : Nat) (l1 : Int32) (l2 : Int32) (l3 : Int32) , Jo E M_X5_richestOne cvI 6 [(0, .ref l0), (1, .int l1), (2, .int l2), (3, .int l3)] [] s (k6 l0 l1 l2 l3 s)) (s : hS) (l0 : Nat) (l3 : Int32) (l4 : Int32)  : Jo E M_X5_richestOne cvI 32 [(0, .ref l0), (3, .int l3), (4, .int l4)] [] s (f_X5_richestOne_b32 k6 l0 l3 l4 s) := by
  unfold f_X5_richestOne_b32
  refine Jo_iloadn 1 dX5_richestOne_32 rfl rfl ?_
  refine Jo_istoren (ls' := [(1, .int l3), (0, .ref l0), (3, .int l3), (4, .int l4)]) dX5_richestOne_33 rfl (by decide) rfl ?_
  refine Jo_iload 3 dX5_richestOne_34 rfl ?_
  refine Jo_istoren (ls' := [(2, .int l4), (1, .int l3), (0, .ref l0), (3, .int l3), (4, .int l4)]) dX5_richestOne_36 rfl (by decide) rfl ?_
  refine Jo_sub [2, 1, 0, 3] rfl ?_
  exact b_X5_richestOne_37 E k6 h6 s l0 l3 l4 l3
def f_X5_richestOne_b6 (k6 : Nat → Int32 → Int32 → Int32 → hS → Option (Int32 × hS)) (l0 : Nat) (l1 : Int32) (l2 : Int32) (l3 : Int32) (s : hS) : Option (Int32 × hS) :=
  (gI s l0 5 1).bind fun x1 =>
  if x1 ≤ l3 then
    some (l1, s)
  else
    (cV s l0 5 (f_X5_richesOf s l0 l3)).bind fun p2 =>
    if l1 = (-1 : Int32) then
      f_X5_richestOne_b32 k6 l0 l3 p2.1 p2.2
    else
      if p2.1 ≤ l2 then
        f_X5_richestOne_b37 k6 l0 l1 l2 l3 p2.2
      else
        f_X5_richestOne_b32 k6 l0 l3 p2.1 p2.2
theorem b_X5_richestOne_6 (E : jE) (k6 : Nat → Int32 → Int32 → Int32 → hS → Option (Int32 × hS)) (h6 : ∀ (s : hS) (l0 : Nat) (l1 : Int32) (l2 : Int32) (l3 : Int32) , Jo E M_X5_richestOne cvI 6 [(0, .ref l0), (1, .int l1), (2, .int l2), (3, .int l3)] [] s (k6 l0 l1 l2 l3 s)) (s : hS) (l0 : Nat) (l1 : Int32) (l2 : Int32) (l3 : Int32)  : Jo E M_X5_richestOne cvI 6 [(0, .ref l0), (1, .int l1), (2, .int l2), (3, .int l3)] [] s (f_X5_richestOne_b6 k6 l0 l1 l2 l3 s) := by
  unfold f_X5_richestOne_b6
  refine Jo_iloadn 3 dX5_richestOne_6 rfl rfl ?_
  refine Jo_aloadn 0 dX5_richestOne_7 rfl rfl ?_
  refine Jo_getI fF_5_1 fI_5_1 dX5_richestOne_8 w_194 (fun x1 => ?_)
  refine Jo_icmp_ge 43 dX5_richestOne_11 (by decide) rfl ?_ ?_
  · refine Jo_iloadn 1 dX5_richestOne_43 rfl rfl ?_
    exact Jo_iret rfl dX5_richestOne_44
  · refine Jo_aloadn 0 dX5_richestOne_14 rfl rfl ?_
    refine Jo_iloadn 3 dX5_richestOne_15 rfl rfl ?_
    refine Jo_callVi (a := l0) (rest := []) [.int l3] cc_5 yF_X5_richesOf yV_X5_richesOf w_257 rfl rfl ⟨Nat.le_of_ble_eq_true rfl, Nat.le_of_ble_eq_true rfl, Nat.le_of_ble_eq_true rfl⟩ dX5_richestOne_16 rfl (K_X5_richesOf E s l0 l3) (fun p2 => ?_)
    refine Jo_istore (ls' := [(4, .int p2.1), (0, .ref l0), (1, .int l1), (2, .int l2), (3, .int l3)]) dX5_richestOne_19 (by decide) rfl ?_
    refine Jo_iloadn 2 dX5_richestOne_21 rfl rfl ?_
    refine Jo_iconst (v := (-1 : Int32)) dX5_richestOne_22 (by decide) ?_
    refine Jo_icmp_eq 32 dX5_richestOne_23 (by decide) rfl ?_ ?_
    · refine Jo_sub [1, 4, 0] rfl ?_
      exact b_X5_richestOne_32 E k6 h6 p2.2 l0 l3 p2.1
    · refine Jo_iload 0 dX5_richestOne_26 rfl ?_
      refine Jo_iloadn 3 dX5_richestOne_28 rfl rfl ?_
      refine Jo_icmp_le 37 dX5_richestOne_29 (by decide) rfl ?_ ?_
      · refine Jo_sub [1, 2, 3, 4] rfl ?_
        exact b_X5_richestOne_37 E k6 h6 p2.2 l0 l1 l2 l3
      · refine Jo_sub [1, 4, 0] rfl ?_
        exact b_X5_richestOne_32 E k6 h6 p2.2 l0 l3 p2.1
theorem e_X5_richestOne_6 (E : jE)  (n : Nat) : ∀ (s : hS) (l0 : Nat) (l1 : Int32) (l2 : Int32) (l3 : Int32) , Jo E M_X5_richestOne cvI 6 [(0, .ref l0), (1, .int l1), (2, .int l2), (3, .int l3)] [] s ((jL f_X5_richestOne_b6 (fun _ _ _ _ _ => none) n) l0 l1 l2 l3 s) :=
  jL_ind (P := fun f => ∀ (s : hS) (l0 : Nat) (l1 : Int32) (l2 : Int32) (l3 : Int32) , Jo E M_X5_richestOne cvI 6 [(0, .ref l0), (1, .int l1), (2, .int l2), (3, .int l3)] [] s (f l0 l1 l2 l3 s)) (fun _ _ _ _ _ => Jo_none) (fun b hb s l0 l1 l2 l3 => b_X5_richestOne_6 E  b hb s l0 l1 l2 l3) n
def f_X5_richestOne (s : hS) (a0 : Nat) : Option (Int32 × hS) :=
  jL f_X5_richestOne_b6 (fun _ _ _ _ _ => none) jF a0 (-1 : Int32) (0 : Int32) (0 : Int32) s
theorem b_X5_richestOne_in (E : jE)  (s : hS) (a0 : Nat)  : Jo E M_X5_richestOne cvI 0 [(0, .ref a0)] [] s (f_X5_richestOne s a0) := by
  unfold f_X5_richestOne
  refine Jo_iconst (v := (-1 : Int32)) dX5_richestOne_0 (by decide) ?_
  refine Jo_istoren (ls' := [(1, .int (-1 : Int32)), (0, .ref a0)]) dX5_richestOne_1 rfl (by decide) rfl ?_
  refine Jo_iconst (v := (0 : Int32)) dX5_richestOne_2 (by decide) ?_
  refine Jo_istoren (ls' := [(2, .int (0 : Int32)), (1, .int (-1 : Int32)), (0, .ref a0)]) dX5_richestOne_3 rfl (by decide) rfl ?_
  refine Jo_iconst (v := (0 : Int32)) dX5_richestOne_4 (by decide) ?_
  refine Jo_istoren (ls' := [(3, .int (0 : Int32)), (2, .int (0 : Int32)), (1, .int (-1 : Int32)), (0, .ref a0)]) dX5_richestOne_5 rfl (by decide) rfl ?_
  refine Jo_sub [3, 2, 1, 0] rfl ?_
  exact e_X5_richestOne_6 E jF s a0 (-1 : Int32) (0 : Int32) (0 : Int32)
theorem K_X5_richestOne (E : jE) (s : hS) (a0 : Nat) : jK E yX5_richestOne M_X5_richestOne cvI [.ref a0] s (f_X5_richestOne s a0) := jK_of ⟨by decide, rfl, rfl⟩ (Nat.le_of_ble_eq_true rfl) (b_X5_richestOne_in E s a0)
/-! HeronTalk$Town.drawOne()I -/
abbrev M_X5_drawOne : jM := (RX5, cX5_drawOne, 1, (some .int), "drawOne", 0, 0)
theorem yF_X5_drawOne : yF yX5_drawOne M_X5_drawOne 0 := ⟨w_262, w_198, by decide +kernel⟩
theorem yV_X5_drawOne : Cond.instanceMethod yX5_drawOne ∈ tbG ∧ Cond.selects yX5_drawOne.cls yX5_drawOne yX5_drawOne ∈ tbG := ⟨w_263, w_264⟩
theorem dX5_drawOne_0 : dI cX5_drawOne 0 1 (.aload_n 0) 1 := ⟨by decide +kernel, rfl⟩
theorem dX5_drawOne_1 : dI cX5_drawOne 1 2 (.aload_n 0) 1 := ⟨by decide +kernel, rfl⟩
theorem dX5_drawOne_2 : dI cX5_drawOne 2 5 (.getfield 33) 3 := ⟨by decide +kernel, rfl⟩
theorem dX5_drawOne_5 : dI cX5_drawOne 5 7 (.ldc 98) 2 := ⟨by decide +kernel, rfl⟩
theorem dX5_drawOne_7 : dI cX5_drawOne 7 8 (.imul) 1 := ⟨by decide +kernel, rfl⟩
theorem dX5_drawOne_8 : dI cX5_drawOne 8 11 (.sipush 12345) 3 := ⟨by decide +kernel, rfl⟩
theorem dX5_drawOne_11 : dI cX5_drawOne 11 12 (.iadd) 1 := ⟨by decide +kernel, rfl⟩
theorem dX5_drawOne_12 : dI cX5_drawOne 12 15 (.putfield 33) 3 := ⟨by decide +kernel, rfl⟩
theorem dX5_drawOne_15 : dI cX5_drawOne 15 16 (.aload_n 0) 1 := ⟨by decide +kernel, rfl⟩
theorem dX5_drawOne_16 : dI cX5_drawOne 16 19 (.getfield 33) 3 := ⟨by decide +kernel, rfl⟩
theorem dX5_drawOne_19 : dI cX5_drawOne 19 21 (.bipush 8) 2 := ⟨by decide +kernel, rfl⟩
theorem dX5_drawOne_21 : dI cX5_drawOne 21 22 (.iushr) 1 := ⟨by decide +kernel, rfl⟩
theorem dX5_drawOne_22 : dI cX5_drawOne 22 23 (.ireturn) 1 := ⟨by decide +kernel, rfl⟩
def f_X5_drawOne (s : hS) (a0 : Nat) : Option (Int32 × hS) :=
  (gI s a0 5 7).bind fun x1 =>
  (pI s a0 5 7 ((x1 * (1103515245 : Int32)) + (12345 : Int32))).bind fun s2 =>
  (gI s2 a0 5 7).bind fun x3 =>
  some (((x3).toUInt32 >>> (((8 : Int32)).toUInt32 &&& Int32.toUInt32 31)).toInt32, s2)
theorem b_X5_drawOne_in (E : jE)  (s : hS) (a0 : Nat)  : Jo E M_X5_drawOne cvI 0 [(0, .ref a0)] [] s (f_X5_drawOne s a0) := by
  unfold f_X5_drawOne
  refine Jo_aloadn 0 dX5_drawOne_0 rfl rfl ?_
  refine Jo_aloadn 0 dX5_drawOne_1 rfl rfl ?_
  refine Jo_getI fF_5_7 fI_5_7 dX5_drawOne_2 w_188 (fun x1 => ?_)
  refine Jo_ldc dX5_drawOne_5 w_261 ?_
  refine Jo_imul dX5_drawOne_7 ?_
  refine Jo_sipush (v := (12345 : Int32)) dX5_drawOne_8 (by decide) ?_
  refine Jo_iadd dX5_drawOne_11 ?_
  refine Jo_putI fF_5_7 fI_5_7 (Or.inl rfl) rfl dX5_drawOne_12 w_188 (fun s2 => ?_)
  refine Jo_aloadn 0 dX5_drawOne_15 rfl rfl ?_
  refine Jo_getI fF_5_7 fI_5_7 dX5_drawOne_16 w_188 (fun x3 => ?_)
  refine Jo_bipush (v := (8 : Int32)) dX5_drawOne_19 (by decide) ?_
  refine Jo_iushr dX5_drawOne_21 ?_
  exact Jo_iret rfl dX5_drawOne_22
theorem K_X5_drawOne (E : jE) (s : hS) (a0 : Nat) : jK E yX5_drawOne M_X5_drawOne cvI [.ref a0] s (f_X5_drawOne s a0) := jK_of ⟨by decide, rfl, rfl⟩ (Nat.le_of_ble_eq_true rfl) (b_X5_drawOne_in E s a0)
/-! HeronTalk$Town.drawAll()V -/
abbrev M_X5_drawAll : jM := (RX5, cX5_drawAll, 2, (none : Option Jvm.ClassFile.FieldType), "drawAll", 1, 25)
theorem yF_X5_drawAll : yF yX5_drawAll M_X5_drawAll 0 := ⟨w_268, w_198, by decide +kernel⟩
theorem yV_X5_drawAll : Cond.instanceMethod yX5_drawAll ∈ tbG ∧ Cond.selects yX5_drawAll.cls yX5_drawAll yX5_drawAll ∈ tbG := ⟨w_269, w_270⟩
theorem dX5_drawAll_0 : dI cX5_drawAll 0 1 (.iconst 0) 1 := ⟨by decide +kernel, rfl⟩
theorem dX5_drawAll_1 : dI cX5_drawAll 1 2 (.istore_n 1) 1 := ⟨by decide +kernel, rfl⟩
theorem dX5_drawAll_2 : dI cX5_drawAll 2 3 (.iload_n 1) 1 := ⟨by decide +kernel, rfl⟩
theorem dX5_drawAll_3 : dI cX5_drawAll 3 4 (.aload_n 0) 1 := ⟨by decide +kernel, rfl⟩
theorem dX5_drawAll_4 : dI cX5_drawAll 4 7 (.getfield 15) 3 := ⟨by decide +kernel, rfl⟩
theorem dX5_drawAll_7 : decode cX5_drawAll 7 = .ok (.if_icmp .ge 49, 3) := by decide +kernel
theorem dX5_drawAll_10 : dI cX5_drawAll 10 11 (.aload_n 0) 1 := ⟨by decide +kernel, rfl⟩
theorem dX5_drawAll_11 : dI cX5_drawAll 11 14 (.getfield 43) 3 := ⟨by decide +kernel, rfl⟩
theorem dX5_drawAll_14 : dI cX5_drawAll 14 15 (.iload_n 1) 1 := ⟨by decide +kernel, rfl⟩
theorem dX5_drawAll_15 : dI cX5_drawAll 15 16 (.aload_n 0) 1 := ⟨by decide +kernel, rfl⟩
theorem dX5_drawAll_16 : dI cX5_drawAll 16 17 (.aload_n 0) 1 := ⟨by decide +kernel, rfl⟩
theorem dX5_drawAll_17 : decode cX5_drawAll 17 = .ok (.invokevirtual 99, 3) := by decide +kernel
theorem dX5_drawAll_20 : dI cX5_drawAll 20 22 (.ldc 102) 2 := ⟨by decide +kernel, rfl⟩
theorem dX5_drawAll_22 : dI cX5_drawAll 22 23 (.irem) 1 := ⟨by decide +kernel, rfl⟩
theorem dX5_drawAll_23 : dI cX5_drawAll 23 24 (.aload_n 0) 1 := ⟨by decide +kernel, rfl⟩
theorem dX5_drawAll_24 : decode cX5_drawAll 24 = .ok (.invokevirtual 103, 3) := by decide +kernel
theorem dX5_drawAll_27 : dI cX5_drawAll 27 28 (.iand) 1 := ⟨by decide +kernel, rfl⟩
theorem dX5_drawAll_28 : decode cX5_drawAll 28 = .ok (.invokevirtual 95, 3) := by decide +kernel
theorem dX5_drawAll_31 : dI cX5_drawAll 31 32 (.iastore) 1 := ⟨by decide +kernel, rfl⟩
theorem dX5_drawAll_32 : dI cX5_drawAll 32 33 (.aload_n 0) 1 := ⟨by decide +kernel, rfl⟩
theorem dX5_drawAll_33 : dI cX5_drawAll 33 36 (.getfield 46) 3 := ⟨by decide +kernel, rfl⟩
theorem dX5_drawAll_36 : dI cX5_drawAll 36 37 (.iload_n 1) 1 := ⟨by decide +kernel, rfl⟩
theorem dX5_drawAll_37 : dI cX5_drawAll 37 38 (.aload_n 0) 1 := ⟨by decide +kernel, rfl⟩
theorem dX5_drawAll_38 : decode cX5_drawAll 38 = .ok (.invokevirtual 99, 3) := by decide +kernel
theorem dX5_drawAll_41 : dI cX5_drawAll 41 43 (.ldc 102) 2 := ⟨by decide +kernel, rfl⟩
theorem dX5_drawAll_43 : dI cX5_drawAll 43 44 (.irem) 1 := ⟨by decide +kernel, rfl⟩
theorem dX5_drawAll_44 : dI cX5_drawAll 44 45 (.aload_n 0) 1 := ⟨by decide +kernel, rfl⟩
theorem dX5_drawAll_45 : decode cX5_drawAll 45 = .ok (.invokevirtual 103, 3) := by decide +kernel
theorem dX5_drawAll_48 : dI cX5_drawAll 48 49 (.iand) 1 := ⟨by decide +kernel, rfl⟩
theorem dX5_drawAll_49 : dI cX5_drawAll 49 50 (.iastore) 1 := ⟨by decide +kernel, rfl⟩
theorem dX5_drawAll_50 : dI cX5_drawAll 50 53 (.iinc 1 1) 3 := ⟨by decide +kernel, rfl⟩
theorem dX5_drawAll_53 : decode cX5_drawAll 53 = .ok (.goto (-51), 3) := by decide +kernel
theorem dX5_drawAll_56 : dI cX5_drawAll 56 57 (.return_) 1 := ⟨by decide +kernel, rfl⟩
def f_X5_drawAll_b2 (k2 : Nat → Int32 → hS → Option (Unit × hS)) (l0 : Nat) (l1 : Int32) (s : hS) : Option (Unit × hS) :=
  (gI s l0 5 1).bind fun x1 =>
  if x1 ≤ l1 then
    some ((), s)
  else
    (gR s l0 5 10).bind fun a2 =>
    (cV s l0 5 (f_X5_drawOne s l0)).bind fun p3 =>
    if (65536 : Int32) = 0 then none else
    (cV p3.2 l0 5 (f_X5_allFacts p3.2 l0)).bind fun p4 =>
    (cV p4.2 l0 5 (f_X5_withWhatFollows p4.2 l0 ((p3.1 - p3.1 / (65536 : Int32) * (65536 : Int32)) &&& p4.1))).bind fun p5 =>
    (sI p5.2 a2 10 l1 p5.1).bind fun s6 =>
    (gR s6 l0 5 11).bind fun a7 =>
    (cV s6 l0 5 (f_X5_drawOne s6 l0)).bind fun p8 =>
    if (65536 : Int32) = 0 then none else
    (cV p8.2 l0 5 (f_X5_allFacts p8.2 l0)).bind fun p9 =>
    (sI p9.2 a7 10 l1 ((p8.1 - p8.1 / (65536 : Int32) * (65536 : Int32)) &&& p9.1)).bind fun s10 =>
    k2 l0 (l1 + (1 : Int32)) s10
theorem b_X5_drawAll_2 (E : jE) (k2 : Nat → Int32 → hS → Option (Unit × hS)) (h2 : ∀ (s : hS) (l0 : Nat) (l1 : Int32) , Jo E M_X5_drawAll cvV 2 [(0, .ref l0), (1, .int l1)] [] s (k2 l0 l1 s)) (s : hS) (l0 : Nat) (l1 : Int32)  : Jo E M_X5_drawAll cvV 2 [(0, .ref l0), (1, .int l1)] [] s (f_X5_drawAll_b2 k2 l0 l1 s) := by
  unfold f_X5_drawAll_b2
  refine Jo_iloadn 1 dX5_drawAll_2 rfl rfl ?_
  refine Jo_aloadn 0 dX5_drawAll_3 rfl rfl ?_
  refine Jo_getI fF_5_1 fI_5_1 dX5_drawAll_4 w_194 (fun x1 => ?_)
  refine Jo_icmp_ge 56 dX5_drawAll_7 (by decide) rfl ?_ ?_
  · exact Jo_vret rfl dX5_drawAll_56
  · refine Jo_aloadn 0 dX5_drawAll_10 rfl rfl ?_
    refine Jo_getR fF_5_10 fR_5_10 dX5_drawAll_11 w_185 (fun a2 => ?_)
    refine Jo_iloadn 1 dX5_drawAll_14 rfl rfl ?_
    refine Jo_aloadn 0 dX5_drawAll_15 rfl rfl ?_
    refine Jo_aloadn 0 dX5_drawAll_16 rfl rfl ?_
    refine Jo_callVi (a := l0) (rest := [.ref l0, .int l1, .ref a2]) [] cc_5 yF_X5_drawOne yV_X5_drawOne w_267 rfl rfl ⟨Nat.le_of_ble_eq_true rfl, Nat.le_of_ble_eq_true rfl, Nat.le_of_ble_eq_true rfl⟩ dX5_drawAll_17 rfl (K_X5_drawOne E s l0) (fun p3 => ?_)
    refine Jo_ldc dX5_drawAll_20 w_266 ?_
    refine Jo_irem dX5_drawAll_22 ?_
    refine Jo_aloadn 0 dX5_drawAll_23 rfl rfl ?_
    refine Jo_callVi (a := l0) (rest := [.int (p3.1 - p3.1 / (65536 : Int32) * (65536 : Int32)), .ref l0, .int l1, .ref a2]) [] cc_5 yF_X5_allFacts yV_X5_allFacts w_265 rfl rfl ⟨Nat.le_of_ble_eq_true rfl, Nat.le_of_ble_eq_true rfl, Nat.le_of_ble_eq_true rfl⟩ dX5_drawAll_24 rfl (K_X5_allFacts E p3.2 l0) (fun p4 => ?_)
    refine Jo_iand dX5_drawAll_27 ?_
    refine Jo_callVi (a := l0) (rest := [.int l1, .ref a2]) [.int ((p3.1 - p3.1 / (65536 : Int32) * (65536 : Int32)) &&& p4.1)] cc_5 yF_X5_withWhatFollows yV_X5_withWhatFollows w_212 rfl rfl ⟨Nat.le_of_ble_eq_true rfl, Nat.le_of_ble_eq_true rfl, Nat.le_of_ble_eq_true rfl⟩ dX5_drawAll_28 rfl (K_X5_withWhatFollows E p4.2 l0 ((p3.1 - p3.1 / (65536 : Int32) * (65536 : Int32)) &&& p4.1)) (fun p5 => ?_)
    refine Jo_iastore dX5_drawAll_31 (fun s6 => ?_)
    refine Jo_aloadn 0 dX5_drawAll_32 rfl rfl ?_
    refine Jo_getR fF_5_11 fR_5_11 dX5_drawAll_33 w_184 (fun a7 => ?_)
    refine Jo_iloadn 1 dX5_drawAll_36 rfl rfl ?_
    refine Jo_aloadn 0 dX5_drawAll_37 rfl rfl ?_
    refine Jo_callVi (a := l0) (rest := [.int l1, .ref a7]) [] cc_5 yF_X5_drawOne yV_X5_drawOne w_267 rfl rfl ⟨Nat.le_of_ble_eq_true rfl, Nat.le_of_ble_eq_true rfl, Nat.le_of_ble_eq_true rfl⟩ dX5_drawAll_38 rfl (K_X5_drawOne E s6 l0) (fun p8 => ?_)
    refine Jo_ldc dX5_drawAll_41 w_266 ?_
    refine Jo_irem dX5_drawAll_43 ?_
    refine Jo_aloadn 0 dX5_drawAll_44 rfl rfl ?_
    refine Jo_callVi (a := l0) (rest := [.int (p8.1 - p8.1 / (65536 : Int32) * (65536 : Int32)), .int l1, .ref a7]) [] cc_5 yF_X5_allFacts yV_X5_allFacts w_265 rfl rfl ⟨Nat.le_of_ble_eq_true rfl, Nat.le_of_ble_eq_true rfl, Nat.le_of_ble_eq_true rfl⟩ dX5_drawAll_45 rfl (K_X5_allFacts E p8.2 l0) (fun p9 => ?_)
    refine Jo_iand dX5_drawAll_48 ?_
    refine Jo_iastore dX5_drawAll_49 (fun s10 => ?_)
    refine Jo_iinc (v := (l1 + (1 : Int32))) (ls' := [(1, .int (l1 + (1 : Int32))), (0, .ref l0)]) 1 dX5_drawAll_50 rfl rfl (by decide) rfl ?_
    refine Jo_goto 2 dX5_drawAll_53 (by decide) ?_
    refine Jo_sub [1, 0] rfl ?_
    exact h2 s10 l0 (l1 + (1 : Int32))
theorem e_X5_drawAll_2 (E : jE)  (n : Nat) : ∀ (s : hS) (l0 : Nat) (l1 : Int32) , Jo E M_X5_drawAll cvV 2 [(0, .ref l0), (1, .int l1)] [] s ((jL f_X5_drawAll_b2 (fun _ _ _ => none) n) l0 l1 s) :=
  jL_ind (P := fun f => ∀ (s : hS) (l0 : Nat) (l1 : Int32) , Jo E M_X5_drawAll cvV 2 [(0, .ref l0), (1, .int l1)] [] s (f l0 l1 s)) (fun _ _ _ => Jo_none) (fun b hb s l0 l1 => b_X5_drawAll_2 E  b hb s l0 l1) n
def f_X5_drawAll (s : hS) (a0 : Nat) : Option (Unit × hS) :=
  jL f_X5_drawAll_b2 (fun _ _ _ => none) jF a0 (0 : Int32) s
theorem b_X5_drawAll_in (E : jE)  (s : hS) (a0 : Nat)  : Jo E M_X5_drawAll cvV 0 [(0, .ref a0)] [] s (f_X5_drawAll s a0) := by
  unfold f_X5_drawAll
  refine Jo_iconst (v := (0 : Int32)) dX5_drawAll_0 (by decide) ?_
  refine Jo_istoren (ls' := [(1, .int (0 : Int32)), (0, .ref a0)]) dX5_drawAll_1 rfl (by decide) rfl ?_
  refine Jo_sub [1, 0] rfl ?_
  exact e_X5_drawAll_2 E jF s a0 (0 : Int32)
theorem K_X5_drawAll (E : jE) (s : hS) (a0 : Nat) : jK E yX5_drawAll M_X5_drawAll cvV [.ref a0] s (f_X5_drawAll s a0) := jK_of ⟨by decide, rfl, rfl⟩ (Nat.le_of_ble_eq_true rfl) (b_X5_drawAll_in E s a0)
/-! HeronTalk$Town.lastTextOf(I)I -/
abbrev M_X5_lastTextOf : jM := (RX5, cX5_lastTextOf, 3, (some .int), "lastTextOf", 0, 0)
theorem yF_X5_lastTextOf : yF yX5_lastTextOf M_X5_lastTextOf 1 := ⟨w_272, w_198, by decide +kernel⟩
theorem yV_X5_lastTextOf : Cond.instanceMethod yX5_lastTextOf ∈ tbG ∧ Cond.selects yX5_lastTextOf.cls yX5_lastTextOf yX5_lastTextOf ∈ tbG := ⟨w_273, w_274⟩
theorem dX5_lastTextOf_0 : dI cX5_lastTextOf 0 1 (.aload_n 0) 1 := ⟨by decide +kernel, rfl⟩
theorem dX5_lastTextOf_1 : dI cX5_lastTextOf 1 4 (.getfield 24) 3 := ⟨by decide +kernel, rfl⟩
theorem dX5_lastTextOf_4 : dI cX5_lastTextOf 4 5 (.iconst 1) 1 := ⟨by decide +kernel, rfl⟩
theorem dX5_lastTextOf_5 : dI cX5_lastTextOf 5 6 (.isub) 1 := ⟨by decide +kernel, rfl⟩
theorem dX5_lastTextOf_6 : dI cX5_lastTextOf 6 7 (.istore_n 2) 1 := ⟨by decide +kernel, rfl⟩
theorem dX5_lastTextOf_7 : dI cX5_lastTextOf 7 8 (.iload_n 2) 1 := ⟨by decide +kernel, rfl⟩
theorem dX5_lastTextOf_8 : decode cX5_lastTextOf 8 = .ok (.ifCond .lt 33, 3) := by decide +kernel
theorem dX5_lastTextOf_11 : dI cX5_lastTextOf 11 12 (.aload_n 0) 1 := ⟨by decide +kernel, rfl⟩
theorem dX5_lastTextOf_12 : dI cX5_lastTextOf 12 15 (.getfield 66) 3 := ⟨by decide +kernel, rfl⟩
theorem dX5_lastTextOf_15 : dI cX5_lastTextOf 15 16 (.iload_n 2) 1 := ⟨by decide +kernel, rfl⟩
theorem dX5_lastTextOf_16 : dI cX5_lastTextOf 16 17 (.aaload) 1 := ⟨by decide +kernel, rfl⟩
theorem dX5_lastTextOf_17 : decode cX5_lastTextOf 17 = .ok (.ifnull 18, 3) := by decide +kernel
theorem dX5_lastTextOf_20 : dI cX5_lastTextOf 20 21 (.aload_n 0) 1 := ⟨by decide +kernel, rfl⟩
theorem dX5_lastTextOf_21 : dI cX5_lastTextOf 21 24 (.getfield 66) 3 := ⟨by decide +kernel, rfl⟩
theorem dX5_lastTextOf_24 : dI cX5_lastTextOf 24 25 (.iload_n 2) 1 := ⟨by decide +kernel, rfl⟩
theorem dX5_lastTextOf_25 : dI cX5_lastTextOf 25 26 (.aaload) 1 := ⟨by decide +kernel, rfl⟩
theorem dX5_lastTextOf_26 : dI cX5_lastTextOf 26 29 (.getfield 106) 3 := ⟨by decide +kernel, rfl⟩
theorem dX5_lastTextOf_29 : dI cX5_lastTextOf 29 30 (.iload_n 1) 1 := ⟨by decide +kernel, rfl⟩
theorem dX5_lastTextOf_30 : decode cX5_lastTextOf 30 = .ok (.if_icmp .ne 5, 3) := by decide +kernel
theorem dX5_lastTextOf_33 : dI cX5_lastTextOf 33 34 (.iload_n 2) 1 := ⟨by decide +kernel, rfl⟩
theorem dX5_lastTextOf_34 : dI cX5_lastTextOf 34 35 (.ireturn) 1 := ⟨by decide +kernel, rfl⟩
theorem dX5_lastTextOf_35 : dI cX5_lastTextOf 35 38 (.iinc 2 (-1)) 3 := ⟨by decide +kernel, rfl⟩
theorem dX5_lastTextOf_38 : decode cX5_lastTextOf 38 = .ok (.goto (-31), 3) := by decide +kernel
theorem dX5_lastTextOf_41 : dI cX5_lastTextOf 41 42 (.iconst (-1)) 1 := ⟨by decide +kernel, rfl⟩
theorem dX5_lastTextOf_42 : dI cX5_lastTextOf 42 43 (.ireturn) 1 := ⟨by decide +kernel, rfl⟩
def f_X5_lastTextOf_b7 (k7 : Nat → Int32 → Int32 → hS → Option (Int32 × hS)) (l0 : Nat) (l1 : Int32) (l2 : Int32) (s : hS) : Option (Int32 × hS) :=
  if l2 < 0 then
    some ((-1 : Int32), s)
  else
    (gR s l0 5 17).bind fun a1 =>
    (aR s a1 14 l2).bind fun a2 =>
    (gR s l0 5 17).bind fun a3 =>
    (aR s a3 14 l2).bind fun a4 =>
    (gI s a4 4 0).bind fun x5 =>
    if x5 = l1 then
      some (l2, s)
    else
      k7 l0 l1 (l2 + (-1 : Int32)) s
theorem b_X5_lastTextOf_7 (E : jE) (k7 : Nat → Int32 → Int32 → hS → Option (Int32 × hS)) (h7 : ∀ (s : hS) (l0 : Nat) (l1 : Int32) (l2 : Int32) , Jo E M_X5_lastTextOf cvI 7 [(0, .ref l0), (1, .int l1), (2, .int l2)] [] s (k7 l0 l1 l2 s)) (s : hS) (l0 : Nat) (l1 : Int32) (l2 : Int32)  : Jo E M_X5_lastTextOf cvI 7 [(0, .ref l0), (1, .int l1), (2, .int l2)] [] s (f_X5_lastTextOf_b7 k7 l0 l1 l2 s) := by
  unfold f_X5_lastTextOf_b7
  refine Jo_iloadn 2 dX5_lastTextOf_7 rfl rfl ?_
  refine Jo_if_lt 41 dX5_lastTextOf_8 (by decide) rfl ?_ ?_
  · refine Jo_iconst (v := (-1 : Int32)) dX5_lastTextOf_41 (by decide) ?_
    exact Jo_iret rfl dX5_lastTextOf_42
  · refine Jo_aloadn 0 dX5_lastTextOf_11 rfl rfl ?_
    refine Jo_getR fF_5_17 fR_5_17 dX5_lastTextOf_12 w_177 (fun a1 => ?_)
    refine Jo_iloadn 2 dX5_lastTextOf_15 rfl rfl ?_
    refine Jo_aaload hta_14 dX5_lastTextOf_16 (fun a2 => ?_)
    refine Jo_ifnull dX5_lastTextOf_17 rfl ?_
    refine Jo_aloadn 0 dX5_lastTextOf_20 rfl rfl ?_
    refine Jo_getR fF_5_17 fR_5_17 dX5_lastTextOf_21 w_177 (fun a3 => ?_)
    refine Jo_iloadn 2 dX5_lastTextOf_24 rfl rfl ?_
    refine Jo_aaload hta_14 dX5_lastTextOf_25 (fun a4 => ?_)
    refine Jo_getI fF_4_0 fI_4_0 dX5_lastTextOf_26 w_271 (fun x5 => ?_)
    refine Jo_iloadn 1 dX5_lastTextOf_29 rfl rfl ?_
    refine Jo_icmp_ne 35 dX5_lastTextOf_30 (by decide) rfl ?_ ?_
    · refine Jo_iloadn 2 dX5_lastTextOf_33 rfl rfl ?_
      exact Jo_iret rfl dX5_lastTextOf_34
    · refine Jo_iinc (v := (l2 + (-1 : Int32))) (ls' := [(2, .int (l2 + (-1 : Int32))), (0, .ref l0), (1, .int l1)]) 2 dX5_lastTextOf_35 rfl rfl (by decide) rfl ?_
      refine Jo_goto 7 dX5_lastTextOf_38 (by decide) ?_
      refine Jo_sub [1, 2, 0] rfl ?_
      exact h7 s l0 l1 (l2 + (-1 : Int32))
theorem e_X5_lastTextOf_7 (E : jE)  (n : Nat) : ∀ (s : hS) (l0 : Nat) (l1 : Int32) (l2 : Int32) , Jo E M_X5_lastTextOf cvI 7 [(0, .ref l0), (1, .int l1), (2, .int l2)] [] s ((jL f_X5_lastTextOf_b7 (fun _ _ _ _ => none) n) l0 l1 l2 s) :=
  jL_ind (P := fun f => ∀ (s : hS) (l0 : Nat) (l1 : Int32) (l2 : Int32) , Jo E M_X5_lastTextOf cvI 7 [(0, .ref l0), (1, .int l1), (2, .int l2)] [] s (f l0 l1 l2 s)) (fun _ _ _ _ => Jo_none) (fun b hb s l0 l1 l2 => b_X5_lastTextOf_7 E  b hb s l0 l1 l2) n
def f_X5_lastTextOf (s : hS) (a0 : Nat) (i1 : Int32) : Option (Int32 × hS) :=
  (gI s a0 5 4).bind fun x1 =>
  nmv ((x1 - (1 : Int32))) fun x2 =>
  jL f_X5_lastTextOf_b7 (fun _ _ _ _ => none) jF a0 i1 x2 s
theorem b_X5_lastTextOf_in (E : jE)  (s : hS) (a0 : Nat) (i1 : Int32)  : Jo E M_X5_lastTextOf cvI 0 [(0, .ref a0), (1, .int i1)] [] s (f_X5_lastTextOf s a0 i1) := by
  unfold f_X5_lastTextOf
  refine Jo_aloadn 0 dX5_lastTextOf_0 rfl rfl ?_
  refine Jo_getI fF_5_4 fI_5_4 dX5_lastTextOf_1 w_191 (fun x1 => ?_)
  refine Jo_iconst (v := (1 : Int32)) dX5_lastTextOf_4 (by decide) ?_
  refine Jo_isub dX5_lastTextOf_5 ?_
  refine Jo_nm (fun x2 => ?_)
  refine Jo_istoren (ls' := [(2, .int x2), (0, .ref a0), (1, .int i1)]) dX5_lastTextOf_6 rfl (by decide) rfl ?_
  refine Jo_sub [1, 2, 0] rfl ?_
  exact e_X5_lastTextOf_7 E jF s a0 i1 x2
theorem K_X5_lastTextOf (E : jE) (s : hS) (a0 : Nat) (i1 : Int32) : jK E yX5_lastTextOf M_X5_lastTextOf cvI [.ref a0, .int i1] s (f_X5_lastTextOf s a0 i1) := jK_of ⟨by decide, rfl, rfl⟩ (Nat.le_of_ble_eq_true rfl) (b_X5_lastTextOf_in E s a0 i1)
/-! HeronTalk.held(III)I -/
abbrev M_X6_held : jM := (RX6, cX6_held, 3, (some .int), "held", 1, 21)
theorem yF_X6_held : yF yX6_held M_X6_held 3 := ⟨w_277, w_278, by decide +kernel⟩
theorem yS_X6_held : Cond.static yX6_held ∈ tbG := w_279
theorem dX6_held_0 : dI cX6_held 0 1 (.iload_n 1) 1 := ⟨by decide +kernel, rfl⟩
theorem dX6_held_1 : dI cX6_held 1 2 (.iload_n 2) 1 := ⟨by decide +kernel, rfl⟩
theorem dX6_held_2 : dI cX6_held 2 3 (.iload_n 0) 1 := ⟨by decide +kernel, rfl⟩
theorem dX6_held_3 : dI cX6_held 3 6 (.invokestatic 210) 3 := ⟨by decide +kernel, rfl⟩
theorem dX6_held_6 : dI cX6_held 6 9 (.invokestatic 330) 3 := ⟨by decide +kernel, rfl⟩
theorem dX6_held_9 : dI cX6_held 9 10 (.ireturn) 1 := ⟨by decide +kernel, rfl⟩
def f_X6_held (s : hS) (i0 : Int32) (i1 : Int32) (i2 : Int32) : Option (Int32 × hS) :=
  some ((if i1 < (if i0 < i2 then i0 else i2) then (if i0 < i2 then i0 else i2) else i1), s)
theorem b_X6_held_in (E : jE)  (s : hS) (i0 : Int32) (i1 : Int32) (i2 : Int32)  : Jo E M_X6_held cvI 0 [(0, .int i0), (1, .int i1), (2, .int i2)] [] s (f_X6_held s i0 i1 i2) := by
  unfold f_X6_held
  refine Jo_iloadn 1 dX6_held_0 rfl rfl ?_
  refine Jo_iloadn 2 dX6_held_1 rfl rfl ?_
  refine Jo_iloadn 0 dX6_held_2 rfl rfl ?_
  refine Jo_min dX6_held_3 ⟨w_276, w_min1, w_math, w_min2⟩ ⟨by decide, Nat.le_of_ble_eq_true rfl⟩ ?_
  refine Jo_max dX6_held_6 ⟨w_275, w_max1, w_math, w_max2⟩ ⟨by decide, Nat.le_of_ble_eq_true rfl⟩ ?_
  exact Jo_iret rfl dX6_held_9
theorem K_X6_held (E : jE) (s : hS) (i0 : Int32) (i1 : Int32) (i2 : Int32) : jK E yX6_held M_X6_held cvI [.int i0, .int i1, .int i2] s (f_X6_held s i0 i1 i2) := jK_of ⟨by decide, rfl, rfl⟩ (Nat.le_of_ble_eq_true rfl) (b_X6_held_in E s i0 i1 i2)
/-! HeronTalk$Town.priceOf(II)I -/
abbrev M_X5_priceOf : jM := (RX5, cX5_priceOf, 6, (some .int), "priceOf", 2, 43)
theorem yF_X5_priceOf : yF yX5_priceOf M_X5_priceOf 2 := ⟨w_283, w_198, by decide +kernel⟩
theorem yV_X5_priceOf : Cond.instanceMethod yX5_priceOf ∈ tbG ∧ Cond.selects yX5_priceOf.cls yX5_priceOf yX5_priceOf ∈ tbG := ⟨w_284, w_285⟩
theorem dX5_priceOf_0 : dI cX5_priceOf 0 1 (.aload_n 0) 1 := ⟨by decide +kernel, rfl⟩
theorem dX5_priceOf_1 : dI cX5_priceOf 1 4 (.getfield 46) 3 := ⟨by decide +kernel, rfl⟩
theorem dX5_priceOf_4 : dI cX5_priceOf 4 5 (.iload_n 2) 1 := ⟨by decide +kernel, rfl⟩
theorem dX5_priceOf_5 : dI cX5_priceOf 5 6 (.iaload) 1 := ⟨by decide +kernel, rfl⟩
theorem dX5_priceOf_6 : dI cX5_priceOf 6 7 (.iload_n 1) 1 := ⟨by decide +kernel, rfl⟩
theorem dX5_priceOf_7 : dI cX5_priceOf 7 8 (.ishr) 1 := ⟨by decide +kernel, rfl⟩
theorem dX5_priceOf_8 : dI cX5_priceOf 8 9 (.iconst 1) 1 := ⟨by decide +kernel, rfl⟩
theorem dX5_priceOf_9 : dI cX5_priceOf 9 10 (.iand) 1 := ⟨by decide +kernel, rfl⟩
theorem dX5_priceOf_10 : dI cX5_priceOf 10 11 (.istore_n 3) 1 := ⟨by decide +kernel, rfl⟩
theorem dX5_priceOf_11 : dI cX5_priceOf 11 12 (.aload_n 0) 1 := ⟨by decide +kernel, rfl⟩
theorem dX5_priceOf_12 : dI cX5_priceOf 12 13 (.iconst 0) 1 := ⟨by decide +kernel, rfl⟩
theorem dX5_priceOf_13 : decode cX5_priceOf 13 = .ok (.invokevirtual 109, 3) := by decide +kernel
theorem dX5_priceOf_16 : dI cX5_priceOf 16 18 (.istore 4) 2 := ⟨by decide +kernel, rfl⟩
theorem dX5_priceOf_18 : dI cX5_priceOf 18 20 (.iload 4) 2 := ⟨by decide +kernel, rfl⟩
theorem dX5_priceOf_20 : dI cX5_priceOf 20 21 (.iconst (-1)) 1 := ⟨by decide +kernel, rfl⟩
theorem dX5_priceOf_21 : decode cX5_priceOf 21 = .ok (.if_icmp .ne 17, 3) := by decide +kernel
theorem dX5_priceOf_24 : dI cX5_priceOf 24 25 (.aload_n 0) 1 := ⟨by decide +kernel, rfl⟩
theorem dX5_priceOf_25 : dI cX5_priceOf 25 28 (.getfield 36) 3 := ⟨by decide +kernel, rfl⟩
theorem dX5_priceOf_28 : dI cX5_priceOf 28 29 (.iload_n 1) 1 := ⟨by decide +kernel, rfl⟩
theorem dX5_priceOf_29 : dI cX5_priceOf 29 30 (.iaload) 1 := ⟨by decide +kernel, rfl⟩
theorem dX5_priceOf_30 : dI cX5_priceOf 30 32 (.bipush 100) 2 := ⟨by decide +kernel, rfl⟩
theorem dX5_priceOf_32 : dI cX5_priceOf 32 33 (.iload_n 3) 1 := ⟨by decide +kernel, rfl⟩
theorem dX5_priceOf_33 : dI cX5_priceOf 33 34 (.imul) 1 := ⟨by decide +kernel, rfl⟩
theorem dX5_priceOf_34 : dI cX5_priceOf 34 35 (.iadd) 1 := ⟨by decide +kernel, rfl⟩
theorem dX5_priceOf_35 : decode cX5_priceOf 35 = .ok (.goto 25, 3) := by decide +kernel
theorem dX5_priceOf_38 : dI cX5_priceOf 38 39 (.aload_n 0) 1 := ⟨by decide +kernel, rfl⟩
theorem dX5_priceOf_39 : dI cX5_priceOf 39 42 (.getfield 66) 3 := ⟨by decide +kernel, rfl⟩
theorem dX5_priceOf_42 : dI cX5_priceOf 42 44 (.iload 4) 2 := ⟨by decide +kernel, rfl⟩
theorem dX5_priceOf_44 : dI cX5_priceOf 44 45 (.aaload) 1 := ⟨by decide +kernel, rfl⟩
theorem dX5_priceOf_45 : dI cX5_priceOf 45 46 (.aload_n 0) 1 := ⟨by decide +kernel, rfl⟩
theorem dX5_priceOf_46 : dI cX5_priceOf 46 49 (.getfield 36) 3 := ⟨by decide +kernel, rfl⟩
theorem dX5_priceOf_49 : dI cX5_priceOf 49 50 (.iload_n 1) 1 := ⟨by decide +kernel, rfl⟩
theorem dX5_priceOf_50 : dI cX5_priceOf 50 51 (.iaload) 1 := ⟨by decide +kernel, rfl⟩
theorem dX5_priceOf_51 : dI cX5_priceOf 51 52 (.iload_n 3) 1 := ⟨by decide +kernel, rfl⟩
theorem dX5_priceOf_52 : dI cX5_priceOf 52 53 (.aload_n 0) 1 := ⟨by decide +kernel, rfl⟩
theorem dX5_priceOf_53 : dI cX5_priceOf 53 54 (.iload_n 1) 1 := ⟨by decide +kernel, rfl⟩
theorem dX5_priceOf_54 : decode cX5_priceOf 54 = .ok (.invokevirtual 112, 3) := by decide +kernel
theorem dX5_priceOf_57 : decode cX5_priceOf 57 = .ok (.invokevirtual 115, 3) := by decide +kernel
theorem dX5_priceOf_60 : dI cX5_priceOf 60 62 (.istore 5) 2 := ⟨by decide +kernel, rfl⟩
theorem dX5_priceOf_62 : dI cX5_priceOf 62 64 (.iload 5) 2 := ⟨by decide +kernel, rfl⟩
theorem dX5_priceOf_64 : dI cX5_priceOf 64 65 (.iconst 0) 1 := ⟨by decide +kernel, rfl⟩
theorem dX5_priceOf_65 : dI cX5_priceOf 65 68 (.sipush 999) 3 := ⟨by decide +kernel, rfl⟩
theorem dX5_priceOf_68 : decode cX5_priceOf 68 = .ok (.invokestatic 119, 3) := by decide +kernel
theorem dX5_priceOf_71 : dI cX5_priceOf 71 72 (.ireturn) 1 := ⟨by decide +kernel, rfl⟩
def f_X5_priceOf_b60 (t0 : Int32) (s : hS) : Option (Int32 × hS) :=
  (f_X6_held s t0 (0 : Int32) (999 : Int32)).bind fun p1 =>
  some (p1.1, p1.2)
theorem b_X5_priceOf_60 (E : jE)  (s : hS)  (t0 : Int32) : Jo E M_X5_priceOf cvI 60 [] [.int t0] s (f_X5_priceOf_b60  t0 s) := by
  unfold f_X5_priceOf_b60
  refine Jo_istore (ls' := [(5, .int t0)]) dX5_priceOf_60 (by decide) rfl ?_
  refine Jo_iload 0 dX5_priceOf_62 rfl ?_
  refine Jo_iconst (v := (0 : Int32)) dX5_priceOf_64 (by decide) ?_
  refine Jo_sipush (v := (999 : Int32)) dX5_priceOf_65 (by decide) ?_
  refine Jo_callNi (rest := []) [.int t0, .int (0 : Int32), .int (999 : Int32)] yF_X6_held yS_X6_held nl_X6_held rfl rfl ⟨Nat.le_of_ble_eq_true rfl, Nat.le_of_ble_eq_true rfl, Nat.le_of_ble_eq_true rfl⟩ dX5_priceOf_68 rfl (K_X6_held E s t0 (0 : Int32) (999 : Int32)) (fun p1 => ?_)
  exact Jo_iret rfl dX5_priceOf_71
def f_X5_priceOf (s : hS) (a0 : Nat) (i1 : Int32) (i2 : Int32) : Option (Int32 × hS) :=
  (gR s a0 5 11).bind fun a1 =>
  (aI s a1 10 i2).bind fun x2 =>
  nmv (((x2 >>> (i1 &&& 31)) &&& (1 : Int32))) fun x3 =>
  (cV s a0 5 (f_X5_lastTextOf s a0 (0 : Int32))).bind fun p4 =>
  if p4.1 = (-1 : Int32) then
    (gR p4.2 a0 5 8).bind fun a11 =>
    (aI p4.2 a11 10 i1).bind fun x12 =>
    f_X5_priceOf_b60 (x12 + ((100 : Int32) * x3)) p4.2
  else
    (gR p4.2 a0 5 17).bind fun a5 =>
    (aR p4.2 a5 14 p4.1).bind fun a6 =>
    (gR p4.2 a0 5 8).bind fun a7 =>
    (aI p4.2 a7 10 i1).bind fun x8 =>
    (cV p4.2 a0 5 (f_X5_howManyKnow p4.2 a0 i1)).bind fun p9 =>
    (cV p9.2 a6 4 (f_X4_valueFor p9.2 a6 x8 x3 p9.1)).bind fun p10 =>
    f_X5_priceOf_b60 p10.1 p10.2
theorem b_X5_priceOf_in (E : jE)  (s : hS) (a0 : Nat) (i1 : Int32) (i2 : Int32)  : Jo E M_X5_priceOf cvI 0 [(0, .ref a0), (1, .int i1), (2, .int i2)] [] s (f_X5_priceOf s a0 i1 i2) := by
  unfold f_X5_priceOf
  refine Jo_aloadn 0 dX5_priceOf_0 rfl rfl ?_
  refine Jo_getR fF_5_11 fR_5_11 dX5_priceOf_1 w_184 (fun a1 => ?_)
  refine Jo_iloadn 2 dX5_priceOf_4 rfl rfl ?_
  refine Jo_iaload dX5_priceOf_5 (fun x2 => ?_)
  refine Jo_iloadn 1 dX5_priceOf_6 rfl rfl ?_
  refine Jo_ishr dX5_priceOf_7 ?_
  refine Jo_iconst (v := (1 : Int32)) dX5_priceOf_8 (by decide) ?_
  refine Jo_iand dX5_priceOf_9 ?_
  refine Jo_nm (fun x3 => ?_)
  refine Jo_istoren (ls' := [(3, .int x3), (0, .ref a0), (1, .int i1), (2, .int i2)]) dX5_priceOf_10 rfl (by decide) rfl ?_
  refine Jo_aloadn 1 dX5_priceOf_11 rfl rfl ?_
  refine Jo_iconst (v := (0 : Int32)) dX5_priceOf_12 (by decide) ?_
  refine Jo_callVi (a := a0) (rest := []) [.int (0 : Int32)] cc_5 yF_X5_lastTextOf yV_X5_lastTextOf w_282 rfl rfl ⟨Nat.le_of_ble_eq_true rfl, Nat.le_of_ble_eq_true rfl, Nat.le_of_ble_eq_true rfl⟩ dX5_priceOf_13 rfl (K_X5_lastTextOf E s a0 (0 : Int32)) (fun p4 => ?_)
  refine Jo_istore (ls' := [(4, .int p4.1), (3, .int x3), (0, .ref a0), (1, .int i1), (2, .int i2)]) dX5_priceOf_16 (by decide) rfl ?_
  refine Jo_iload 0 dX5_priceOf_18 rfl ?_
  refine Jo_iconst (v := (-1 : Int32)) dX5_priceOf_20 (by decide) ?_
  refine Jo_icmp_ne 38 dX5_priceOf_21 (by decide) rfl ?_ ?_
  · refine Jo_aloadn 2 dX5_priceOf_24 rfl rfl ?_
    refine Jo_getR fF_5_8 fR_5_8 dX5_priceOf_25 w_187 (fun a11 => ?_)
    refine Jo_iloadn 3 dX5_priceOf_28 rfl rfl ?_
    refine Jo_iaload dX5_priceOf_29 (fun x12 => ?_)
    refine Jo_bipush (v := (100 : Int32)) dX5_priceOf_30 (by decide) ?_
    refine Jo_iloadn 1 dX5_priceOf_32 rfl rfl ?_
    refine Jo_imul dX5_priceOf_33 ?_
    refine Jo_iadd dX5_priceOf_34 ?_
    refine Jo_goto 60 dX5_priceOf_35 (by decide) ?_
    refine Jo_sub [] rfl ?_
    exact b_X5_priceOf_60 E p4.2 (x12 + ((100 : Int32) * x3))
  · refine Jo_aloadn 2 dX5_priceOf_38 rfl rfl ?_
    refine Jo_getR fF_5_17 fR_5_17 dX5_priceOf_39 w_177 (fun a5 => ?_)
    refine Jo_iload 0 dX5_priceOf_42 rfl ?_
    refine Jo_aaload hta_14 dX5_priceOf_44 (fun a6 => ?_)
    refine Jo_aloadn 2 dX5_priceOf_45 rfl rfl ?_
    refine Jo_getR fF_5_8 fR_5_8 dX5_priceOf_46 w_187 (fun a7 => ?_)
    refine Jo_iloadn 3 dX5_priceOf_49 rfl rfl ?_
    refine Jo_iaload dX5_priceOf_50 (fun x8 => ?_)
    refine Jo_iloadn 1 dX5_priceOf_51 rfl rfl ?_
    refine Jo_aloadn 2 dX5_priceOf_52 rfl rfl ?_
    refine Jo_iloadn 3 dX5_priceOf_53 rfl rfl ?_
    refine Jo_callVi (a := a0) (rest := [.int x3, .int x8, .ref a6]) [.int i1] cc_5 yF_X5_howManyKnow yV_X5_howManyKnow w_281 rfl rfl ⟨Nat.le_of_ble_eq_true rfl, Nat.le_of_ble_eq_true rfl, Nat.le_of_ble_eq_true rfl⟩ dX5_priceOf_54 rfl (K_X5_howManyKnow E p4.2 a0 i1) (fun p9 => ?_)
    refine Jo_callVi (a := a6) (rest := []) [.int x8, .int x3, .int p9.1] cc_4 yF_X4_valueFor yV_X4_valueFor w_280 rfl rfl ⟨Nat.le_of_ble_eq_true rfl, Nat.le_of_ble_eq_true rfl, Nat.le_of_ble_eq_true rfl⟩ dX5_priceOf_57 rfl (K_X4_valueFor E p9.2 a6 x8 x3 p9.1) (fun p10 => ?_)
    refine Jo_sub [] rfl ?_
    exact b_X5_priceOf_60 E p10.2 p10.1
theorem K_X5_priceOf (E : jE) (s : hS) (a0 : Nat) (i1 : Int32) (i2 : Int32) : jK E yX5_priceOf M_X5_priceOf cvI [.ref a0, .int i1, .int i2] s (f_X5_priceOf s a0 i1 i2) := jK_of ⟨by decide, rfl, rfl⟩ (Nat.le_of_ble_eq_true rfl) (b_X5_priceOf_in E s a0 i1 i2)
/-! HeronTalk$Town.lookFor(I)I -/
abbrev M_X5_lookFor : jM := (RX5, cX5_lookFor, 5, (some .int), "lookFor", 2, 43)
theorem yF_X5_lookFor : yF yX5_lookFor M_X5_lookFor 1 := ⟨w_286, w_198, by decide +kernel⟩
theorem yV_X5_lookFor : Cond.instanceMethod yX5_lookFor ∈ tbG ∧ Cond.selects yX5_lookFor.cls yX5_lookFor yX5_lookFor ∈ tbG := ⟨w_287, w_288⟩
theorem dX5_lookFor_0 : dI cX5_lookFor 0 1 (.aload_n 0) 1 := ⟨by decide +kernel, rfl⟩
theorem dX5_lookFor_1 : dI cX5_lookFor 1 2 (.iload_n 1) 1 := ⟨by decide +kernel, rfl⟩
theorem dX5_lookFor_2 : decode cX5_lookFor 2 = .ok (.invokevirtual 112, 3) := by decide +kernel
theorem dX5_lookFor_5 : dI cX5_lookFor 5 6 (.istore_n 2) 1 := ⟨by decide +kernel, rfl⟩
theorem dX5_lookFor_6 : dI cX5_lookFor 6 7 (.aload_n 0) 1 := ⟨by decide +kernel, rfl⟩
theorem dX5_lookFor_7 : dI cX5_lookFor 7 8 (.iconst 1) 1 := ⟨by decide +kernel, rfl⟩
theorem dX5_lookFor_8 : decode cX5_lookFor 8 = .ok (.invokevirtual 109, 3) := by decide +kernel
theorem dX5_lookFor_11 : dI cX5_lookFor 11 12 (.istore_n 3) 1 := ⟨by decide +kernel, rfl⟩
theorem dX5_lookFor_12 : dI cX5_lookFor 12 13 (.iload_n 3) 1 := ⟨by decide +kernel, rfl⟩
theorem dX5_lookFor_13 : dI cX5_lookFor 13 14 (.iconst (-1)) 1 := ⟨by decide +kernel, rfl⟩
theorem dX5_lookFor_14 : decode cX5_lookFor 14 = .ok (.if_icmp .ne 10, 3) := by decide +kernel
theorem dX5_lookFor_17 : dI cX5_lookFor 17 19 (.bipush 10) 2 := ⟨by decide +kernel, rfl⟩
theorem dX5_lookFor_19 : dI cX5_lookFor 19 20 (.iload_n 2) 1 := ⟨by decide +kernel, rfl⟩
theorem dX5_lookFor_20 : dI cX5_lookFor 20 21 (.isub) 1 := ⟨by decide +kernel, rfl⟩
theorem dX5_lookFor_21 : decode cX5_lookFor 21 = .ok (.goto 20, 3) := by decide +kernel
theorem dX5_lookFor_24 : dI cX5_lookFor 24 25 (.aload_n 0) 1 := ⟨by decide +kernel, rfl⟩
theorem dX5_lookFor_25 : dI cX5_lookFor 25 28 (.getfield 66) 3 := ⟨by decide +kernel, rfl⟩
theorem dX5_lookFor_28 : dI cX5_lookFor 28 29 (.iload_n 3) 1 := ⟨by decide +kernel, rfl⟩
theorem dX5_lookFor_29 : dI cX5_lookFor 29 30 (.aaload) 1 := ⟨by decide +kernel, rfl⟩
theorem dX5_lookFor_30 : dI cX5_lookFor 30 31 (.aload_n 0) 1 := ⟨by decide +kernel, rfl⟩
theorem dX5_lookFor_31 : dI cX5_lookFor 31 34 (.getfield 36) 3 := ⟨by decide +kernel, rfl⟩
theorem dX5_lookFor_34 : dI cX5_lookFor 34 35 (.iload_n 1) 1 := ⟨by decide +kernel, rfl⟩
theorem dX5_lookFor_35 : dI cX5_lookFor 35 36 (.iaload) 1 := ⟨by decide +kernel, rfl⟩
theorem dX5_lookFor_36 : dI cX5_lookFor 36 37 (.iconst 0) 1 := ⟨by decide +kernel, rfl⟩
theorem dX5_lookFor_37 : dI cX5_lookFor 37 38 (.iload_n 2) 1 := ⟨by decide +kernel, rfl⟩
theorem dX5_lookFor_38 : decode cX5_lookFor 38 = .ok (.invokevirtual 115, 3) := by decide +kernel
theorem dX5_lookFor_41 : dI cX5_lookFor 41 43 (.istore 4) 2 := ⟨by decide +kernel, rfl⟩
theorem dX5_lookFor_43 : dI cX5_lookFor 43 45 (.iload 4) 2 := ⟨by decide +kernel, rfl⟩
theorem dX5_lookFor_45 : dI cX5_lookFor 45 46 (.iconst 1) 1 := ⟨by decide +kernel, rfl⟩
theorem dX5_lookFor_46 : dI cX5_lookFor 46 48 (.bipush 99) 2 := ⟨by decide +kernel, rfl⟩
theorem dX5_lookFor_48 : decode cX5_lookFor 48 = .ok (.invokestatic 119, 3) := by decide +kernel
theorem dX5_lookFor_51 : dI cX5_lookFor 51 52 (.ireturn) 1 := ⟨by decide +kernel, rfl⟩
def f_X5_lookFor_b41 (t0 : Int32) (s : hS) : Option (Int32 × hS) :=
  (f_X6_held s t0 (1 : Int32) (99 : Int32)).bind fun p1 =>
  some (p1.1, p1.2)
theorem b_X5_lookFor_41 (E : jE)  (s : hS)  (t0 : Int32) : Jo E M_X5_lookFor cvI 41 [] [.int t0] s (f_X5_lookFor_b41  t0 s) := by
  unfold f_X5_lookFor_b41
  refine Jo_istore (ls' := [(4, .int t0)]) dX5_lookFor_41 (by decide) rfl ?_
  refine Jo_iload 0 dX5_lookFor_43 rfl ?_
  refine Jo_iconst (v := (1 : Int32)) dX5_lookFor_45 (by decide) ?_
  refine Jo_bipush (v := (99 : Int32)) dX5_lookFor_46 (by decide) ?_
  refine Jo_callNi (rest := []) [.int t0, .int (1 : Int32), .int (99 : Int32)] yF_X6_held yS_X6_held nl_X6_held rfl rfl ⟨Nat.le_of_ble_eq_true rfl, Nat.le_of_ble_eq_true rfl, Nat.le_of_ble_eq_true rfl⟩ dX5_lookFor_48 rfl (K_X6_held E s t0 (1 : Int32) (99 : Int32)) (fun p1 => ?_)
  exact Jo_iret rfl dX5_lookFor_51
def f_X5_lookFor (s : hS) (a0 : Nat) (i1 : Int32) : Option (Int32 × hS) :=
  (cV s a0 5 (f_X5_howManyKnow s a0 i1)).bind fun p1 =>
  (cV p1.2 a0 5 (f_X5_lastTextOf p1.2 a0 (1 : Int32))).bind fun p2 =>
  if p2.1 = (-1 : Int32) then
    f_X5_lookFor_b41 ((10 : Int32) - p1.1) p2.2
  else
    (gR p2.2 a0 5 17).bind fun a3 =>
    (aR p2.2 a3 14 p2.1).bind fun a4 =>
    (gR p2.2 a0 5 8).bind fun a5 =>
    (aI p2.2 a5 10 i1).bind fun x6 =>
    (cV p2.2 a4 4 (f_X4_valueFor p2.2 a4 x6 (0 : Int32) p1.1)).bind fun p7 =>
    f_X5_lookFor_b41 p7.1 p7.2
theorem b_X5_lookFor_in (E : jE)  (s : hS) (a0 : Nat) (i1 : Int32)  : Jo E M_X5_lookFor cvI 0 [(0, .ref a0), (1, .int i1)] [] s (f_X5_lookFor s a0 i1) := by
  unfold f_X5_lookFor
  refine Jo_aloadn 0 dX5_lookFor_0 rfl rfl ?_
  refine Jo_iloadn 1 dX5_lookFor_1 rfl rfl ?_
  refine Jo_callVi (a := a0) (rest := []) [.int i1] cc_5 yF_X5_howManyKnow yV_X5_howManyKnow w_281 rfl rfl ⟨Nat.le_of_ble_eq_true rfl, Nat.le_of_ble_eq_true rfl, Nat.le_of_ble_eq_true rfl⟩ dX5_lookFor_2 rfl (K_X5_howManyKnow E s a0 i1) (fun p1 => ?_)
  refine Jo_istoren (ls' := [(2, .int p1.1), (0, .ref a0), (1, .int i1)]) dX5_lookFor_5 rfl (by decide) rfl ?_
  refine Jo_aloadn 1 dX5_lookFor_6 rfl rfl ?_
  refine Jo_iconst (v := (1 : Int32)) dX5_lookFor_7 (by decide) ?_
  refine Jo_callVi (a := a0) (rest := []) [.int (1 : Int32)] cc_5 yF_X5_lastTextOf yV_X5_lastTextOf w_282 rfl rfl ⟨Nat.le_of_ble_eq_true rfl, Nat.le_of_ble_eq_true rfl, Nat.le_of_ble_eq_true rfl⟩ dX5_lookFor_8 rfl (K_X5_lastTextOf E p1.2 a0 (1 : Int32)) (fun p2 => ?_)
  refine Jo_istoren (ls' := [(3, .int p2.1), (2, .int p1.1), (0, .ref a0), (1, .int i1)]) dX5_lookFor_11 rfl (by decide) rfl ?_
  refine Jo_iloadn 0 dX5_lookFor_12 rfl rfl ?_
  refine Jo_iconst (v := (-1 : Int32)) dX5_lookFor_13 (by decide) ?_
  refine Jo_icmp_ne 24 dX5_lookFor_14 (by decide) rfl ?_ ?_
  · refine Jo_bipush (v := (10 : Int32)) dX5_lookFor_17 (by decide) ?_
    refine Jo_iloadn 1 dX5_lookFor_19 rfl rfl ?_
    refine Jo_isub dX5_lookFor_20 ?_
    refine Jo_goto 41 dX5_lookFor_21 (by decide) ?_
    refine Jo_sub [] rfl ?_
    exact b_X5_lookFor_41 E p2.2 ((10 : Int32) - p1.1)
  · refine Jo_aloadn 2 dX5_lookFor_24 rfl rfl ?_
    refine Jo_getR fF_5_17 fR_5_17 dX5_lookFor_25 w_177 (fun a3 => ?_)
    refine Jo_iloadn 0 dX5_lookFor_28 rfl rfl ?_
    refine Jo_aaload hta_14 dX5_lookFor_29 (fun a4 => ?_)
    refine Jo_aloadn 2 dX5_lookFor_30 rfl rfl ?_
    refine Jo_getR fF_5_8 fR_5_8 dX5_lookFor_31 w_187 (fun a5 => ?_)
    refine Jo_iloadn 3 dX5_lookFor_34 rfl rfl ?_
    refine Jo_iaload dX5_lookFor_35 (fun x6 => ?_)
    refine Jo_iconst (v := (0 : Int32)) dX5_lookFor_36 (by decide) ?_
    refine Jo_iloadn 1 dX5_lookFor_37 rfl rfl ?_
    refine Jo_callVi (a := a4) (rest := []) [.int x6, .int (0 : Int32), .int p1.1] cc_4 yF_X4_valueFor yV_X4_valueFor w_280 rfl rfl ⟨Nat.le_of_ble_eq_true rfl, Nat.le_of_ble_eq_true rfl, Nat.le_of_ble_eq_true rfl⟩ dX5_lookFor_38 rfl (K_X4_valueFor E p2.2 a4 x6 (0 : Int32) p1.1) (fun p7 => ?_)
    refine Jo_sub [] rfl ?_
    exact b_X5_lookFor_41 E p7.2 p7.1
theorem K_X5_lookFor (E : jE) (s : hS) (a0 : Nat) (i1 : Int32) : jK E yX5_lookFor M_X5_lookFor cvI [.ref a0, .int i1] s (f_X5_lookFor s a0 i1) := jK_of ⟨by decide, rfl, rfl⟩ (Nat.le_of_ble_eq_true rfl) (b_X5_lookFor_in E s a0 i1)
/-! HeronTalk$Town.fineNow()I -/
abbrev M_X5_fineNow : jM := (RX5, cX5_fineNow, 2, (some .int), "fineNow", 1, 28)
theorem yF_X5_fineNow : yF yX5_fineNow M_X5_fineNow 0 := ⟨w_289, w_198, by decide +kernel⟩
theorem yV_X5_fineNow : Cond.instanceMethod yX5_fineNow ∈ tbG ∧ Cond.selects yX5_fineNow.cls yX5_fineNow yX5_fineNow ∈ tbG := ⟨w_290, w_291⟩
theorem dX5_fineNow_0 : dI cX5_fineNow 0 1 (.aload_n 0) 1 := ⟨by decide +kernel, rfl⟩
theorem dX5_fineNow_1 : dI cX5_fineNow 1 2 (.iconst 2) 1 := ⟨by decide +kernel, rfl⟩
theorem dX5_fineNow_2 : decode cX5_fineNow 2 = .ok (.invokevirtual 109, 3) := by decide +kernel
theorem dX5_fineNow_5 : dI cX5_fineNow 5 6 (.istore_n 1) 1 := ⟨by decide +kernel, rfl⟩
theorem dX5_fineNow_6 : dI cX5_fineNow 6 7 (.iload_n 1) 1 := ⟨by decide +kernel, rfl⟩
theorem dX5_fineNow_7 : dI cX5_fineNow 7 8 (.iconst (-1)) 1 := ⟨by decide +kernel, rfl⟩
theorem dX5_fineNow_8 : decode cX5_fineNow 8 = .ok (.if_icmp .ne 7, 3) := by decide +kernel
theorem dX5_fineNow_11 : dI cX5_fineNow 11 12 (.iconst 0) 1 := ⟨by decide +kernel, rfl⟩
theorem dX5_fineNow_12 : decode cX5_fineNow 12 = .ok (.goto 21, 3) := by decide +kernel
theorem dX5_fineNow_15 : dI cX5_fineNow 15 16 (.aload_n 0) 1 := ⟨by decide +kernel, rfl⟩
theorem dX5_fineNow_16 : dI cX5_fineNow 16 19 (.getfield 66) 3 := ⟨by decide +kernel, rfl⟩
theorem dX5_fineNow_19 : dI cX5_fineNow 19 20 (.iload_n 1) 1 := ⟨by decide +kernel, rfl⟩
theorem dX5_fineNow_20 : dI cX5_fineNow 20 21 (.aaload) 1 := ⟨by decide +kernel, rfl⟩
theorem dX5_fineNow_21 : dI cX5_fineNow 21 22 (.aload_n 0) 1 := ⟨by decide +kernel, rfl⟩
theorem dX5_fineNow_22 : dI cX5_fineNow 22 25 (.getfield 30) 3 := ⟨by decide +kernel, rfl⟩
theorem dX5_fineNow_25 : dI cX5_fineNow 25 26 (.aload_n 0) 1 := ⟨by decide +kernel, rfl⟩
theorem dX5_fineNow_26 : dI cX5_fineNow 26 29 (.getfield 27) 3 := ⟨by decide +kernel, rfl⟩
theorem dX5_fineNow_29 : dI cX5_fineNow 29 30 (.iconst 0) 1 := ⟨by decide +kernel, rfl⟩
theorem dX5_fineNow_30 : decode cX5_fineNow 30 = .ok (.invokevirtual 115, 3) := by decide +kernel
theorem dX5_fineNow_33 : dI cX5_fineNow 33 34 (.ireturn) 1 := ⟨by decide +kernel, rfl⟩
def f_X5_fineNow (s : hS) (a0 : Nat) : Option (Int32 × hS) :=
  (cV s a0 5 (f_X5_lastTextOf s a0 (2 : Int32))).bind fun p1 =>
  if p1.1 = (-1 : Int32) then
    some ((0 : Int32), p1.2)
  else
    (gR p1.2 a0 5 17).bind fun a2 =>
    (aR p1.2 a2 14 p1.1).bind fun a3 =>
    (gI p1.2 a0 5 6).bind fun x4 =>
    (gI p1.2 a0 5 5).bind fun x5 =>
    (cV p1.2 a3 4 (f_X4_valueFor p1.2 a3 x4 x5 (0 : Int32))).bind fun p6 =>
    some (p6.1, p6.2)
theorem b_X5_fineNow_in (E : jE)  (s : hS) (a0 : Nat)  : Jo E M_X5_fineNow cvI 0 [(0, .ref a0)] [] s (f_X5_fineNow s a0) := by
  unfold f_X5_fineNow
  refine Jo_aloadn 0 dX5_fineNow_0 rfl rfl ?_
  refine Jo_iconst (v := (2 : Int32)) dX5_fineNow_1 (by decide) ?_
  refine Jo_callVi (a := a0) (rest := []) [.int (2 : Int32)] cc_5 yF_X5_lastTextOf yV_X5_lastTextOf w_282 rfl rfl ⟨Nat.le_of_ble_eq_true rfl, Nat.le_of_ble_eq_true rfl, Nat.le_of_ble_eq_true rfl⟩ dX5_fineNow_2 rfl (K_X5_lastTextOf E s a0 (2 : Int32)) (fun p1 => ?_)
  refine Jo_istoren (ls' := [(1, .int p1.1), (0, .ref a0)]) dX5_fineNow_5 rfl (by decide) rfl ?_
  refine Jo_iloadn 0 dX5_fineNow_6 rfl rfl ?_
  refine Jo_iconst (v := (-1 : Int32)) dX5_fineNow_7 (by decide) ?_
  refine Jo_icmp_ne 15 dX5_fineNow_8 (by decide) rfl ?_ ?_
  · refine Jo_iconst (v := (0 : Int32)) dX5_fineNow_11 (by decide) ?_
    refine Jo_goto 33 dX5_fineNow_12 (by decide) ?_
    exact Jo_iret rfl dX5_fineNow_33
  · refine Jo_aloadn 1 dX5_fineNow_15 rfl rfl ?_
    refine Jo_getR fF_5_17 fR_5_17 dX5_fineNow_16 w_177 (fun a2 => ?_)
    refine Jo_iloadn 0 dX5_fineNow_19 rfl rfl ?_
    refine Jo_aaload hta_14 dX5_fineNow_20 (fun a3 => ?_)
    refine Jo_aloadn 1 dX5_fineNow_21 rfl rfl ?_
    refine Jo_getI fF_5_6 fI_5_6 dX5_fineNow_22 w_189 (fun x4 => ?_)
    refine Jo_aloadn 1 dX5_fineNow_25 rfl rfl ?_
    refine Jo_getI fF_5_5 fI_5_5 dX5_fineNow_26 w_190 (fun x5 => ?_)
    refine Jo_iconst (v := (0 : Int32)) dX5_fineNow_29 (by decide) ?_
    refine Jo_callVi (a := a3) (rest := []) [.int x4, .int x5, .int (0 : Int32)] cc_4 yF_X4_valueFor yV_X4_valueFor w_280 rfl rfl ⟨Nat.le_of_ble_eq_true rfl, Nat.le_of_ble_eq_true rfl, Nat.le_of_ble_eq_true rfl⟩ dX5_fineNow_30 rfl (K_X4_valueFor E p1.2 a3 x4 x5 (0 : Int32)) (fun p6 => ?_)
    exact Jo_iret rfl dX5_fineNow_33
theorem K_X5_fineNow (E : jE) (s : hS) (a0 : Nat) : jK E yX5_fineNow M_X5_fineNow cvI [.ref a0] s (f_X5_fineNow s a0) := jK_of ⟨by decide, rfl, rfl⟩ (Nat.le_of_ble_eq_true rfl) (b_X5_fineNow_in E s a0)
/-! HeronTalk$Town.pick(IIZI)I -/
abbrev M_X5_pick : jM := (RX5, cX5_pick, 10, (some .int), "pick", 3, 68)
theorem yF_X5_pick : yF yX5_pick M_X5_pick 4 := ⟨w_293, w_198, by decide +kernel⟩
theorem yV_X5_pick : Cond.instanceMethod yX5_pick ∈ tbG ∧ Cond.selects yX5_pick.cls yX5_pick yX5_pick ∈ tbG := ⟨w_294, w_295⟩
theorem dX5_pick_0 : dI cX5_pick 0 1 (.iconst (-1)) 1 := ⟨by decide +kernel, rfl⟩
theorem dX5_pick_1 : dI cX5_pick 1 3 (.istore 5) 2 := ⟨by decide +kernel, rfl⟩
theorem dX5_pick_3 : dI cX5_pick 3 4 (.iconst 0) 1 := ⟨by decide +kernel, rfl⟩
theorem dX5_pick_4 : dI cX5_pick 4 6 (.istore 6) 2 := ⟨by decide +kernel, rfl⟩
theorem dX5_pick_6 : dI cX5_pick 6 7 (.iconst 0) 1 := ⟨by decide +kernel, rfl⟩
theorem dX5_pick_7 : dI cX5_pick 7 9 (.istore 7) 2 := ⟨by decide +kernel, rfl⟩
theorem dX5_pick_9 : dI cX5_pick 9 11 (.iload 7) 2 := ⟨by decide +kernel, rfl⟩
theorem dX5_pick_11 : dI cX5_pick 11 12 (.aload_n 0) 1 := ⟨by decide +kernel, rfl⟩
theorem dX5_pick_12 : dI cX5_pick 12 15 (.getfield 9) 3 := ⟨by decide +kernel, rfl⟩
theorem dX5_pick_15 : decode cX5_pick 15 = .ok (.if_icmp .ge 89, 3) := by decide +kernel
theorem dX5_pick_18 : dI cX5_pick 18 19 (.iload_n 1) 1 := ⟨by decide +kernel, rfl⟩
theorem dX5_pick_19 : dI cX5_pick 19 21 (.iload 7) 2 := ⟨by decide +kernel, rfl⟩
theorem dX5_pick_21 : dI cX5_pick 21 22 (.ishr) 1 := ⟨by decide +kernel, rfl⟩
theorem dX5_pick_22 : dI cX5_pick 22 23 (.iconst 1) 1 := ⟨by decide +kernel, rfl⟩
theorem dX5_pick_23 : dI cX5_pick 23 24 (.iand) 1 := ⟨by decide +kernel, rfl⟩
theorem dX5_pick_24 : decode cX5_pick 24 = .ok (.ifCond .ne 6, 3) := by decide +kernel
theorem dX5_pick_27 : decode cX5_pick 27 = .ok (.goto 71, 3) := by decide +kernel
theorem dX5_pick_30 : dI cX5_pick 30 31 (.aload_n 0) 1 := ⟨by decide +kernel, rfl⟩
theorem dX5_pick_31 : dI cX5_pick 31 33 (.iload 7) 2 := ⟨by decide +kernel, rfl⟩
theorem dX5_pick_33 : dI cX5_pick 33 34 (.iload_n 2) 1 := ⟨by decide +kernel, rfl⟩
theorem dX5_pick_34 : decode cX5_pick 34 = .ok (.invokevirtual 122, 3) := by decide +kernel
theorem dX5_pick_37 : dI cX5_pick 37 39 (.istore 8) 2 := ⟨by decide +kernel, rfl⟩
theorem dX5_pick_39 : dI cX5_pick 39 40 (.iload_n 3) 1 := ⟨by decide +kernel, rfl⟩
theorem dX5_pick_40 : decode cX5_pick 40 = .ok (.ifCond .eq 18, 3) := by decide +kernel
theorem dX5_pick_43 : dI cX5_pick 43 45 (.iload 8) 2 := ⟨by decide +kernel, rfl⟩
theorem dX5_pick_45 : dI cX5_pick 45 47 (.iload 6) 2 := ⟨by decide +kernel, rfl⟩
theorem dX5_pick_47 : decode cX5_pick 47 = .ok (.if_icmp .le 7, 3) := by decide +kernel
theorem dX5_pick_50 : dI cX5_pick 50 51 (.iconst 1) 1 := ⟨by decide +kernel, rfl⟩
theorem dX5_pick_51 : decode cX5_pick 51 = .ok (.goto 19, 3) := by decide +kernel
theorem dX5_pick_54 : dI cX5_pick 54 55 (.iconst 0) 1 := ⟨by decide +kernel, rfl⟩
theorem dX5_pick_55 : decode cX5_pick 55 = .ok (.goto 15, 3) := by decide +kernel
theorem dX5_pick_58 : dI cX5_pick 58 60 (.iload 8) 2 := ⟨by decide +kernel, rfl⟩
theorem dX5_pick_60 : dI cX5_pick 60 62 (.iload 6) 2 := ⟨by decide +kernel, rfl⟩
theorem dX5_pick_62 : decode cX5_pick 62 = .ok (.if_icmp .ge 7, 3) := by decide +kernel
theorem dX5_pick_65 : dI cX5_pick 65 66 (.iconst 1) 1 := ⟨by decide +kernel, rfl⟩
theorem dX5_pick_66 : decode cX5_pick 66 = .ok (.goto 4, 3) := by decide +kernel
theorem dX5_pick_69 : dI cX5_pick 69 70 (.iconst 0) 1 := ⟨by decide +kernel, rfl⟩
theorem dX5_pick_70 : dI cX5_pick 70 72 (.istore 9) 2 := ⟨by decide +kernel, rfl⟩
theorem dX5_pick_72 : dI cX5_pick 72 74 (.iload 8) 2 := ⟨by decide +kernel, rfl⟩
theorem dX5_pick_74 : dI cX5_pick 74 76 (.iload 4) 2 := ⟨by decide +kernel, rfl⟩
theorem dX5_pick_76 : decode cX5_pick 76 = .ok (.if_icmp .gt 22, 3) := by decide +kernel
theorem dX5_pick_79 : dI cX5_pick 79 81 (.iload 5) 2 := ⟨by decide +kernel, rfl⟩
theorem dX5_pick_81 : dI cX5_pick 81 82 (.iconst (-1)) 1 := ⟨by decide +kernel, rfl⟩
theorem dX5_pick_82 : decode cX5_pick 82 = .ok (.if_icmp .eq 8, 3) := by decide +kernel
theorem dX5_pick_85 : dI cX5_pick 85 87 (.iload 9) 2 := ⟨by decide +kernel, rfl⟩
theorem dX5_pick_87 : decode cX5_pick 87 = .ok (.ifCond .eq 11, 3) := by decide +kernel
theorem dX5_pick_90 : dI cX5_pick 90 92 (.iload 7) 2 := ⟨by decide +kernel, rfl⟩
theorem dX5_pick_92 : dI cX5_pick 92 94 (.istore 5) 2 := ⟨by decide +kernel, rfl⟩
theorem dX5_pick_94 : dI cX5_pick 94 96 (.iload 8) 2 := ⟨by decide +kernel, rfl⟩
theorem dX5_pick_96 : dI cX5_pick 96 98 (.istore 6) 2 := ⟨by decide +kernel, rfl⟩
theorem dX5_pick_98 : dI cX5_pick 98 101 (.iinc 7 1) 3 := ⟨by decide +kernel, rfl⟩
theorem dX5_pick_101 : decode cX5_pick 101 = .ok (.goto (-92), 3) := by decide +kernel
theorem dX5_pick_104 : dI cX5_pick 104 106 (.iload 5) 2 := ⟨by decide +kernel, rfl⟩
theorem dX5_pick_106 : dI cX5_pick 106 107 (.ireturn) 1 := ⟨by decide +kernel, rfl⟩
def f_X5_pick_b98 (k9 : Nat → Int32 → Int32 → Int32 → Int32 → Int32 → Int32 → Int32 → hS → Option (Int32 × hS)) (l0 : Nat) (l1 : Int32) (l2 : Int32) (l3 : Int32) (l4 : Int32) (l5 : Int32) (l6 : Int32) (l7 : Int32) (s : hS) : Option (Int32 × hS) :=
  k9 l0 l1 l2 l3 l4 l5 l6 (l7 + (1 : Int32)) s
theorem b_X5_pick_98 (E : jE) (k9 : Nat → Int32 → Int32 → Int32 → Int32 → Int32 → Int32 → Int32 → hS → Option (Int32 × hS)) (h9 : ∀ (s : hS) (l0 : Nat) (l1 : Int32) (l2 : Int32) (l3 : Int32) (l4 : Int32) (l5 : Int32) (l6 : Int32) (l7 : Int32) , Jo E M_X5_pick cvI 9 [(0, .ref l0), (1, .int l1), (2, .int l2), (3, .int l3), (4, .int l4), (5, .int l5), (6, .int l6), (7, .int l7)] [] s (k9 l0 l1 l2 l3 l4 l5 l6 l7 s)) (s : hS) (l0 : Nat) (l1 : Int32) (l2 : Int32) (l3 : Int32) (l4 : Int32) (l5 : Int32) (l6 : Int32) (l7 : Int32)  : Jo E M_X5_pick cvI 98 [(0, .ref l0), (1, .int l1), (2, .int l2), (3, .int l3), (4, .int l4), (5, .int l5), (6, .int l6), (7, .int l7)] [] s (f_X5_pick_b98 k9 l0 l1 l2 l3 l4 l5 l6 l7 s) := by
  unfold f_X5_pick_b98
  refine Jo_iinc (v := (l7 + (1 : Int32))) (ls' := [(7, .int (l7 + (1 : Int32))), (0, .ref l0), (1, .int l1), (2, .int l2), (3, .int l3), (4, .int l4), (5, .int l5), (6, .int l6)]) 7 dX5_pick_98 rfl rfl (by decide) rfl ?_
  refine Jo_goto 9 dX5_pick_101 (by decide) ?_
  refine Jo_sub [1, 2, 3, 4, 5, 6, 7, 0] rfl ?_
  exact h9 s l0 l1 l2 l3 l4 l5 l6 (l7 + (1 : Int32))
def f_X5_pick_b90 (k9 : Nat → Int32 → Int32 → Int32 → Int32 → Int32 → Int32 → Int32 → hS → Option (Int32 × hS)) (l0 : Nat) (l1 : Int32) (l2 : Int32) (l3 : Int32) (l4 : Int32) (l7 : Int32) (l8 : Int32) (s : hS) : Option (Int32 × hS) :=
  f_X5_pick_b98 k9 l0 l1 l2 l3 l4 l7 l8 l7 s
theorem b_X5_pick_90 (E : jE) (k9 : Nat → Int32 → Int32 → Int32 → Int32 → Int32 → Int32 → Int32 → hS → Option (Int32 × hS)) (h9 : ∀ (s : hS) (l0 : Nat) (l1 : Int32) (l2 : Int32) (l3 : Int32) (l4 : Int32) (l5 : Int32) (l6 : Int32) (l7 : Int32) , Jo E M_X5_pick cvI 9 [(0, .ref l0), (1, .int l1), (2, .int l2), (3, .int l3), (4, .int l4), (5, .int l5), (6, .int l6), (7, .int l7)] [] s (k9 l0 l1 l2 l3 l4 l5 l6 l7 s)) (s : hS) (l0 : Nat) (l1 : Int32) (l2 : Int32) (l3 : Int32) (l4 : Int32) (l7 : Int32) (l8 : Int32)  : Jo E M_X5_pick cvI 90 [(0, .ref l0), (1, .int l1), (2, .int l2), (3, .int l3), (4, .int l4), (7, .int l7), (8, .int l8)] [] s (f_X5_pick_b90 k9 l0 l1 l2 l3 l4 l7 l8 s) := by
  unfold f_X5_pick_b90
  refine Jo_iload 5 dX5_pick_90 rfl ?_
  refine Jo_istore (ls' := [(5, .int l7), (0, .ref l0), (1, .int l1), (2, .int l2), (3, .int l3), (4, .int l4), (7, .int l7), (8, .int l8)]) dX5_pick_92 (by decide) rfl ?_
  refine Jo_iload 7 dX5_pick_94 rfl ?_
  refine Jo_istore (ls' := [(6, .int l8), (5, .int l7), (0, .ref l0), (1, .int l1), (2, .int l2), (3, .int l3), (4, .int l4), (7, .int l7), (8, .int l8)]) dX5_pick_96 (by decide) rfl ?_
  refine Jo_sub [2, 3, 4, 5, 6, 1, 0, 7] rfl ?_
  exact b_X5_pick_98 E k9 h9 s l0 l1 l2 l3 l4 l7 l8 l7
def f_X5_pick_b70 (k9 : Nat → Int32 → Int32 → Int32 → Int32 → Int32 → Int32 → Int32 → hS → Option (Int32 × hS)) (l0 : Nat) (l1 : Int32) (l2 : Int32) (l3 : Int32) (l4 : Int32) (l5 : Int32) (l6 : Int32) (l7 : Int32) (l8 : Int32) (t0 : Int32) (s : hS) : Option (Int32 × hS) :=
  if l4 < l8 then
    f_X5_pick_b98 k9 l0 l1 l2 l3 l4 l5 l6 l7 s
  else
    if l5 = (-1 : Int32) then
      f_X5_pick_b90 k9 l0 l1 l2 l3 l4 l7 l8 s
    else
      if t0 = 0 then
        f_X5_pick_b98 k9 l0 l1 l2 l3 l4 l5 l6 l7 s
      else
        f_X5_pick_b90 k9 l0 l1 l2 l3 l4 l7 l8 s
theorem b_X5_pick_70 (E : jE) (k9 : Nat → Int32 → Int32 → Int32 → Int32 → Int32 → Int32 → Int32 → hS → Option (Int32 × hS)) (h9 : ∀ (s : hS) (l0 : Nat) (l1 : Int32) (l2 : Int32) (l3 : Int32) (l4 : Int32) (l5 : Int32) (l6 : Int32) (l7 : Int32) , Jo E M_X5_pick cvI 9 [(0, .ref l0), (1, .int l1), (2, .int l2), (3, .int l3), (4, .int l4), (5, .int l5), (6, .int l6), (7, .int l7)] [] s (k9 l0 l1 l2 l3 l4 l5 l6 l7 s)) (s : hS) (l0 : Nat) (l1 : Int32) (l2 : Int32) (l3 : Int32) (l4 : Int32) (l5 : Int32) (l6 : Int32) (l7 : Int32) (l8 : Int32) (t0 : Int32) : Jo E M_X5_pick cvI 70 [(0, .ref l0), (1, .int l1), (2, .int l2), (3, .int l3), (4, .int l4), (5, .int l5), (6, .int l6), (7, .int l7), (8, .int l8)] [.int t0] s (f_X5_pick_b70 k9 l0 l1 l2 l3 l4 l5 l6 l7 l8 t0 s) := by
  unfold f_X5_pick_b70
  refine Jo_istore (ls' := [(9, .int t0), (0, .ref l0), (1, .int l1), (2, .int l2), (3, .int l3), (4, .int l4), (5, .int l5), (6, .int l6), (7, .int l7), (8, .int l8)]) dX5_pick_70 (by decide) rfl ?_
  refine Jo_iload 9 dX5_pick_72 rfl ?_
  refine Jo_iload 5 dX5_pick_74 rfl ?_
  refine Jo_icmp_gt 98 dX5_pick_76 (by decide) rfl ?_ ?_
  · refine Jo_sub [1, 2, 3, 4, 5, 6, 7, 8] rfl ?_
    exact b_X5_pick_98 E k9 h9 s l0 l1 l2 l3 l4 l5 l6 l7
  · refine Jo_iload 6 dX5_pick_79 rfl ?_
    refine Jo_iconst (v := (-1 : Int32)) dX5_pick_81 (by decide) ?_
    refine Jo_icmp_eq 90 dX5_pick_82 (by decide) rfl ?_ ?_
    · refine Jo_sub [1, 2, 3, 4, 5, 8, 9] rfl ?_
      exact b_X5_pick_90 E k9 h9 s l0 l1 l2 l3 l4 l7 l8
    · refine Jo_iload 0 dX5_pick_85 rfl ?_
      refine Jo_if_eq 98 dX5_pick_87 (by decide) rfl ?_ ?_
      · refine Jo_sub [1, 2, 3, 4, 5, 6, 7, 8] rfl ?_
        exact b_X5_pick_98 E k9 h9 s l0 l1 l2 l3 l4 l5 l6 l7
      · refine Jo_sub [1, 2, 3, 4, 5, 8, 9] rfl ?_
        exact b_X5_pick_90 E k9 h9 s l0 l1 l2 l3 l4 l7 l8
def f_X5_pick_b9 (k9 : Nat → Int32 → Int32 → Int32 → Int32 → Int32 → Int32 → Int32 → hS → Option (Int32 × hS)) (l0 : Nat) (l1 : Int32) (l2 : Int32) (l3 : Int32) (l4 : Int32) (l5 : Int32) (l6 : Int32) (l7 : Int32) (s : hS) : Option (Int32 × hS) :=
  (gI s l0 5 0).bind fun x1 =>
  if x1 ≤ l7 then
    some (l5, s)
  else
    if ((l1 >>> (l7 &&& 31)) &&& (1 : Int32)) = 0 then
      f_X5_pick_b98 k9 l0 l1 l2 l3 l4 l5 l6 l7 s
    else
      (cV s l0 5 (f_X5_priceOf s l0 l7 l2)).bind fun p2 =>
      if l3 = 0 then
        if l6 ≤ p2.1 then
          f_X5_pick_b70 k9 l0 l1 l2 l3 l4 l5 l6 l7 p2.1 (0 : Int32) p2.2
        else
          f_X5_pick_b70 k9 l0 l1 l2 l3 l4 l5 l6 l7 p2.1 (1 : Int32) p2.2
      else
        if p2.1 ≤ l6 then
          f_X5_pick_b70 k9 l0 l1 l2 l3 l4 l5 l6 l7 p2.1 (0 : Int32) p2.2
        else
          f_X5_pick_b70 k9 l0 l1 l2 l3 l4 l5 l6 l7 p2.1 (1 : Int32) p2.2
theorem b_X5_pick_9 (E : jE) (k9 : Nat → Int32 → Int32 → Int32 → Int32 → Int32 → Int32 → Int32 → hS → Option (Int32 × hS)) (h9 : ∀ (s : hS) (l0 : Nat) (l1 : Int32) (l2 : Int32) (l3 : Int32) (l4 : Int32) (l5 : Int32) (l6 : Int32) (l7 : Int32) , Jo E M_X5_pick cvI 9 [(0, .ref l0), (1, .int l1), (2, .int l2), (3, .int l3), (4, .int l4), (5, .int l5), (6, .int l6), (7, .int l7)] [] s (k9 l0 l1 l2 l3 l4 l5 l6 l7 s)) (s : hS) (l0 : Nat) (l1 : Int32) (l2 : Int32) (l3 : Int32) (l4 : Int32) (l5 : Int32) (l6 : Int32) (l7 : Int32)  : Jo E M_X5_pick cvI 9 [(0, .ref l0), (1, .int l1), (2, .int l2), (3, .int l3), (4, .int l4), (5, .int l5), (6, .int l6), (7, .int l7)] [] s (f_X5_pick_b9 k9 l0 l1 l2 l3 l4 l5 l6 l7 s) := by
  unfold f_X5_pick_b9
  refine Jo_iload 7 dX5_pick_9 rfl ?_
  refine Jo_aloadn 0 dX5_pick_11 rfl rfl ?_
  refine Jo_getI fF_5_0 fI_5_0 dX5_pick_12 w_195 (fun x1 => ?_)
  refine Jo_icmp_ge 104 dX5_pick_15 (by decide) rfl ?_ ?_
  · refine Jo_iload 5 dX5_pick_104 rfl ?_
    exact Jo_iret rfl dX5_pick_106
  · refine Jo_iloadn 1 dX5_pick_18 rfl rfl ?_
    refine Jo_iload 7 dX5_pick_19 rfl ?_
    refine Jo_ishr dX5_pick_21 ?_
    refine Jo_iconst (v := (1 : Int32)) dX5_pick_22 (by decide) ?_
    refine Jo_iand dX5_pick_23 ?_
    refine Jo_if_ne 30 dX5_pick_24 (by decide) rfl ?_ ?_
    · refine Jo_goto 98 dX5_pick_27 (by decide) ?_
      exact b_X5_pick_98 E k9 h9 s l0 l1 l2 l3 l4 l5 l6 l7
    · refine Jo_aloadn 0 dX5_pick_30 rfl rfl ?_
      refine Jo_iload 7 dX5_pick_31 rfl ?_
      refine Jo_iloadn 2 dX5_pick_33 rfl rfl ?_
      refine Jo_callVi (a := l0) (rest := []) [.int l7, .int l2] cc_5 yF_X5_priceOf yV_X5_priceOf w_292 rfl rfl ⟨Nat.le_of_ble_eq_true rfl, Nat.le_of_ble_eq_true rfl, Nat.le_of_ble_eq_true rfl⟩ dX5_pick_34 rfl (K_X5_priceOf E s l0 l7 l2) (fun p2 => ?_)
      refine Jo_istore (ls' := [(8, .int p2.1), (0, .ref l0), (1, .int l1), (2, .int l2), (3, .int l3), (4, .int l4), (5, .int l5), (6, .int l6), (7, .int l7)]) dX5_pick_37 (by decide) rfl ?_
      refine Jo_iloadn 4 dX5_pick_39 rfl rfl ?_
      refine Jo_if_eq 58 dX5_pick_40 (by decide) rfl ?_ ?_
      · refine Jo_iload 0 dX5_pick_58 rfl ?_
        refine Jo_iload 7 dX5_pick_60 rfl ?_
        refine Jo_icmp_ge 69 dX5_pick_62 (by decide) rfl ?_ ?_
        · refine Jo_iconst (v := (0 : Int32)) dX5_pick_69 (by decide) ?_
          refine Jo_sub [1, 2, 3, 4, 5, 6, 7, 8, 0] rfl ?_
          exact b_X5_pick_70 E k9 h9 p2.2 l0 l1 l2 l3 l4 l5 l6 l7 p2.1 (0 : Int32)
        · refine Jo_iconst (v := (1 : Int32)) dX5_pick_65 (by decide) ?_
          refine Jo_goto 70 dX5_pick_66 (by decide) ?_
          refine Jo_sub [1, 2, 3, 4, 5, 6, 7, 8, 0] rfl ?_
          exact b_X5_pick_70 E k9 h9 p2.2 l0 l1 l2 l3 l4 l5 l6 l7 p2.1 (1 : Int32)
      · refine Jo_iload 0 dX5_pick_43 rfl ?_
        refine Jo_iload 7 dX5_pick_45 rfl ?_
        refine Jo_icmp_le 54 dX5_pick_47 (by decide) rfl ?_ ?_
        · refine Jo_iconst (v := (0 : Int32)) dX5_pick_54 (by decide) ?_
          refine Jo_goto 70 dX5_pick_55 (by decide) ?_
          refine Jo_sub [1, 2, 3, 4, 5, 6, 7, 8, 0] rfl ?_
          exact b_X5_pick_70 E k9 h9 p2.2 l0 l1 l2 l3 l4 l5 l6 l7 p2.1 (0 : Int32)
        · refine Jo_iconst (v := (1 : Int32)) dX5_pick_50 (by decide) ?_
          refine Jo_goto 70 dX5_pick_51 (by decide) ?_
          refine Jo_sub [1, 2, 3, 4, 5, 6, 7, 8, 0] rfl ?_
          exact b_X5_pick_70 E k9 h9 p2.2 l0 l1 l2 l3 l4 l5 l6 l7 p2.1 (1 : Int32)
theorem e_X5_pick_9 (E : jE)  (n : Nat) : ∀ (s : hS) (l0 : Nat) (l1 : Int32) (l2 : Int32) (l3 : Int32) (l4 : Int32) (l5 : Int32) (l6 : Int32) (l7 : Int32) , Jo E M_X5_pick cvI 9 [(0, .ref l0), (1, .int l1), (2, .int l2), (3, .int l3), (4, .int l4), (5, .int l5), (6, .int l6), (7, .int l7)] [] s ((jL f_X5_pick_b9 (fun _ _ _ _ _ _ _ _ _ => none) n) l0 l1 l2 l3 l4 l5 l6 l7 s) :=
  jL_ind (P := fun f => ∀ (s : hS) (l0 : Nat) (l1 : Int32) (l2 : Int32) (l3 : Int32) (l4 : Int32) (l5 : Int32) (l6 : Int32) (l7 : Int32) , Jo E M_X5_pick cvI 9 [(0, .ref l0), (1, .int l1), (2, .int l2), (3, .int l3), (4, .int l4), (5, .int l5), (6, .int l6), (7, .int l7)] [] s (f l0 l1 l2 l3 l4 l5 l6 l7 s)) (fun _ _ _ _ _ _ _ _ _ => Jo_none) (fun b hb s l0 l1 l2 l3 l4 l5 l6 l7 => b_X5_pick_9 E  b hb s l0 l1 l2 l3 l4 l5 l6 l7) n
def f_X5_pick (s : hS) (a0 : Nat) (i1 : Int32) (i2 : Int32) (i3 : Int32) (i4 : Int32) : Option (Int32 × hS) :=
  jL f_X5_pick_b9 (fun _ _ _ _ _ _ _ _ _ => none) jF a0 i1 i2 i3 i4 (-1 : Int32) (0 : Int32) (0 : Int32) s
theorem b_X5_pick_in (E : jE)  (s : hS) (a0 : Nat) (i1 : Int32) (i2 : Int32) (i3 : Int32) (i4 : Int32)  : Jo E M_X5_pick cvI 0 [(0, .ref a0), (1, .int i1), (2, .int i2), (3, .int i3), (4, .int i4)] [] s (f_X5_pick s a0 i1 i2 i3 i4) := by
  unfold f_X5_pick
  refine Jo_iconst (v := (-1 : Int32)) dX5_pick_0 (by decide) ?_
  refine Jo_istore (ls' := [(5, .int (-1 : Int32)), (0, .ref a0), (1, .int i1), (2, .int i2), (3, .int i3), (4, .int i4)]) dX5_pick_1 (by decide) rfl ?_
  refine Jo_iconst (v := (0 : Int32)) dX5_pick_3 (by decide) ?_
  refine Jo_istore (ls' := [(6, .int (0 : Int32)), (5, .int (-1 : Int32)), (0, .ref a0), (1, .int i1), (2, .int i2), (3, .int i3), (4, .int i4)]) dX5_pick_4 (by decide) rfl ?_
  refine Jo_iconst (v := (0 : Int32)) dX5_pick_6 (by decide) ?_
  refine Jo_istore (ls' := [(7, .int (0 : Int32)), (6, .int (0 : Int32)), (5, .int (-1 : Int32)), (0, .ref a0), (1, .int i1), (2, .int i2), (3, .int i3), (4, .int i4)]) dX5_pick_7 (by decide) rfl ?_
  refine Jo_sub [3, 4, 5, 6, 7, 2, 1, 0] rfl ?_
  exact e_X5_pick_9 E jF s a0 i1 i2 i3 i4 (-1 : Int32) (0 : Int32) (0 : Int32)
theorem K_X5_pick (E : jE) (s : hS) (a0 : Nat) (i1 : Int32) (i2 : Int32) (i3 : Int32) (i4 : Int32) : jK E yX5_pick M_X5_pick cvI [.ref a0, .int i1, .int i2, .int i3, .int i4] s (f_X5_pick s a0 i1 i2 i3 i4) := jK_of ⟨by decide, rfl, rfl⟩ (Nat.le_of_ble_eq_true rfl) (b_X5_pick_in E s a0 i1 i2 i3 i4)
