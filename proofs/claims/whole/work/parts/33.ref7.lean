/-! HeronTalkModel.comesToKnow(IIII)Z -/
abbrev M_X7_comesToKnow (nr : Nat) : jM := (RX7, cX7_comesToKnow, 6, (some .boolean), "comesToKnow", 8 + nr, 193 + nr * 25)
theorem yF_X7_comesToKnow {nr : Nat} : yF yX7_comesToKnow (M_X7_comesToKnow nr) 4 := ⟨w_830, w_624, by decide +kernel⟩
theorem yV_X7_comesToKnow : Cond.instanceMethod yX7_comesToKnow ∈ tbG ∧ Cond.selects yX7_comesToKnow.cls yX7_comesToKnow yX7_comesToKnow ∈ tbG := ⟨w_831, w_832⟩
theorem dX7_comesToKnow_0 : dI cX7_comesToKnow 0 1 (.iload_n 3) 1 := ⟨by decide +kernel, rfl⟩
theorem dX7_comesToKnow_1 : dI cX7_comesToKnow 1 3 (.iload 4) 2 := ⟨by decide +kernel, rfl⟩
theorem dX7_comesToKnow_3 : decode cX7_comesToKnow 3 = .ok (.if_icmp .ne 10, 3) := by decide +kernel
theorem dX7_comesToKnow_6 : dI cX7_comesToKnow 6 7 (.aload_n 0) 1 := ⟨by decide +kernel, rfl⟩
theorem dX7_comesToKnow_7 : dI cX7_comesToKnow 7 8 (.iload_n 1) 1 := ⟨by decide +kernel, rfl⟩
theorem dX7_comesToKnow_8 : dI cX7_comesToKnow 8 9 (.iload_n 2) 1 := ⟨by decide +kernel, rfl⟩
theorem dX7_comesToKnow_9 : decode cX7_comesToKnow 9 = .ok (.invokevirtual 89, 3) := by decide +kernel
theorem dX7_comesToKnow_12 : dI cX7_comesToKnow 12 13 (.ireturn) 1 := ⟨by decide +kernel, rfl⟩
theorem dX7_comesToKnow_13 : dI cX7_comesToKnow 13 14 (.aload_n 0) 1 := ⟨by decide +kernel, rfl⟩
theorem dX7_comesToKnow_14 : dI cX7_comesToKnow 14 15 (.iload_n 3) 1 := ⟨by decide +kernel, rfl⟩
theorem dX7_comesToKnow_15 : decode cX7_comesToKnow 15 = .ok (.invokevirtual 193, 3) := by decide +kernel
theorem dX7_comesToKnow_18 : dI cX7_comesToKnow 18 19 (.iconst 0) 1 := ⟨by decide +kernel, rfl⟩
theorem dX7_comesToKnow_19 : dI cX7_comesToKnow 19 21 (.istore 5) 2 := ⟨by decide +kernel, rfl⟩
theorem dX7_comesToKnow_21 : dI cX7_comesToKnow 21 23 (.iload 5) 2 := ⟨by decide +kernel, rfl⟩
theorem dX7_comesToKnow_23 : dI cX7_comesToKnow 23 24 (.aload_n 0) 1 := ⟨by decide +kernel, rfl⟩
theorem dX7_comesToKnow_24 : dI cX7_comesToKnow 24 27 (.getfield 9) 3 := ⟨by decide +kernel, rfl⟩
theorem dX7_comesToKnow_27 : dI cX7_comesToKnow 27 28 (.iconst 2) 1 := ⟨by decide +kernel, rfl⟩
theorem dX7_comesToKnow_28 : dI cX7_comesToKnow 28 29 (.iaload) 1 := ⟨by decide +kernel, rfl⟩
theorem dX7_comesToKnow_29 : decode cX7_comesToKnow 29 = .ok (.if_icmp .ge 55, 3) := by decide +kernel
theorem dX7_comesToKnow_32 : dI cX7_comesToKnow 32 33 (.aload_n 0) 1 := ⟨by decide +kernel, rfl⟩
theorem dX7_comesToKnow_33 : dI cX7_comesToKnow 33 36 (.getfield 22) 3 := ⟨by decide +kernel, rfl⟩
theorem dX7_comesToKnow_36 : dI cX7_comesToKnow 36 37 (.iload_n 3) 1 := ⟨by decide +kernel, rfl⟩
theorem dX7_comesToKnow_37 : dI cX7_comesToKnow 37 39 (.iload 5) 2 := ⟨by decide +kernel, rfl⟩
theorem dX7_comesToKnow_39 : dI cX7_comesToKnow 39 40 (.iastore) 1 := ⟨by decide +kernel, rfl⟩
theorem dX7_comesToKnow_40 : dI cX7_comesToKnow 40 42 (.iload 5) 2 := ⟨by decide +kernel, rfl⟩
theorem dX7_comesToKnow_42 : dI cX7_comesToKnow 42 43 (.iload_n 1) 1 := ⟨by decide +kernel, rfl⟩
theorem dX7_comesToKnow_43 : decode cX7_comesToKnow 43 = .ok (.if_icmp .eq 30, 3) := by decide +kernel
theorem dX7_comesToKnow_46 : dI cX7_comesToKnow 46 47 (.aload_n 0) 1 := ⟨by decide +kernel, rfl⟩
theorem dX7_comesToKnow_47 : dI cX7_comesToKnow 47 48 (.iconst 0) 1 := ⟨by decide +kernel, rfl⟩
theorem dX7_comesToKnow_48 : dI cX7_comesToKnow 48 49 (.iload_n 1) 1 := ⟨by decide +kernel, rfl⟩
theorem dX7_comesToKnow_49 : dI cX7_comesToKnow 49 51 (.iload 5) 2 := ⟨by decide +kernel, rfl⟩
theorem dX7_comesToKnow_51 : decode cX7_comesToKnow 51 = .ok (.invokevirtual 183, 3) := by decide +kernel
theorem dX7_comesToKnow_54 : decode cX7_comesToKnow 54 = .ok (.ifCond .eq 19, 3) := by decide +kernel
theorem dX7_comesToKnow_57 : dI cX7_comesToKnow 57 58 (.aload_n 0) 1 := ⟨by decide +kernel, rfl⟩
theorem dX7_comesToKnow_58 : dI cX7_comesToKnow 58 59 (.iload_n 1) 1 := ⟨by decide +kernel, rfl⟩
theorem dX7_comesToKnow_59 : dI cX7_comesToKnow 59 60 (.iload_n 2) 1 := ⟨by decide +kernel, rfl⟩
theorem dX7_comesToKnow_60 : dI cX7_comesToKnow 60 61 (.iload_n 3) 1 := ⟨by decide +kernel, rfl⟩
theorem dX7_comesToKnow_61 : dI cX7_comesToKnow 61 62 (.iconst 1) 1 := ⟨by decide +kernel, rfl⟩
theorem dX7_comesToKnow_62 : dI cX7_comesToKnow 62 63 (.iadd) 1 := ⟨by decide +kernel, rfl⟩
theorem dX7_comesToKnow_63 : dI cX7_comesToKnow 63 65 (.iload 4) 2 := ⟨by decide +kernel, rfl⟩
theorem dX7_comesToKnow_65 : decode cX7_comesToKnow 65 = .ok (.invokevirtual 197, 3) := by decide +kernel
theorem dX7_comesToKnow_68 : decode cX7_comesToKnow 68 = .ok (.ifCond .eq 5, 3) := by decide +kernel
theorem dX7_comesToKnow_71 : dI cX7_comesToKnow 71 72 (.iconst 1) 1 := ⟨by decide +kernel, rfl⟩
theorem dX7_comesToKnow_72 : dI cX7_comesToKnow 72 73 (.ireturn) 1 := ⟨by decide +kernel, rfl⟩
theorem dX7_comesToKnow_73 : dI cX7_comesToKnow 73 74 (.aload_n 0) 1 := ⟨by decide +kernel, rfl⟩
theorem dX7_comesToKnow_74 : dI cX7_comesToKnow 74 75 (.iload_n 3) 1 := ⟨by decide +kernel, rfl⟩
theorem dX7_comesToKnow_75 : decode cX7_comesToKnow 75 = .ok (.invokevirtual 201, 3) := by decide +kernel
theorem dX7_comesToKnow_78 : dI cX7_comesToKnow 78 81 (.iinc 5 1) 3 := ⟨by decide +kernel, rfl⟩
theorem dX7_comesToKnow_81 : decode cX7_comesToKnow 81 = .ok (.goto (-60), 3) := by decide +kernel
theorem dX7_comesToKnow_84 : dI cX7_comesToKnow 84 85 (.iconst 0) 1 := ⟨by decide +kernel, rfl⟩
theorem dX7_comesToKnow_85 : dI cX7_comesToKnow 85 86 (.ireturn) 1 := ⟨by decide +kernel, rfl⟩
def f_X7_comesToKnow_b73 (fr0 : hS → Nat → Int32 → Int32 → Int32 → Int32 → Option (Int32 × hS)) (k21 : Nat → Int32 → Int32 → Int32 → Int32 → Int32 → hS → Option (Int32 × hS)) (l0 : Nat) (l1 : Int32) (l2 : Int32) (l3 : Int32) (l4 : Int32) (l5 : Int32) (s : hS) : Option (Int32 × hS) :=
  (cV s l0 7 (f_X7_putsBack s l0 l3)).bind fun p1 =>
  k21 l0 l1 l2 l3 l4 (l5 + (1 : Int32)) p1.2
theorem b_X7_comesToKnow_73 (E : jE) (nr : Nat) (fr0 : hS → Nat → Int32 → Int32 → Int32 → Int32 → Option (Int32 × hS)) (hr0 : ∀ (s : hS) (a0 : Nat) (i1 : Int32) (i2 : Int32) (i3 : Int32) (i4 : Int32), jK E yX7_comesToKnow (M_X7_comesToKnow nr) cvI [.ref a0, .int i1, .int i2, .int i3, .int i4] s (fr0 s a0 i1 i2 i3 i4)) (k21 : Nat → Int32 → Int32 → Int32 → Int32 → Int32 → hS → Option (Int32 × hS)) (h21 : ∀ (s : hS) (l0 : Nat) (l1 : Int32) (l2 : Int32) (l3 : Int32) (l4 : Int32) (l5 : Int32) , Jo E (M_X7_comesToKnow (nr + 1)) cvI 21 [(0, .ref l0), (1, .int l1), (2, .int l2), (3, .int l3), (4, .int l4), (5, .int l5)] [] s (k21 l0 l1 l2 l3 l4 l5 s)) (s : hS) (l0 : Nat) (l1 : Int32) (l2 : Int32) (l3 : Int32) (l4 : Int32) (l5 : Int32)  : Jo E (M_X7_comesToKnow (nr + 1)) cvI 73 [(0, .ref l0), (1, .int l1), (2, .int l2), (3, .int l3), (4, .int l4), (5, .int l5)] [] s (f_X7_comesToKnow_b73 fr0 k21 l0 l1 l2 l3 l4 l5 s) := by
  unfold f_X7_comesToKnow_b73
  refine Jo_aloadn 0 dX7_comesToKnow_73 rfl rfl ?_
  refine Jo_iloadn 3 dX7_comesToKnow_74 rfl rfl ?_
  refine Jo_callVv (a := l0) (rest := []) [.int l3] cc_7 yF_X7_putsBack yV_X7_putsBack w_827 rfl rfl ⟨show 0 + 1 ≤ 8 + (nr + 1) by omega, show 8 + (3 + 11) + 0 ≤ 193 + (nr + 1) * 25 by omega, Nat.le_of_ble_eq_true rfl⟩ dX7_comesToKnow_75 rfl (K_X7_putsBack E s l0 l3) (fun p1 => ?_)
  refine Jo_iinc (v := (l5 + (1 : Int32))) (ls' := [(5, .int (l5 + (1 : Int32))), (0, .ref l0), (1, .int l1), (2, .int l2), (3, .int l3), (4, .int l4)]) 5 dX7_comesToKnow_78 rfl rfl (show 5 < 6 by decide) rfl ?_
  refine Jo_goto 21 dX7_comesToKnow_81 (by decide) ?_
  refine Jo_sub [1, 2, 3, 4, 5, 0] rfl ?_
  exact h21 p1.2 l0 l1 l2 l3 l4 (l5 + (1 : Int32))
def f_X7_comesToKnow_b21 (fr0 : hS → Nat → Int32 → Int32 → Int32 → Int32 → Option (Int32 × hS)) (k21 : Nat → Int32 → Int32 → Int32 → Int32 → Int32 → hS → Option (Int32 × hS)) (l0 : Nat) (l1 : Int32) (l2 : Int32) (l3 : Int32) (l4 : Int32) (l5 : Int32) (s : hS) : Option (Int32 × hS) :=
  (gR s l0 7 0).bind fun a1 =>
  (aI s a1 10 (2 : Int32)).bind fun x2 =>
  if x2 ≤ l5 then
    some ((0 : Int32), s)
  else
    (gR s l0 7 5).bind fun a3 =>
    (sI s a3 10 l3 l5).bind fun s4 =>
    if l5 = l1 then
      f_X7_comesToKnow_b73 fr0 k21 l0 l1 l2 l3 l4 l5 s4
    else
      (cV s4 l0 7 (f_X7_goes s4 l0 (0 : Int32) l1 l5)).bind fun p5 =>
      if p5.1 = 0 then
        f_X7_comesToKnow_b73 fr0 k21 l0 l1 l2 l3 l4 l5 p5.2
      else
        (cV p5.2 l0 7 (fr0 p5.2 l0 l1 l2 (l3 + (1 : Int32)) l4)).bind fun p6 =>
        if p6.1 = 0 then
          f_X7_comesToKnow_b73 fr0 k21 l0 l1 l2 l3 l4 l5 p6.2
        else
          some ((1 : Int32), p6.2)
theorem b_X7_comesToKnow_21 (E : jE) (nr : Nat) (fr0 : hS → Nat → Int32 → Int32 → Int32 → Int32 → Option (Int32 × hS)) (hr0 : ∀ (s : hS) (a0 : Nat) (i1 : Int32) (i2 : Int32) (i3 : Int32) (i4 : Int32), jK E yX7_comesToKnow (M_X7_comesToKnow nr) cvI [.ref a0, .int i1, .int i2, .int i3, .int i4] s (fr0 s a0 i1 i2 i3 i4)) (k21 : Nat → Int32 → Int32 → Int32 → Int32 → Int32 → hS → Option (Int32 × hS)) (h21 : ∀ (s : hS) (l0 : Nat) (l1 : Int32) (l2 : Int32) (l3 : Int32) (l4 : Int32) (l5 : Int32) , Jo E (M_X7_comesToKnow (nr + 1)) cvI 21 [(0, .ref l0), (1, .int l1), (2, .int l2), (3, .int l3), (4, .int l4), (5, .int l5)] [] s (k21 l0 l1 l2 l3 l4 l5 s)) (s : hS) (l0 : Nat) (l1 : Int32) (l2 : Int32) (l3 : Int32) (l4 : Int32) (l5 : Int32)  : Jo E (M_X7_comesToKnow (nr + 1)) cvI 21 [(0, .ref l0), (1, .int l1), (2, .int l2), (3, .int l3), (4, .int l4), (5, .int l5)] [] s (f_X7_comesToKnow_b21 fr0 k21 l0 l1 l2 l3 l4 l5 s) := by
  unfold f_X7_comesToKnow_b21
  refine Jo_iload 5 dX7_comesToKnow_21 rfl ?_
  refine Jo_aloadn 0 dX7_comesToKnow_23 rfl rfl ?_
  refine Jo_getR fF_7_0 fR_7_0 dX7_comesToKnow_24 w_598 (fun a1 => ?_)
  refine Jo_iconst (v := (2 : Int32)) dX7_comesToKnow_27 (by decide) ?_
  refine Jo_iaload dX7_comesToKnow_28 (fun x2 => ?_)
  refine Jo_icmp_ge 84 dX7_comesToKnow_29 (by decide) rfl ?_ ?_
  · refine Jo_iconst (v := (0 : Int32)) dX7_comesToKnow_84 (by decide) ?_
    exact Jo_zret0 rfl dX7_comesToKnow_85
  · refine Jo_aloadn 0 dX7_comesToKnow_32 rfl rfl ?_
    refine Jo_getR fF_7_5 fR_7_5 dX7_comesToKnow_33 w_618 (fun a3 => ?_)
    refine Jo_iloadn 3 dX7_comesToKnow_36 rfl rfl ?_
    refine Jo_iload 5 dX7_comesToKnow_37 rfl ?_
    refine Jo_iastore dX7_comesToKnow_39 (fun s4 => ?_)
    refine Jo_iload 5 dX7_comesToKnow_40 rfl ?_
    refine Jo_iloadn 1 dX7_comesToKnow_42 rfl rfl ?_
    refine Jo_icmp_eq 73 dX7_comesToKnow_43 (by decide) rfl ?_ ?_
    · exact b_X7_comesToKnow_73 E nr fr0 hr0 k21 h21 s4 l0 l1 l2 l3 l4 l5
    · refine Jo_aloadn 0 dX7_comesToKnow_46 rfl rfl ?_
      refine Jo_iconst (v := (0 : Int32)) dX7_comesToKnow_47 (by decide) ?_
      refine Jo_iloadn 1 dX7_comesToKnow_48 rfl rfl ?_
      refine Jo_iload 5 dX7_comesToKnow_49 rfl ?_
      refine Jo_callVi (a := l0) (rest := []) [.int (0 : Int32), .int l1, .int l5] cc_7 yF_X7_goes yV_X7_goes w_799 rfl rfl ⟨show 7 + 1 ≤ 8 + (nr + 1) by omega, show 8 + (7 + 11) + 167 ≤ 193 + (nr + 1) * 25 by omega, Nat.le_of_ble_eq_true rfl⟩ dX7_comesToKnow_51 rfl (K_X7_goes E s4 l0 (0 : Int32) l1 l5) (fun p5 => ?_)
      refine Jo_if_eq 73 dX7_comesToKnow_54 (by decide) rfl ?_ ?_
      · exact b_X7_comesToKnow_73 E nr fr0 hr0 k21 h21 p5.2 l0 l1 l2 l3 l4 l5
      · refine Jo_aloadn 0 dX7_comesToKnow_57 rfl rfl ?_
        refine Jo_iloadn 1 dX7_comesToKnow_58 rfl rfl ?_
        refine Jo_iloadn 2 dX7_comesToKnow_59 rfl rfl ?_
        refine Jo_iloadn 3 dX7_comesToKnow_60 rfl rfl ?_
        refine Jo_iconst (v := (1 : Int32)) dX7_comesToKnow_61 (by decide) ?_
        refine Jo_iadd dX7_comesToKnow_62 ?_
        refine Jo_iload 4 dX7_comesToKnow_63 rfl ?_
        refine Jo_callVi (a := l0) (rest := []) [.int l1, .int l2, .int (l3 + (1 : Int32)), .int l4] cc_7 yF_X7_comesToKnow yV_X7_comesToKnow w_828 rfl rfl ⟨show (8 + nr) + 1 ≤ 8 + (nr + 1) by omega, show 8 + (6 + 11) + (193 + nr * 25) ≤ 193 + (nr + 1) * 25 by omega, Nat.le_of_ble_eq_true rfl⟩ dX7_comesToKnow_65 rfl (hr0 p5.2 l0 l1 l2 (l3 + (1 : Int32)) l4) (fun p6 => ?_)
        refine Jo_if_eq 73 dX7_comesToKnow_68 (by decide) rfl ?_ ?_
        · exact b_X7_comesToKnow_73 E nr fr0 hr0 k21 h21 p6.2 l0 l1 l2 l3 l4 l5
        · refine Jo_iconst (v := (1 : Int32)) dX7_comesToKnow_71 (by decide) ?_
          exact Jo_zret1 rfl dX7_comesToKnow_72
theorem e_X7_comesToKnow_21 (E : jE) (nr : Nat) (fr0 : hS → Nat → Int32 → Int32 → Int32 → Int32 → Option (Int32 × hS)) (hr0 : ∀ (s : hS) (a0 : Nat) (i1 : Int32) (i2 : Int32) (i3 : Int32) (i4 : Int32), jK E yX7_comesToKnow (M_X7_comesToKnow nr) cvI [.ref a0, .int i1, .int i2, .int i3, .int i4] s (fr0 s a0 i1 i2 i3 i4))  (n : Nat) : ∀ (s : hS) (l0 : Nat) (l1 : Int32) (l2 : Int32) (l3 : Int32) (l4 : Int32) (l5 : Int32) , Jo E (M_X7_comesToKnow (nr + 1)) cvI 21 [(0, .ref l0), (1, .int l1), (2, .int l2), (3, .int l3), (4, .int l4), (5, .int l5)] [] s ((jL (f_X7_comesToKnow_b21 fr0) (fun _ _ _ _ _ _ _ => none) n) l0 l1 l2 l3 l4 l5 s) :=
  jL_ind (P := fun f => ∀ (s : hS) (l0 : Nat) (l1 : Int32) (l2 : Int32) (l3 : Int32) (l4 : Int32) (l5 : Int32) , Jo E (M_X7_comesToKnow (nr + 1)) cvI 21 [(0, .ref l0), (1, .int l1), (2, .int l2), (3, .int l3), (4, .int l4), (5, .int l5)] [] s (f l0 l1 l2 l3 l4 l5 s)) (fun _ _ _ _ _ _ _ => Jo_none) (fun b hb s l0 l1 l2 l3 l4 l5 => b_X7_comesToKnow_21 E nr fr0 hr0  b hb s l0 l1 l2 l3 l4 l5) n
def f_X7_comesToKnow_body (fr0 : hS → Nat → Int32 → Int32 → Int32 → Int32 → Option (Int32 × hS)) (s : hS) (a0 : Nat) (i1 : Int32) (i2 : Int32) (i3 : Int32) (i4 : Int32) : Option (Int32 × hS) :=
  if i3 = i4 then
    (cV s a0 7 (f_X7_doesKnow s a0 i1 i2)).bind fun p2 =>
    if p2.1 = 0 ∨ p2.1 = 1 then some (p2.1, p2.2) else none
  else
    (cV s a0 7 (f_X7_keepsAhead s a0 i3)).bind fun p1 =>
    jL (f_X7_comesToKnow_b21 fr0) (fun _ _ _ _ _ _ _ => none) jF a0 i1 i2 i3 i4 (0 : Int32) p1.2
theorem b_X7_comesToKnow_in (E : jE) (nr : Nat) (fr0 : hS → Nat → Int32 → Int32 → Int32 → Int32 → Option (Int32 × hS)) (hr0 : ∀ (s : hS) (a0 : Nat) (i1 : Int32) (i2 : Int32) (i3 : Int32) (i4 : Int32), jK E yX7_comesToKnow (M_X7_comesToKnow nr) cvI [.ref a0, .int i1, .int i2, .int i3, .int i4] s (fr0 s a0 i1 i2 i3 i4))  (s : hS) (a0 : Nat) (i1 : Int32) (i2 : Int32) (i3 : Int32) (i4 : Int32)  : Jo E (M_X7_comesToKnow (nr + 1)) cvI 0 [(0, .ref a0), (1, .int i1), (2, .int i2), (3, .int i3), (4, .int i4)] [] s (f_X7_comesToKnow_body fr0 s a0 i1 i2 i3 i4) := by
  unfold f_X7_comesToKnow_body
  refine Jo_iloadn 3 dX7_comesToKnow_0 rfl rfl ?_
  refine Jo_iload 4 dX7_comesToKnow_1 rfl ?_
  refine Jo_icmp_ne 13 dX7_comesToKnow_3 (by decide) rfl ?_ ?_
  · refine Jo_aloadn 0 dX7_comesToKnow_6 rfl rfl ?_
    refine Jo_iloadn 1 dX7_comesToKnow_7 rfl rfl ?_
    refine Jo_iloadn 2 dX7_comesToKnow_8 rfl rfl ?_
    refine Jo_callVi (a := a0) (rest := []) [.int i1, .int i2] cc_7 yF_X7_doesKnow yV_X7_doesKnow w_677 rfl rfl ⟨show 1 + 1 ≤ 8 + (nr + 1) by omega, show 8 + (3 + 11) + 21 ≤ 193 + (nr + 1) * 25 by omega, Nat.le_of_ble_eq_true rfl⟩ dX7_comesToKnow_9 rfl (K_X7_doesKnow E s a0 i1 i2) (fun p2 => ?_)
    exact Jo_zret rfl dX7_comesToKnow_12
  · refine Jo_aloadn 0 dX7_comesToKnow_13 rfl rfl ?_
    refine Jo_iloadn 3 dX7_comesToKnow_14 rfl rfl ?_
    refine Jo_callVv (a := a0) (rest := []) [.int i3] cc_7 yF_X7_keepsAhead yV_X7_keepsAhead w_829 rfl rfl ⟨show 0 + 1 ≤ 8 + (nr + 1) by omega, show 8 + (3 + 11) + 0 ≤ 193 + (nr + 1) * 25 by omega, Nat.le_of_ble_eq_true rfl⟩ dX7_comesToKnow_15 rfl (K_X7_keepsAhead E s a0 i3) (fun p1 => ?_)
    refine Jo_iconst (v := (0 : Int32)) dX7_comesToKnow_18 (by decide) ?_
    refine Jo_istore (ls' := [(5, .int (0 : Int32)), (0, .ref a0), (1, .int i1), (2, .int i2), (3, .int i3), (4, .int i4)]) dX7_comesToKnow_19 (show 5 < 6 by decide) rfl ?_
    refine Jo_sub [1, 2, 3, 4, 5, 0] rfl ?_
    exact e_X7_comesToKnow_21 E nr fr0 hr0 jF p1.2 a0 i1 i2 i3 i4 (0 : Int32)
def f_X7_comesToKnow : Nat → hS → Nat → Int32 → Int32 → Int32 → Int32 → Option (Int32 × hS)
  | 0 => fun _ _ _ _ _ _ => none
  | n + 1 => f_X7_comesToKnow_body (f_X7_comesToKnow n)
theorem K_X7_comesToKnow (E : jE) : ∀ (nr : Nat), ∀ (s : hS) (a0 : Nat) (i1 : Int32) (i2 : Int32) (i3 : Int32) (i4 : Int32), jK E yX7_comesToKnow (M_X7_comesToKnow nr) cvI [.ref a0, .int i1, .int i2, .int i3, .int i4] s (f_X7_comesToKnow nr s a0 i1 i2 i3 i4)
  | 0 => fun _ _ _ _ _ _ r h => by cases h
  | n + 1 => fun s a0 i1 i2 i3 i4 => jK_of ⟨by decide, rfl, rfl⟩ (Nat.le_of_ble_eq_true rfl) (b_X7_comesToKnow_in E n (f_X7_comesToKnow n) (K_X7_comesToKnow E n) s a0 i1 i2 i3 i4)
/-! HeronTalkModel.fewest(IIII)I -/
abbrev M_X7_fewest : jM := (RX7, cX7_fewest, 8, (some .int), "fewest", 15, 368)
theorem yF_X7_fewest : yF yX7_fewest M_X7_fewest 4 := ⟨w_833, w_624, by decide +kernel⟩
theorem yV_X7_fewest : Cond.instanceMethod yX7_fewest ∈ tbG ∧ Cond.selects yX7_fewest.cls yX7_fewest yX7_fewest ∈ tbG := ⟨w_834, w_835⟩
theorem dX7_fewest_0 : dI cX7_fewest 0 1 (.aload_n 0) 1 := ⟨by decide +kernel, rfl⟩
theorem dX7_fewest_1 : dI cX7_fewest 1 2 (.iload_n 1) 1 := ⟨by decide +kernel, rfl⟩
theorem dX7_fewest_2 : decode cX7_fewest 2 = .ok (.invokevirtual 110, 3) := by decide +kernel
theorem dX7_fewest_5 : decode cX7_fewest 5 = .ok (.ifCond .eq 26, 3) := by decide +kernel
theorem dX7_fewest_8 : dI cX7_fewest 8 9 (.aload_n 0) 1 := ⟨by decide +kernel, rfl⟩
theorem dX7_fewest_9 : dI cX7_fewest 9 10 (.iload_n 2) 1 := ⟨by decide +kernel, rfl⟩
theorem dX7_fewest_10 : decode cX7_fewest 10 = .ok (.invokevirtual 93, 3) := by decide +kernel
theorem dX7_fewest_13 : decode cX7_fewest 13 = .ok (.ifCond .eq 18, 3) := by decide +kernel
theorem dX7_fewest_16 : dI cX7_fewest 16 17 (.iload_n 3) 1 := ⟨by decide +kernel, rfl⟩
theorem dX7_fewest_17 : dI cX7_fewest 17 18 (.iconst 0) 1 := ⟨by decide +kernel, rfl⟩
theorem dX7_fewest_18 : dI cX7_fewest 18 19 (.iconst 3) 1 := ⟨by decide +kernel, rfl⟩
theorem dX7_fewest_19 : decode cX7_fewest 19 = .ok (.invokestatic 79, 3) := by decide +kernel
theorem dX7_fewest_22 : decode cX7_fewest 22 = .ok (.ifCond .eq 9, 3) := by decide +kernel
theorem dX7_fewest_25 : dI cX7_fewest 25 27 (.iload 4) 2 := ⟨by decide +kernel, rfl⟩
theorem dX7_fewest_27 : dI cX7_fewest 27 28 (.iconst (-1)) 1 := ⟨by decide +kernel, rfl⟩
theorem dX7_fewest_28 : decode cX7_fewest 28 = .ok (.if_icmp .ge 6, 3) := by decide +kernel
theorem dX7_fewest_31 : dI cX7_fewest 31 33 (.ldc 87) 2 := ⟨by decide +kernel, rfl⟩
theorem dX7_fewest_33 : dI cX7_fewest 33 34 (.ireturn) 1 := ⟨by decide +kernel, rfl⟩
theorem dX7_fewest_34 : dI cX7_fewest 34 35 (.aload_n 0) 1 := ⟨by decide +kernel, rfl⟩
theorem dX7_fewest_35 : dI cX7_fewest 35 38 (.getfield 9) 3 := ⟨by decide +kernel, rfl⟩
theorem dX7_fewest_38 : dI cX7_fewest 38 40 (.bipush 6) 2 := ⟨by decide +kernel, rfl⟩
theorem dX7_fewest_40 : dI cX7_fewest 40 41 (.iaload) 1 := ⟨by decide +kernel, rfl⟩
theorem dX7_fewest_41 : dI cX7_fewest 41 43 (.istore 5) 2 := ⟨by decide +kernel, rfl⟩
theorem dX7_fewest_43 : dI cX7_fewest 43 44 (.aload_n 0) 1 := ⟨by decide +kernel, rfl⟩
theorem dX7_fewest_44 : dI cX7_fewest 44 45 (.iconst 3) 1 := ⟨by decide +kernel, rfl⟩
theorem dX7_fewest_45 : decode cX7_fewest 45 = .ok (.invokevirtual 193, 3) := by decide +kernel
theorem dX7_fewest_48 : dI cX7_fewest 48 49 (.iconst (-1)) 1 := ⟨by decide +kernel, rfl⟩
theorem dX7_fewest_49 : dI cX7_fewest 49 51 (.istore 6) 2 := ⟨by decide +kernel, rfl⟩
theorem dX7_fewest_51 : dI cX7_fewest 51 52 (.iconst 0) 1 := ⟨by decide +kernel, rfl⟩
theorem dX7_fewest_52 : dI cX7_fewest 52 54 (.istore 7) 2 := ⟨by decide +kernel, rfl⟩
theorem dX7_fewest_54 : dI cX7_fewest 54 56 (.iload 7) 2 := ⟨by decide +kernel, rfl⟩
theorem dX7_fewest_56 : dI cX7_fewest 56 57 (.iload_n 3) 1 := ⟨by decide +kernel, rfl⟩
theorem dX7_fewest_57 : decode cX7_fewest 57 = .ok (.if_icmp .gt 34, 3) := by decide +kernel
theorem dX7_fewest_60 : dI cX7_fewest 60 62 (.iload 6) 2 := ⟨by decide +kernel, rfl⟩
theorem dX7_fewest_62 : decode cX7_fewest 62 = .ok (.ifCond .ge 29, 3) := by decide +kernel
theorem dX7_fewest_65 : dI cX7_fewest 65 66 (.aload_n 0) 1 := ⟨by decide +kernel, rfl⟩
theorem dX7_fewest_66 : dI cX7_fewest 66 67 (.iload_n 1) 1 := ⟨by decide +kernel, rfl⟩
theorem dX7_fewest_67 : dI cX7_fewest 67 68 (.iload_n 2) 1 := ⟨by decide +kernel, rfl⟩
theorem dX7_fewest_68 : dI cX7_fewest 68 69 (.iconst 0) 1 := ⟨by decide +kernel, rfl⟩
theorem dX7_fewest_69 : dI cX7_fewest 69 71 (.iload 7) 2 := ⟨by decide +kernel, rfl⟩
theorem dX7_fewest_71 : decode cX7_fewest 71 = .ok (.invokevirtual 197, 3) := by decide +kernel
theorem dX7_fewest_74 : decode cX7_fewest 74 = .ok (.ifCond .eq 8, 3) := by decide +kernel
theorem dX7_fewest_77 : dI cX7_fewest 77 79 (.iload 7) 2 := ⟨by decide +kernel, rfl⟩
theorem dX7_fewest_79 : decode cX7_fewest 79 = .ok (.goto 4, 3) := by decide +kernel
theorem dX7_fewest_82 : dI cX7_fewest 82 83 (.iconst (-1)) 1 := ⟨by decide +kernel, rfl⟩
theorem dX7_fewest_83 : dI cX7_fewest 83 85 (.istore 6) 2 := ⟨by decide +kernel, rfl⟩
theorem dX7_fewest_85 : dI cX7_fewest 85 88 (.iinc 7 1) 3 := ⟨by decide +kernel, rfl⟩
theorem dX7_fewest_88 : decode cX7_fewest 88 = .ok (.goto (-34), 3) := by decide +kernel
theorem dX7_fewest_91 : dI cX7_fewest 91 92 (.aload_n 0) 1 := ⟨by decide +kernel, rfl⟩
theorem dX7_fewest_92 : dI cX7_fewest 92 93 (.iconst 3) 1 := ⟨by decide +kernel, rfl⟩
theorem dX7_fewest_93 : decode cX7_fewest 93 = .ok (.invokevirtual 201, 3) := by decide +kernel
theorem dX7_fewest_96 : dI cX7_fewest 96 97 (.aload_n 0) 1 := ⟨by decide +kernel, rfl⟩
theorem dX7_fewest_97 : dI cX7_fewest 97 100 (.getfield 9) 3 := ⟨by decide +kernel, rfl⟩
theorem dX7_fewest_100 : dI cX7_fewest 100 102 (.bipush 6) 2 := ⟨by decide +kernel, rfl⟩
theorem dX7_fewest_102 : dI cX7_fewest 102 104 (.iload 5) 2 := ⟨by decide +kernel, rfl⟩
theorem dX7_fewest_104 : dI cX7_fewest 104 105 (.iastore) 1 := ⟨by decide +kernel, rfl⟩
theorem dX7_fewest_105 : dI cX7_fewest 105 107 (.iload 6) 2 := ⟨by decide +kernel, rfl⟩
theorem dX7_fewest_107 : decode cX7_fewest 107 = .ok (.ifCond .ge 8, 3) := by decide +kernel
theorem dX7_fewest_110 : dI cX7_fewest 110 112 (.ldc 78) 2 := ⟨by decide +kernel, rfl⟩
theorem dX7_fewest_112 : decode cX7_fewest 112 = .ok (.goto 32, 3) := by decide +kernel
theorem dX7_fewest_115 : dI cX7_fewest 115 117 (.iload 4) 2 := ⟨by decide +kernel, rfl⟩
theorem dX7_fewest_117 : decode cX7_fewest 117 = .ok (.ifCond .ge 8, 3) := by decide +kernel
theorem dX7_fewest_120 : dI cX7_fewest 120 122 (.iload 6) 2 := ⟨by decide +kernel, rfl⟩
theorem dX7_fewest_122 : decode cX7_fewest 122 = .ok (.goto 22, 3) := by decide +kernel
theorem dX7_fewest_125 : dI cX7_fewest 125 127 (.iload 4) 2 := ⟨by decide +kernel, rfl⟩
theorem dX7_fewest_127 : dI cX7_fewest 127 129 (.iload 6) 2 := ⟨by decide +kernel, rfl⟩
theorem dX7_fewest_129 : decode cX7_fewest 129 = .ok (.if_icmp .ge 13, 3) := by decide +kernel
theorem dX7_fewest_132 : dI cX7_fewest 132 133 (.aload_n 0) 1 := ⟨by decide +kernel, rfl⟩
theorem dX7_fewest_133 : dI cX7_fewest 133 136 (.getfield 22) 3 := ⟨by decide +kernel, rfl⟩
theorem dX7_fewest_136 : dI cX7_fewest 136 138 (.iload 4) 2 := ⟨by decide +kernel, rfl⟩
theorem dX7_fewest_138 : dI cX7_fewest 138 139 (.iaload) 1 := ⟨by decide +kernel, rfl⟩
theorem dX7_fewest_139 : decode cX7_fewest 139 = .ok (.goto 5, 3) := by decide +kernel
theorem dX7_fewest_142 : dI cX7_fewest 142 144 (.ldc 78) 2 := ⟨by decide +kernel, rfl⟩
theorem dX7_fewest_144 : dI cX7_fewest 144 145 (.ireturn) 1 := ⟨by decide +kernel, rfl⟩
def f_X7_fewest_b91 (l0 : Nat) (l4 : Int32) (l5 : Int32) (l6 : Int32) (s : hS) : Option (Int32 × hS) :=
  (cV s l0 7 (f_X7_putsBack s l0 (3 : Int32))).bind fun p1 =>
  (gR p1.2 l0 7 0).bind fun a2 =>
  (sI p1.2 a2 10 (6 : Int32) l5).bind fun s3 =>
  if 0 ≤ l6 then
    if 0 ≤ l4 then
      if l6 ≤ l4 then
        some ((-1000000005 : Int32), s3)
      else
        (gR s3 l0 7 5).bind fun a4 =>
        (aI s3 a4 10 l4).bind fun x5 =>
        some (x5, s3)
    else
      some (l6, s3)
  else
    some ((-1000000005 : Int32), s3)
theorem b_X7_fewest_91 (E : jE)  (s : hS) (l0 : Nat) (l4 : Int32) (l5 : Int32) (l6 : Int32)  : Jo E M_X7_fewest cvI 91 [(0, .ref l0), (4, .int l4), (5, .int l5), (6, .int l6)] [] s (f_X7_fewest_b91  l0 l4 l5 l6 s) := by
  unfold f_X7_fewest_b91
  refine Jo_aloadn 0 dX7_fewest_91 rfl rfl ?_
  refine Jo_iconst (v := (3 : Int32)) dX7_fewest_92 (by decide) ?_
  refine Jo_callVv (a := l0) (rest := []) [.int (3 : Int32)] cc_7 yF_X7_putsBack yV_X7_putsBack w_827 rfl rfl ⟨Nat.le_of_ble_eq_true rfl, Nat.le_of_ble_eq_true rfl, Nat.le_of_ble_eq_true rfl⟩ dX7_fewest_93 rfl (K_X7_putsBack E s l0 (3 : Int32)) (fun p1 => ?_)
  refine Jo_aloadn 0 dX7_fewest_96 rfl rfl ?_
  refine Jo_getR fF_7_0 fR_7_0 dX7_fewest_97 w_598 (fun a2 => ?_)
  refine Jo_bipush (v := (6 : Int32)) dX7_fewest_100 (by decide) ?_
  refine Jo_iload 2 dX7_fewest_102 rfl ?_
  refine Jo_iastore dX7_fewest_104 (fun s3 => ?_)
  refine Jo_iload 3 dX7_fewest_105 rfl ?_
  refine Jo_if_ge 115 dX7_fewest_107 (by decide) rfl ?_ ?_
  · refine Jo_iload 1 dX7_fewest_115 rfl ?_
    refine Jo_if_ge 125 dX7_fewest_117 (by decide) rfl ?_ ?_
    · refine Jo_iload 1 dX7_fewest_125 rfl ?_
      refine Jo_iload 3 dX7_fewest_127 rfl ?_
      refine Jo_icmp_ge 142 dX7_fewest_129 (by decide) rfl ?_ ?_
      · refine Jo_ldc dX7_fewest_142 w_632 ?_
        exact Jo_iret rfl dX7_fewest_144
      · refine Jo_aloadn 0 dX7_fewest_132 rfl rfl ?_
        refine Jo_getR fF_7_5 fR_7_5 dX7_fewest_133 w_618 (fun a4 => ?_)
        refine Jo_iload 1 dX7_fewest_136 rfl ?_
        refine Jo_iaload dX7_fewest_138 (fun x5 => ?_)
        refine Jo_goto 144 dX7_fewest_139 (by decide) ?_
        exact Jo_iret rfl dX7_fewest_144
    · refine Jo_iload 3 dX7_fewest_120 rfl ?_
      refine Jo_goto 144 dX7_fewest_122 (by decide) ?_
      exact Jo_iret rfl dX7_fewest_144
  · refine Jo_ldc dX7_fewest_110 w_632 ?_
    refine Jo_goto 144 dX7_fewest_112 (by decide) ?_
    exact Jo_iret rfl dX7_fewest_144
def f_X7_fewest_b83 (k54 : Nat → Int32 → Int32 → Int32 → Int32 → Int32 → Int32 → Int32 → hS → Option (Int32 × hS)) (l0 : Nat) (l1 : Int32) (l2 : Int32) (l3 : Int32) (l4 : Int32) (l5 : Int32) (l7 : Int32) (t0 : Int32) (s : hS) : Option (Int32 × hS) :=
  k54 l0 l1 l2 l3 l4 l5 t0 (l7 + (1 : Int32)) s
theorem b_X7_fewest_83 (E : jE) (k54 : Nat → Int32 → Int32 → Int32 → Int32 → Int32 → Int32 → Int32 → hS → Option (Int32 × hS)) (h54 : ∀ (s : hS) (l0 : Nat) (l1 : Int32) (l2 : Int32) (l3 : Int32) (l4 : Int32) (l5 : Int32) (l6 : Int32) (l7 : Int32) , Jo E M_X7_fewest cvI 54 [(0, .ref l0), (1, .int l1), (2, .int l2), (3, .int l3), (4, .int l4), (5, .int l5), (6, .int l6), (7, .int l7)] [] s (k54 l0 l1 l2 l3 l4 l5 l6 l7 s)) (s : hS) (l0 : Nat) (l1 : Int32) (l2 : Int32) (l3 : Int32) (l4 : Int32) (l5 : Int32) (l7 : Int32) (t0 : Int32) : Jo E M_X7_fewest cvI 83 [(0, .ref l0), (1, .int l1), (2, .int l2), (3, .int l3), (4, .int l4), (5, .int l5), (7, .int l7)] [.int t0] s (f_X7_fewest_b83 k54 l0 l1 l2 l3 l4 l5 l7 t0 s) := by
  unfold f_X7_fewest_b83
  refine Jo_istore (ls' := [(6, .int t0), (0, .ref l0), (1, .int l1), (2, .int l2), (3, .int l3), (4, .int l4), (5, .int l5), (7, .int l7)]) dX7_fewest_83 (by decide) rfl ?_
  refine Jo_iinc (v := (l7 + (1 : Int32))) (ls' := [(7, .int (l7 + (1 : Int32))), (6, .int t0), (0, .ref l0), (1, .int l1), (2, .int l2), (3, .int l3), (4, .int l4), (5, .int l5)]) 7 dX7_fewest_85 rfl rfl (by decide) rfl ?_
  refine Jo_goto 54 dX7_fewest_88 (by decide) ?_
  refine Jo_sub [2, 3, 4, 5, 6, 7, 1, 0] rfl ?_
  exact h54 s l0 l1 l2 l3 l4 l5 t0 (l7 + (1 : Int32))
def f_X7_fewest_b54 (k54 : Nat → Int32 → Int32 → Int32 → Int32 → Int32 → Int32 → Int32 → hS → Option (Int32 × hS)) (l0 : Nat) (l1 : Int32) (l2 : Int32) (l3 : Int32) (l4 : Int32) (l5 : Int32) (l6 : Int32) (l7 : Int32) (s : hS) : Option (Int32 × hS) :=
  if l3 < l7 then
    f_X7_fewest_b91 l0 l4 l5 l6 s
  else
    if 0 ≤ l6 then
      f_X7_fewest_b91 l0 l4 l5 l6 s
    else
      (cV s l0 7 (f_X7_comesToKnow 6 s l0 l1 l2 (0 : Int32) l7)).bind fun p1 =>
      if p1.1 = 0 then
        f_X7_fewest_b83 k54 l0 l1 l2 l3 l4 l5 l7 (-1 : Int32) p1.2
      else
        f_X7_fewest_b83 k54 l0 l1 l2 l3 l4 l5 l7 l7 p1.2
theorem b_X7_fewest_54 (E : jE) (k54 : Nat → Int32 → Int32 → Int32 → Int32 → Int32 → Int32 → Int32 → hS → Option (Int32 × hS)) (h54 : ∀ (s : hS) (l0 : Nat) (l1 : Int32) (l2 : Int32) (l3 : Int32) (l4 : Int32) (l5 : Int32) (l6 : Int32) (l7 : Int32) , Jo E M_X7_fewest cvI 54 [(0, .ref l0), (1, .int l1), (2, .int l2), (3, .int l3), (4, .int l4), (5, .int l5), (6, .int l6), (7, .int l7)] [] s (k54 l0 l1 l2 l3 l4 l5 l6 l7 s)) (s : hS) (l0 : Nat) (l1 : Int32) (l2 : Int32) (l3 : Int32) (l4 : Int32) (l5 : Int32) (l6 : Int32) (l7 : Int32)  : Jo E M_X7_fewest cvI 54 [(0, .ref l0), (1, .int l1), (2, .int l2), (3, .int l3), (4, .int l4), (5, .int l5), (6, .int l6), (7, .int l7)] [] s (f_X7_fewest_b54 k54 l0 l1 l2 l3 l4 l5 l6 l7 s) := by
  unfold f_X7_fewest_b54
  refine Jo_iload 7 dX7_fewest_54 rfl ?_
  refine Jo_iloadn 3 dX7_fewest_56 rfl rfl ?_
  refine Jo_icmp_gt 91 dX7_fewest_57 (by decide) rfl ?_ ?_
  · refine Jo_sub [0, 4, 5, 6] rfl ?_
    exact b_X7_fewest_91 E s l0 l4 l5 l6
  · refine Jo_iload 6 dX7_fewest_60 rfl ?_
    refine Jo_if_ge 91 dX7_fewest_62 (by decide) rfl ?_ ?_
    · refine Jo_sub [0, 4, 5, 6] rfl ?_
      exact b_X7_fewest_91 E s l0 l4 l5 l6
    · refine Jo_aloadn 0 dX7_fewest_65 rfl rfl ?_
      refine Jo_iloadn 1 dX7_fewest_66 rfl rfl ?_
      refine Jo_iloadn 2 dX7_fewest_67 rfl rfl ?_
      refine Jo_iconst (v := (0 : Int32)) dX7_fewest_68 (by decide) ?_
      refine Jo_iload 7 dX7_fewest_69 rfl ?_
      refine Jo_callVi (a := l0) (rest := []) [.int l1, .int l2, .int (0 : Int32), .int l7] cc_7 yF_X7_comesToKnow yV_X7_comesToKnow w_828 rfl rfl ⟨Nat.le_of_ble_eq_true rfl, Nat.le_of_ble_eq_true rfl, Nat.le_of_ble_eq_true rfl⟩ dX7_fewest_71 rfl (K_X7_comesToKnow E 6 s l0 l1 l2 (0 : Int32) l7) (fun p1 => ?_)
      refine Jo_if_eq 82 dX7_fewest_74 (by decide) rfl ?_ ?_
      · refine Jo_iconst (v := (-1 : Int32)) dX7_fewest_82 (by decide) ?_
        refine Jo_sub [0, 1, 2, 3, 4, 5, 7] rfl ?_
        exact b_X7_fewest_83 E k54 h54 p1.2 l0 l1 l2 l3 l4 l5 l7 (-1 : Int32)
      · refine Jo_iload 7 dX7_fewest_77 rfl ?_
        refine Jo_goto 83 dX7_fewest_79 (by decide) ?_
        refine Jo_sub [0, 1, 2, 3, 4, 5, 7] rfl ?_
        exact b_X7_fewest_83 E k54 h54 p1.2 l0 l1 l2 l3 l4 l5 l7 l7
theorem e_X7_fewest_54 (E : jE)  (n : Nat) : ∀ (s : hS) (l0 : Nat) (l1 : Int32) (l2 : Int32) (l3 : Int32) (l4 : Int32) (l5 : Int32) (l6 : Int32) (l7 : Int32) , Jo E M_X7_fewest cvI 54 [(0, .ref l0), (1, .int l1), (2, .int l2), (3, .int l3), (4, .int l4), (5, .int l5), (6, .int l6), (7, .int l7)] [] s ((jL f_X7_fewest_b54 (fun _ _ _ _ _ _ _ _ _ => none) n) l0 l1 l2 l3 l4 l5 l6 l7 s) :=
  jL_ind (P := fun f => ∀ (s : hS) (l0 : Nat) (l1 : Int32) (l2 : Int32) (l3 : Int32) (l4 : Int32) (l5 : Int32) (l6 : Int32) (l7 : Int32) , Jo E M_X7_fewest cvI 54 [(0, .ref l0), (1, .int l1), (2, .int l2), (3, .int l3), (4, .int l4), (5, .int l5), (6, .int l6), (7, .int l7)] [] s (f l0 l1 l2 l3 l4 l5 l6 l7 s)) (fun _ _ _ _ _ _ _ _ _ => Jo_none) (fun b hb s l0 l1 l2 l3 l4 l5 l6 l7 => b_X7_fewest_54 E  b hb s l0 l1 l2 l3 l4 l5 l6 l7) n
def f_X7_fewest (s : hS) (a0 : Nat) (i1 : Int32) (i2 : Int32) (i3 : Int32) (i4 : Int32) : Option (Int32 × hS) :=
  (cV s a0 7 (f_X7_isPerson s a0 i1)).bind fun p1 =>
  if p1.1 = 0 then
    some ((-1000000001 : Int32), p1.2)
  else
    (cV p1.2 a0 7 (f_X7_isFact p1.2 a0 i2)).bind fun p2 =>
    if p2.1 = 0 then
      some ((-1000000001 : Int32), p2.2)
    else
      (f_X7_in p2.2 i3 (0 : Int32) (3 : Int32)).bind fun p3 =>
      if p3.1 = 0 then
        some ((-1000000001 : Int32), p3.2)
      else
        if (-1 : Int32) ≤ i4 then
          (gR p3.2 a0 7 0).bind fun a4 =>
          (aI p3.2 a4 10 (6 : Int32)).bind fun x5 =>
          (cV p3.2 a0 7 (f_X7_keepsAhead p3.2 a0 (3 : Int32))).bind fun p6 =>
          jL f_X7_fewest_b54 (fun _ _ _ _ _ _ _ _ _ => none) jF a0 i1 i2 i3 i4 x5 (-1 : Int32) (0 : Int32) p6.2
        else
          some ((-1000000001 : Int32), p3.2)
theorem b_X7_fewest_in (E : jE)  (s : hS) (a0 : Nat) (i1 : Int32) (i2 : Int32) (i3 : Int32) (i4 : Int32)  : Jo E M_X7_fewest cvI 0 [(0, .ref a0), (1, .int i1), (2, .int i2), (3, .int i3), (4, .int i4)] [] s (f_X7_fewest s a0 i1 i2 i3 i4) := by
  unfold f_X7_fewest
  refine Jo_aloadn 0 dX7_fewest_0 rfl rfl ?_
  refine Jo_iloadn 1 dX7_fewest_1 rfl rfl ?_
  refine Jo_callVi (a := a0) (rest := []) [.int i1] cc_7 yF_X7_isPerson yV_X7_isPerson w_704 rfl rfl ⟨Nat.le_of_ble_eq_true rfl, Nat.le_of_ble_eq_true rfl, Nat.le_of_ble_eq_true rfl⟩ dX7_fewest_2 rfl (K_X7_isPerson E s a0 i1) (fun p1 => ?_)
  refine Jo_if_eq 31 dX7_fewest_5 (by decide) rfl ?_ ?_
  · refine Jo_ldc dX7_fewest_31 w_673 ?_
    exact Jo_iret rfl dX7_fewest_33
  · refine Jo_aloadn 0 dX7_fewest_8 rfl rfl ?_
    refine Jo_iloadn 2 dX7_fewest_9 rfl rfl ?_
    refine Jo_callVi (a := a0) (rest := []) [.int i2] cc_7 yF_X7_isFact yV_X7_isFact w_683 rfl rfl ⟨Nat.le_of_ble_eq_true rfl, Nat.le_of_ble_eq_true rfl, Nat.le_of_ble_eq_true rfl⟩ dX7_fewest_10 rfl (K_X7_isFact E p1.2 a0 i2) (fun p2 => ?_)
    refine Jo_if_eq 31 dX7_fewest_13 (by decide) rfl ?_ ?_
    · refine Jo_ldc dX7_fewest_31 w_673 ?_
      exact Jo_iret rfl dX7_fewest_33
    · refine Jo_iloadn 3 dX7_fewest_16 rfl rfl ?_
      refine Jo_iconst (v := (0 : Int32)) dX7_fewest_17 (by decide) ?_
      refine Jo_iconst (v := (3 : Int32)) dX7_fewest_18 (by decide) ?_
      refine Jo_callSi (rest := []) [.int i3, .int (0 : Int32), .int (3 : Int32)] yF_X7_in yS_X7_in w_635 rfl rfl ⟨Nat.le_of_ble_eq_true rfl, Nat.le_of_ble_eq_true rfl, Nat.le_of_ble_eq_true rfl⟩ dX7_fewest_19 rfl (K_X7_in E p2.2 i3 (0 : Int32) (3 : Int32)) (fun p3 => ?_)
      refine Jo_if_eq 31 dX7_fewest_22 (by decide) rfl ?_ ?_
      · refine Jo_ldc dX7_fewest_31 w_673 ?_
        exact Jo_iret rfl dX7_fewest_33
      · refine Jo_iload 4 dX7_fewest_25 rfl ?_
        refine Jo_iconst (v := (-1 : Int32)) dX7_fewest_27 (by decide) ?_
        refine Jo_icmp_ge 34 dX7_fewest_28 (by decide) rfl ?_ ?_
        · refine Jo_aloadn 0 dX7_fewest_34 rfl rfl ?_
          refine Jo_getR fF_7_0 fR_7_0 dX7_fewest_35 w_598 (fun a4 => ?_)
          refine Jo_bipush (v := (6 : Int32)) dX7_fewest_38 (by decide) ?_
          refine Jo_iaload dX7_fewest_40 (fun x5 => ?_)
          refine Jo_istore (ls' := [(5, .int x5), (0, .ref a0), (1, .int i1), (2, .int i2), (3, .int i3), (4, .int i4)]) dX7_fewest_41 (by decide) rfl ?_
          refine Jo_aloadn 1 dX7_fewest_43 rfl rfl ?_
          refine Jo_iconst (v := (3 : Int32)) dX7_fewest_44 (by decide) ?_
          refine Jo_callVv (a := a0) (rest := []) [.int (3 : Int32)] cc_7 yF_X7_keepsAhead yV_X7_keepsAhead w_829 rfl rfl ⟨Nat.le_of_ble_eq_true rfl, Nat.le_of_ble_eq_true rfl, Nat.le_of_ble_eq_true rfl⟩ dX7_fewest_45 rfl (K_X7_keepsAhead E p3.2 a0 (3 : Int32)) (fun p6 => ?_)
          refine Jo_iconst (v := (-1 : Int32)) dX7_fewest_48 (by decide) ?_
          refine Jo_istore (ls' := [(6, .int (-1 : Int32)), (5, .int x5), (0, .ref a0), (1, .int i1), (2, .int i2), (3, .int i3), (4, .int i4)]) dX7_fewest_49 (by decide) rfl ?_
          refine Jo_iconst (v := (0 : Int32)) dX7_fewest_51 (by decide) ?_
          refine Jo_istore (ls' := [(7, .int (0 : Int32)), (6, .int (-1 : Int32)), (5, .int x5), (0, .ref a0), (1, .int i1), (2, .int i2), (3, .int i3), (4, .int i4)]) dX7_fewest_52 (by decide) rfl ?_
          refine Jo_sub [3, 4, 5, 6, 7, 2, 1, 0] rfl ?_
          exact e_X7_fewest_54 E jF p6.2 a0 i1 i2 i3 i4 x5 (-1 : Int32) (0 : Int32)
        · refine Jo_ldc dX7_fewest_31 w_673 ?_
          exact Jo_iret rfl dX7_fewest_33
theorem K_X7_fewest (E : jE) (s : hS) (a0 : Nat) (i1 : Int32) (i2 : Int32) (i3 : Int32) (i4 : Int32) : jK E yX7_fewest M_X7_fewest cvI [.ref a0, .int i1, .int i2, .int i3, .int i4] s (f_X7_fewest s a0 i1 i2 i3 i4) := jK_of ⟨by decide, rfl, rfl⟩ (Nat.le_of_ble_eq_true rfl) (b_X7_fewest_in E s a0 i1 i2 i3 i4)
/-! HeronTalkModel.lookOf(I)I -/
abbrev M_X7_lookOf : jM := (RX7, cX7_lookOf, 4, (some .int), "lookOf", 3, 66)
theorem yF_X7_lookOf : yF yX7_lookOf M_X7_lookOf 1 := ⟨w_836, w_624, by decide +kernel⟩
theorem yV_X7_lookOf : Cond.instanceMethod yX7_lookOf ∈ tbG ∧ Cond.selects yX7_lookOf.cls yX7_lookOf yX7_lookOf ∈ tbG := ⟨w_837, w_838⟩
theorem dX7_lookOf_0 : dI cX7_lookOf 0 1 (.aload_n 0) 1 := ⟨by decide +kernel, rfl⟩
theorem dX7_lookOf_1 : dI cX7_lookOf 1 2 (.iload_n 1) 1 := ⟨by decide +kernel, rfl⟩
theorem dX7_lookOf_2 : decode cX7_lookOf 2 = .ok (.invokevirtual 100, 3) := by decide +kernel
theorem dX7_lookOf_5 : decode cX7_lookOf 5 = .ok (.invokestatic 132, 3) := by decide +kernel
theorem dX7_lookOf_8 : dI cX7_lookOf 8 9 (.istore_n 2) 1 := ⟨by decide +kernel, rfl⟩
theorem dX7_lookOf_9 : dI cX7_lookOf 9 10 (.aload_n 0) 1 := ⟨by decide +kernel, rfl⟩
theorem dX7_lookOf_10 : dI cX7_lookOf 10 11 (.iconst 1) 1 := ⟨by decide +kernel, rfl⟩
theorem dX7_lookOf_11 : decode cX7_lookOf 11 = .ok (.invokevirtual 129, 3) := by decide +kernel
theorem dX7_lookOf_14 : dI cX7_lookOf 14 15 (.istore_n 3) 1 := ⟨by decide +kernel, rfl⟩
theorem dX7_lookOf_15 : dI cX7_lookOf 15 16 (.aload_n 0) 1 := ⟨by decide +kernel, rfl⟩
theorem dX7_lookOf_16 : dI cX7_lookOf 16 19 (.getfield 48) 3 := ⟨by decide +kernel, rfl⟩
theorem dX7_lookOf_19 : dI cX7_lookOf 19 20 (.iconst 0) 1 := ⟨by decide +kernel, rfl⟩
theorem dX7_lookOf_20 : dI cX7_lookOf 20 21 (.aload_n 0) 1 := ⟨by decide +kernel, rfl⟩
theorem dX7_lookOf_21 : dI cX7_lookOf 21 22 (.iload_n 1) 1 := ⟨by decide +kernel, rfl⟩
theorem dX7_lookOf_22 : decode cX7_lookOf 22 = .ok (.invokevirtual 107, 3) := by decide +kernel
theorem dX7_lookOf_25 : dI cX7_lookOf 25 26 (.iastore) 1 := ⟨by decide +kernel, rfl⟩
theorem dX7_lookOf_26 : dI cX7_lookOf 26 27 (.aload_n 0) 1 := ⟨by decide +kernel, rfl⟩
theorem dX7_lookOf_27 : dI cX7_lookOf 27 30 (.getfield 48) 3 := ⟨by decide +kernel, rfl⟩
theorem dX7_lookOf_30 : dI cX7_lookOf 30 31 (.iconst 1) 1 := ⟨by decide +kernel, rfl⟩
theorem dX7_lookOf_31 : dI cX7_lookOf 31 32 (.iload_n 2) 1 := ⟨by decide +kernel, rfl⟩
theorem dX7_lookOf_32 : dI cX7_lookOf 32 33 (.iastore) 1 := ⟨by decide +kernel, rfl⟩
theorem dX7_lookOf_33 : dI cX7_lookOf 33 34 (.iload_n 3) 1 := ⟨by decide +kernel, rfl⟩
theorem dX7_lookOf_34 : decode cX7_lookOf 34 = .ok (.ifCond .ge 10, 3) := by decide +kernel
theorem dX7_lookOf_37 : dI cX7_lookOf 37 39 (.bipush 10) 2 := ⟨by decide +kernel, rfl⟩
theorem dX7_lookOf_39 : dI cX7_lookOf 39 40 (.iload_n 2) 1 := ⟨by decide +kernel, rfl⟩
theorem dX7_lookOf_40 : dI cX7_lookOf 40 41 (.isub) 1 := ⟨by decide +kernel, rfl⟩
theorem dX7_lookOf_41 : decode cX7_lookOf 41 = .ok (.goto 14, 3) := by decide +kernel
theorem dX7_lookOf_44 : dI cX7_lookOf 44 45 (.aload_n 0) 1 := ⟨by decide +kernel, rfl⟩
theorem dX7_lookOf_45 : dI cX7_lookOf 45 46 (.iload_n 3) 1 := ⟨by decide +kernel, rfl⟩
theorem dX7_lookOf_46 : decode cX7_lookOf 46 = .ok (.invokevirtual 135, 3) := by decide +kernel
theorem dX7_lookOf_49 : dI cX7_lookOf 49 50 (.iconst 1) 1 := ⟨by decide +kernel, rfl⟩
theorem dX7_lookOf_50 : dI cX7_lookOf 50 52 (.bipush 99) 2 := ⟨by decide +kernel, rfl⟩
theorem dX7_lookOf_52 : decode cX7_lookOf 52 = .ok (.invokestatic 138, 3) := by decide +kernel
theorem dX7_lookOf_55 : dI cX7_lookOf 55 56 (.ireturn) 1 := ⟨by decide +kernel, rfl⟩
def f_X7_lookOf (s : hS) (a0 : Nat) (i1 : Int32) : Option (Int32 × hS) :=
  (cV s a0 7 (f_X7_knowers s a0 i1)).bind fun p1 =>
  (f_X7_bitsOf p1.2 p1.1).bind fun p2 =>
  (cV p2.2 a0 7 (f_X7_counts p2.2 a0 (1 : Int32))).bind fun p3 =>
  (gR p3.2 a0 7 23).bind fun a4 =>
  (cV p3.2 a0 7 (f_X7_worthOf p3.2 a0 i1)).bind fun p5 =>
  (sI p5.2 a4 10 (0 : Int32) p5.1).bind fun s6 =>
  (gR s6 a0 7 23).bind fun a7 =>
  (sI s6 a7 10 (1 : Int32) p2.1).bind fun s8 =>
  if 0 ≤ p3.1 then
    (cV s8 a0 7 (f_X7_worksOut s8 a0 p3.1)).bind fun p9 =>
    (f_X7_within p9.2 p9.1 (1 : Int32) (99 : Int32)).bind fun p10 =>
    some (p10.1, p10.2)
  else
    some (((10 : Int32) - p2.1), s8)
theorem b_X7_lookOf_in (E : jE)  (s : hS) (a0 : Nat) (i1 : Int32)  : Jo E M_X7_lookOf cvI 0 [(0, .ref a0), (1, .int i1)] [] s (f_X7_lookOf s a0 i1) := by
  unfold f_X7_lookOf
  refine Jo_aloadn 0 dX7_lookOf_0 rfl rfl ?_
  refine Jo_iloadn 1 dX7_lookOf_1 rfl rfl ?_
  refine Jo_callVi (a := a0) (rest := []) [.int i1] cc_7 yF_X7_knowers yV_X7_knowers w_681 rfl rfl ⟨Nat.le_of_ble_eq_true rfl, Nat.le_of_ble_eq_true rfl, Nat.le_of_ble_eq_true rfl⟩ dX7_lookOf_2 rfl (K_X7_knowers E s a0 i1) (fun p1 => ?_)
  refine Jo_callSi (rest := []) [.int p1.1] yF_X7_bitsOf yS_X7_bitsOf w_727 rfl rfl ⟨Nat.le_of_ble_eq_true rfl, Nat.le_of_ble_eq_true rfl, Nat.le_of_ble_eq_true rfl⟩ dX7_lookOf_5 rfl (K_X7_bitsOf E p1.2 p1.1) (fun p2 => ?_)
  refine Jo_istoren (ls' := [(2, .int p2.1), (0, .ref a0), (1, .int i1)]) dX7_lookOf_8 rfl (by decide) rfl ?_
  refine Jo_aloadn 1 dX7_lookOf_9 rfl rfl ?_
  refine Jo_iconst (v := (1 : Int32)) dX7_lookOf_10 (by decide) ?_
  refine Jo_callVi (a := a0) (rest := []) [.int (1 : Int32)] cc_7 yF_X7_counts yV_X7_counts w_728 rfl rfl ⟨Nat.le_of_ble_eq_true rfl, Nat.le_of_ble_eq_true rfl, Nat.le_of_ble_eq_true rfl⟩ dX7_lookOf_11 rfl (K_X7_counts E p2.2 a0 (1 : Int32)) (fun p3 => ?_)
  refine Jo_istoren (ls' := [(3, .int p3.1), (2, .int p2.1), (0, .ref a0), (1, .int i1)]) dX7_lookOf_14 rfl (by decide) rfl ?_
  refine Jo_aloadn 2 dX7_lookOf_15 rfl rfl ?_
  refine Jo_getR fF_7_23 fR_7_23 dX7_lookOf_16 w_608 (fun a4 => ?_)
  refine Jo_iconst (v := (0 : Int32)) dX7_lookOf_19 (by decide) ?_
  refine Jo_aloadn 2 dX7_lookOf_20 rfl rfl ?_
  refine Jo_iloadn 3 dX7_lookOf_21 rfl rfl ?_
  refine Jo_callVi (a := a0) (rest := [.int (0 : Int32), .ref a4]) [.int i1] cc_7 yF_X7_worthOf yV_X7_worthOf w_697 rfl rfl ⟨Nat.le_of_ble_eq_true rfl, Nat.le_of_ble_eq_true rfl, Nat.le_of_ble_eq_true rfl⟩ dX7_lookOf_22 rfl (K_X7_worthOf E p3.2 a0 i1) (fun p5 => ?_)
  refine Jo_iastore dX7_lookOf_25 (fun s6 => ?_)
  refine Jo_aloadn 2 dX7_lookOf_26 rfl rfl ?_
  refine Jo_getR fF_7_23 fR_7_23 dX7_lookOf_27 w_608 (fun a7 => ?_)
  refine Jo_iconst (v := (1 : Int32)) dX7_lookOf_30 (by decide) ?_
  refine Jo_iloadn 1 dX7_lookOf_31 rfl rfl ?_
  refine Jo_iastore dX7_lookOf_32 (fun s8 => ?_)
  refine Jo_iloadn 0 dX7_lookOf_33 rfl rfl ?_
  refine Jo_if_ge 44 dX7_lookOf_34 (by decide) rfl ?_ ?_
  · refine Jo_aloadn 2 dX7_lookOf_44 rfl rfl ?_
    refine Jo_iloadn 0 dX7_lookOf_45 rfl rfl ?_
    refine Jo_callVi (a := a0) (rest := []) [.int p3.1] cc_7 yF_X7_worksOut yV_X7_worksOut w_726 rfl rfl ⟨Nat.le_of_ble_eq_true rfl, Nat.le_of_ble_eq_true rfl, Nat.le_of_ble_eq_true rfl⟩ dX7_lookOf_46 rfl (K_X7_worksOut E s8 a0 p3.1) (fun p9 => ?_)
    refine Jo_iconst (v := (1 : Int32)) dX7_lookOf_49 (by decide) ?_
    refine Jo_bipush (v := (99 : Int32)) dX7_lookOf_50 (by decide) ?_
    refine Jo_callSi (rest := []) [.int p9.1, .int (1 : Int32), .int (99 : Int32)] yF_X7_within yS_X7_within w_725 rfl rfl ⟨Nat.le_of_ble_eq_true rfl, Nat.le_of_ble_eq_true rfl, Nat.le_of_ble_eq_true rfl⟩ dX7_lookOf_52 rfl (K_X7_within E p9.2 p9.1 (1 : Int32) (99 : Int32)) (fun p10 => ?_)
    exact Jo_iret rfl dX7_lookOf_55
  · refine Jo_bipush (v := (10 : Int32)) dX7_lookOf_37 (by decide) ?_
    refine Jo_iloadn 1 dX7_lookOf_39 rfl rfl ?_
    refine Jo_isub dX7_lookOf_40 ?_
    refine Jo_goto 55 dX7_lookOf_41 (by decide) ?_
    exact Jo_iret rfl dX7_lookOf_55
theorem K_X7_lookOf (E : jE) (s : hS) (a0 : Nat) (i1 : Int32) : jK E yX7_lookOf M_X7_lookOf cvI [.ref a0, .int i1] s (f_X7_lookOf s a0 i1) := jK_of ⟨by decide, rfl, rfl⟩ (Nat.le_of_ble_eq_true rfl) (b_X7_lookOf_in E s a0 i1)
/-! HeronTalkModel.look(II)I -/
abbrev M_X7_look : jM := (RX7, cX7_look, 3, (some .int), "look", 4, 89)
theorem yF_X7_look : yF yX7_look M_X7_look 2 := ⟨w_840, w_624, by decide +kernel⟩
theorem yV_X7_look : Cond.instanceMethod yX7_look ∈ tbG ∧ Cond.selects yX7_look.cls yX7_look yX7_look ∈ tbG := ⟨w_841, w_842⟩
theorem dX7_look_0 : dI cX7_look 0 1 (.aload_n 0) 1 := ⟨by decide +kernel, rfl⟩
theorem dX7_look_1 : dI cX7_look 1 2 (.iload_n 1) 1 := ⟨by decide +kernel, rfl⟩
theorem dX7_look_2 : decode cX7_look 2 = .ok (.invokevirtual 110, 3) := by decide +kernel
theorem dX7_look_5 : decode cX7_look 5 = .ok (.ifCond .eq 11, 3) := by decide +kernel
theorem dX7_look_8 : dI cX7_look 8 9 (.aload_n 0) 1 := ⟨by decide +kernel, rfl⟩
theorem dX7_look_9 : dI cX7_look 9 10 (.iload_n 2) 1 := ⟨by decide +kernel, rfl⟩
theorem dX7_look_10 : decode cX7_look 10 = .ok (.invokevirtual 93, 3) := by decide +kernel
theorem dX7_look_13 : decode cX7_look 13 = .ok (.ifCond .ne 6, 3) := by decide +kernel
theorem dX7_look_16 : dI cX7_look 16 18 (.ldc 87) 2 := ⟨by decide +kernel, rfl⟩
theorem dX7_look_18 : dI cX7_look 18 19 (.ireturn) 1 := ⟨by decide +kernel, rfl⟩
theorem dX7_look_19 : dI cX7_look 19 20 (.aload_n 0) 1 := ⟨by decide +kernel, rfl⟩
theorem dX7_look_20 : dI cX7_look 20 21 (.iload_n 1) 1 := ⟨by decide +kernel, rfl⟩
theorem dX7_look_21 : dI cX7_look 21 22 (.iload_n 2) 1 := ⟨by decide +kernel, rfl⟩
theorem dX7_look_22 : decode cX7_look 22 = .ok (.invokevirtual 89, 3) := by decide +kernel
theorem dX7_look_25 : decode cX7_look 25 = .ok (.ifCond .eq 8, 3) := by decide +kernel
theorem dX7_look_28 : dI cX7_look 28 30 (.ldc 189) 2 := ⟨by decide +kernel, rfl⟩
theorem dX7_look_30 : decode cX7_look 30 = .ok (.goto 8, 3) := by decide +kernel
theorem dX7_look_33 : dI cX7_look 33 34 (.aload_n 0) 1 := ⟨by decide +kernel, rfl⟩
theorem dX7_look_34 : dI cX7_look 34 35 (.iload_n 2) 1 := ⟨by decide +kernel, rfl⟩
theorem dX7_look_35 : decode cX7_look 35 = .ok (.invokevirtual 204, 3) := by decide +kernel
theorem dX7_look_38 : dI cX7_look 38 39 (.ireturn) 1 := ⟨by decide +kernel, rfl⟩
def f_X7_look (s : hS) (a0 : Nat) (i1 : Int32) (i2 : Int32) : Option (Int32 × hS) :=
  (cV s a0 7 (f_X7_isPerson s a0 i1)).bind fun p1 =>
  if p1.1 = 0 then
    some ((-1000000001 : Int32), p1.2)
  else
    (cV p1.2 a0 7 (f_X7_isFact p1.2 a0 i2)).bind fun p2 =>
    if p2.1 = 0 then
      some ((-1000000001 : Int32), p2.2)
    else
      (cV p2.2 a0 7 (f_X7_doesKnow p2.2 a0 i1 i2)).bind fun p3 =>
      if p3.1 = 0 then
        (cV p3.2 a0 7 (f_X7_lookOf p3.2 a0 i2)).bind fun p4 =>
        some (p4.1, p4.2)
      else
        some ((-1000000002 : Int32), p3.2)
theorem b_X7_look_in (E : jE)  (s : hS) (a0 : Nat) (i1 : Int32) (i2 : Int32)  : Jo E M_X7_look cvI 0 [(0, .ref a0), (1, .int i1), (2, .int i2)] [] s (f_X7_look s a0 i1 i2) := by
  unfold f_X7_look
  refine Jo_aloadn 0 dX7_look_0 rfl rfl ?_
  refine Jo_iloadn 1 dX7_look_1 rfl rfl ?_
  refine Jo_callVi (a := a0) (rest := []) [.int i1] cc_7 yF_X7_isPerson yV_X7_isPerson w_704 rfl rfl ⟨Nat.le_of_ble_eq_true rfl, Nat.le_of_ble_eq_true rfl, Nat.le_of_ble_eq_true rfl⟩ dX7_look_2 rfl (K_X7_isPerson E s a0 i1) (fun p1 => ?_)
  refine Jo_if_eq 16 dX7_look_5 (by decide) rfl ?_ ?_
  · refine Jo_ldc dX7_look_16 w_673 ?_
    exact Jo_iret rfl dX7_look_18
  · refine Jo_aloadn 0 dX7_look_8 rfl rfl ?_
    refine Jo_iloadn 2 dX7_look_9 rfl rfl ?_
    refine Jo_callVi (a := a0) (rest := []) [.int i2] cc_7 yF_X7_isFact yV_X7_isFact w_683 rfl rfl ⟨Nat.le_of_ble_eq_true rfl, Nat.le_of_ble_eq_true rfl, Nat.le_of_ble_eq_true rfl⟩ dX7_look_10 rfl (K_X7_isFact E p1.2 a0 i2) (fun p2 => ?_)
    refine Jo_if_ne 19 dX7_look_13 (by decide) rfl ?_ ?_
    · refine Jo_ldc dX7_look_16 w_673 ?_
      exact Jo_iret rfl dX7_look_18
    · refine Jo_aloadn 0 dX7_look_19 rfl rfl ?_
      refine Jo_iloadn 1 dX7_look_20 rfl rfl ?_
      refine Jo_iloadn 2 dX7_look_21 rfl rfl ?_
      refine Jo_callVi (a := a0) (rest := []) [.int i1, .int i2] cc_7 yF_X7_doesKnow yV_X7_doesKnow w_677 rfl rfl ⟨Nat.le_of_ble_eq_true rfl, Nat.le_of_ble_eq_true rfl, Nat.le_of_ble_eq_true rfl⟩ dX7_look_22 rfl (K_X7_doesKnow E p2.2 a0 i1 i2) (fun p3 => ?_)
      refine Jo_if_eq 33 dX7_look_25 (by decide) rfl ?_ ?_
      · refine Jo_aloadn 0 dX7_look_33 rfl rfl ?_
        refine Jo_iloadn 2 dX7_look_34 rfl rfl ?_
        refine Jo_callVi (a := a0) (rest := []) [.int i2] cc_7 yF_X7_lookOf yV_X7_lookOf w_839 rfl rfl ⟨Nat.le_of_ble_eq_true rfl, Nat.le_of_ble_eq_true rfl, Nat.le_of_ble_eq_true rfl⟩ dX7_look_35 rfl (K_X7_lookOf E p3.2 a0 i2) (fun p4 => ?_)
        exact Jo_iret rfl dX7_look_38
      · refine Jo_ldc dX7_look_28 w_811 ?_
        refine Jo_goto 38 dX7_look_30 (by decide) ?_
        exact Jo_iret rfl dX7_look_38
theorem K_X7_look (E : jE) (s : hS) (a0 : Nat) (i1 : Int32) (i2 : Int32) : jK E yX7_look M_X7_look cvI [.ref a0, .int i1, .int i2] s (f_X7_look s a0 i1 i2) := jK_of ⟨by decide, rfl, rfl⟩ (Nat.le_of_ble_eq_true rfl) (b_X7_look_in E s a0 i1 i2)
/-! HeronTalkModel.find(II)I -/
abbrev M_X7_find : jM := (RX7, cX7_find, 3, (some .int), "find", 4, 89)
theorem yF_X7_find : yF yX7_find M_X7_find 2 := ⟨w_843, w_624, by decide +kernel⟩
theorem yV_X7_find : Cond.instanceMethod yX7_find ∈ tbG ∧ Cond.selects yX7_find.cls yX7_find yX7_find ∈ tbG := ⟨w_844, w_845⟩
theorem dX7_find_0 : dI cX7_find 0 1 (.aload_n 0) 1 := ⟨by decide +kernel, rfl⟩
theorem dX7_find_1 : dI cX7_find 1 2 (.iload_n 1) 1 := ⟨by decide +kernel, rfl⟩
theorem dX7_find_2 : decode cX7_find 2 = .ok (.invokevirtual 110, 3) := by decide +kernel
theorem dX7_find_5 : decode cX7_find 5 = .ok (.ifCond .eq 11, 3) := by decide +kernel
theorem dX7_find_8 : dI cX7_find 8 9 (.aload_n 0) 1 := ⟨by decide +kernel, rfl⟩
theorem dX7_find_9 : dI cX7_find 9 10 (.iload_n 2) 1 := ⟨by decide +kernel, rfl⟩
theorem dX7_find_10 : decode cX7_find 10 = .ok (.invokevirtual 93, 3) := by decide +kernel
theorem dX7_find_13 : decode cX7_find 13 = .ok (.ifCond .ne 6, 3) := by decide +kernel
theorem dX7_find_16 : dI cX7_find 16 18 (.ldc 87) 2 := ⟨by decide +kernel, rfl⟩
theorem dX7_find_18 : dI cX7_find 18 19 (.ireturn) 1 := ⟨by decide +kernel, rfl⟩
theorem dX7_find_19 : dI cX7_find 19 20 (.aload_n 0) 1 := ⟨by decide +kernel, rfl⟩
theorem dX7_find_20 : dI cX7_find 20 21 (.iload_n 1) 1 := ⟨by decide +kernel, rfl⟩
theorem dX7_find_21 : dI cX7_find 21 22 (.iload_n 2) 1 := ⟨by decide +kernel, rfl⟩
theorem dX7_find_22 : decode cX7_find 22 = .ok (.invokevirtual 89, 3) := by decide +kernel
theorem dX7_find_25 : decode cX7_find 25 = .ok (.ifCond .eq 6, 3) := by decide +kernel
theorem dX7_find_28 : dI cX7_find 28 30 (.ldc 189) 2 := ⟨by decide +kernel, rfl⟩
theorem dX7_find_30 : dI cX7_find 30 31 (.ireturn) 1 := ⟨by decide +kernel, rfl⟩
theorem dX7_find_31 : dI cX7_find 31 32 (.aload_n 0) 1 := ⟨by decide +kernel, rfl⟩
theorem dX7_find_32 : dI cX7_find 32 35 (.getfield 9) 3 := ⟨by decide +kernel, rfl⟩
theorem dX7_find_35 : dI cX7_find 35 36 (.iconst 5) 1 := ⟨by decide +kernel, rfl⟩
theorem dX7_find_36 : dI cX7_find 36 37 (.aload_n 0) 1 := ⟨by decide +kernel, rfl⟩
theorem dX7_find_37 : dI cX7_find 37 40 (.getfield 9) 3 := ⟨by decide +kernel, rfl⟩
theorem dX7_find_40 : dI cX7_find 40 41 (.iconst 5) 1 := ⟨by decide +kernel, rfl⟩
theorem dX7_find_41 : dI cX7_find 41 42 (.iaload) 1 := ⟨by decide +kernel, rfl⟩
theorem dX7_find_42 : dI cX7_find 42 43 (.aload_n 0) 1 := ⟨by decide +kernel, rfl⟩
theorem dX7_find_43 : dI cX7_find 43 44 (.iload_n 2) 1 := ⟨by decide +kernel, rfl⟩
theorem dX7_find_44 : decode cX7_find 44 = .ok (.invokevirtual 204, 3) := by decide +kernel
theorem dX7_find_47 : dI cX7_find 47 48 (.iadd) 1 := ⟨by decide +kernel, rfl⟩
theorem dX7_find_48 : dI cX7_find 48 49 (.iconst 0) 1 := ⟨by decide +kernel, rfl⟩
theorem dX7_find_49 : dI cX7_find 49 52 (.sipush 999) 3 := ⟨by decide +kernel, rfl⟩
theorem dX7_find_52 : decode cX7_find 52 = .ok (.invokestatic 138, 3) := by decide +kernel
theorem dX7_find_55 : dI cX7_find 55 56 (.iastore) 1 := ⟨by decide +kernel, rfl⟩
theorem dX7_find_56 : dI cX7_find 56 57 (.aload_n 0) 1 := ⟨by decide +kernel, rfl⟩
theorem dX7_find_57 : dI cX7_find 57 58 (.iload_n 1) 1 := ⟨by decide +kernel, rfl⟩
theorem dX7_find_58 : dI cX7_find 58 59 (.iconst 1) 1 := ⟨by decide +kernel, rfl⟩
theorem dX7_find_59 : dI cX7_find 59 60 (.iload_n 2) 1 := ⟨by decide +kernel, rfl⟩
theorem dX7_find_60 : dI cX7_find 60 61 (.ishl) 1 := ⟨by decide +kernel, rfl⟩
theorem dX7_find_61 : decode cX7_find 61 = .ok (.invokevirtual 125, 3) := by decide +kernel
theorem dX7_find_64 : dI cX7_find 64 65 (.aload_n 0) 1 := ⟨by decide +kernel, rfl⟩
theorem dX7_find_65 : dI cX7_find 65 68 (.getfield 9) 3 := ⟨by decide +kernel, rfl⟩
theorem dX7_find_68 : dI cX7_find 68 69 (.iconst 5) 1 := ⟨by decide +kernel, rfl⟩
theorem dX7_find_69 : dI cX7_find 69 70 (.iaload) 1 := ⟨by decide +kernel, rfl⟩
theorem dX7_find_70 : dI cX7_find 70 71 (.ireturn) 1 := ⟨by decide +kernel, rfl⟩
def f_X7_find (s : hS) (a0 : Nat) (i1 : Int32) (i2 : Int32) : Option (Int32 × hS) :=
  (cV s a0 7 (f_X7_isPerson s a0 i1)).bind fun p1 =>
  if p1.1 = 0 then
    some ((-1000000001 : Int32), p1.2)
  else
    (cV p1.2 a0 7 (f_X7_isFact p1.2 a0 i2)).bind fun p2 =>
    if p2.1 = 0 then
      some ((-1000000001 : Int32), p2.2)
    else
      (cV p2.2 a0 7 (f_X7_doesKnow p2.2 a0 i1 i2)).bind fun p3 =>
      if p3.1 = 0 then
        (gR p3.2 a0 7 0).bind fun a4 =>
        (gR p3.2 a0 7 0).bind fun a5 =>
        (aI p3.2 a5 10 (5 : Int32)).bind fun x6 =>
        (cV p3.2 a0 7 (f_X7_lookOf p3.2 a0 i2)).bind fun p7 =>
        (f_X7_within p7.2 (x6 + p7.1) (0 : Int32) (999 : Int32)).bind fun p8 =>
        (sI p8.2 a4 10 (5 : Int32) p8.1).bind fun s9 =>
        (cV s9 a0 7 (f_X7_learns s9 a0 i1 ((1 : Int32) <<< (i2 &&& 31)))).bind fun p10 =>
        (gR p10.2 a0 7 0).bind fun a11 =>
        (aI p10.2 a11 10 (5 : Int32)).bind fun x12 =>
        some (x12, p10.2)
      else
        some ((-1000000002 : Int32), p3.2)
theorem b_X7_find_in (E : jE)  (s : hS) (a0 : Nat) (i1 : Int32) (i2 : Int32)  : Jo E M_X7_find cvI 0 [(0, .ref a0), (1, .int i1), (2, .int i2)] [] s (f_X7_find s a0 i1 i2) := by
  unfold f_X7_find
  refine Jo_aloadn 0 dX7_find_0 rfl rfl ?_
  refine Jo_iloadn 1 dX7_find_1 rfl rfl ?_
  refine Jo_callVi (a := a0) (rest := []) [.int i1] cc_7 yF_X7_isPerson yV_X7_isPerson w_704 rfl rfl ⟨Nat.le_of_ble_eq_true rfl, Nat.le_of_ble_eq_true rfl, Nat.le_of_ble_eq_true rfl⟩ dX7_find_2 rfl (K_X7_isPerson E s a0 i1) (fun p1 => ?_)
  refine Jo_if_eq 16 dX7_find_5 (by decide) rfl ?_ ?_
  · refine Jo_ldc dX7_find_16 w_673 ?_
    exact Jo_iret rfl dX7_find_18
  · refine Jo_aloadn 0 dX7_find_8 rfl rfl ?_
    refine Jo_iloadn 2 dX7_find_9 rfl rfl ?_
    refine Jo_callVi (a := a0) (rest := []) [.int i2] cc_7 yF_X7_isFact yV_X7_isFact w_683 rfl rfl ⟨Nat.le_of_ble_eq_true rfl, Nat.le_of_ble_eq_true rfl, Nat.le_of_ble_eq_true rfl⟩ dX7_find_10 rfl (K_X7_isFact E p1.2 a0 i2) (fun p2 => ?_)
    refine Jo_if_ne 19 dX7_find_13 (by decide) rfl ?_ ?_
    · refine Jo_ldc dX7_find_16 w_673 ?_
      exact Jo_iret rfl dX7_find_18
    · refine Jo_aloadn 0 dX7_find_19 rfl rfl ?_
      refine Jo_iloadn 1 dX7_find_20 rfl rfl ?_
      refine Jo_iloadn 2 dX7_find_21 rfl rfl ?_
      refine Jo_callVi (a := a0) (rest := []) [.int i1, .int i2] cc_7 yF_X7_doesKnow yV_X7_doesKnow w_677 rfl rfl ⟨Nat.le_of_ble_eq_true rfl, Nat.le_of_ble_eq_true rfl, Nat.le_of_ble_eq_true rfl⟩ dX7_find_22 rfl (K_X7_doesKnow E p2.2 a0 i1 i2) (fun p3 => ?_)
      refine Jo_if_eq 31 dX7_find_25 (by decide) rfl ?_ ?_
      · refine Jo_aloadn 0 dX7_find_31 rfl rfl ?_
        refine Jo_getR fF_7_0 fR_7_0 dX7_find_32 w_598 (fun a4 => ?_)
        refine Jo_iconst (v := (5 : Int32)) dX7_find_35 (by decide) ?_
        refine Jo_aloadn 0 dX7_find_36 rfl rfl ?_
        refine Jo_getR fF_7_0 fR_7_0 dX7_find_37 w_598 (fun a5 => ?_)
        refine Jo_iconst (v := (5 : Int32)) dX7_find_40 (by decide) ?_
        refine Jo_iaload dX7_find_41 (fun x6 => ?_)
        refine Jo_aloadn 0 dX7_find_42 rfl rfl ?_
        refine Jo_iloadn 2 dX7_find_43 rfl rfl ?_
        refine Jo_callVi (a := a0) (rest := [.int x6, .int (5 : Int32), .ref a4]) [.int i2] cc_7 yF_X7_lookOf yV_X7_lookOf w_839 rfl rfl ⟨Nat.le_of_ble_eq_true rfl, Nat.le_of_ble_eq_true rfl, Nat.le_of_ble_eq_true rfl⟩ dX7_find_44 rfl (K_X7_lookOf E p3.2 a0 i2) (fun p7 => ?_)
        refine Jo_iadd dX7_find_47 ?_
        refine Jo_iconst (v := (0 : Int32)) dX7_find_48 (by decide) ?_
        refine Jo_sipush (v := (999 : Int32)) dX7_find_49 (by decide) ?_
        refine Jo_callSi (rest := [.int (5 : Int32), .ref a4]) [.int (x6 + p7.1), .int (0 : Int32), .int (999 : Int32)] yF_X7_within yS_X7_within w_725 rfl rfl ⟨Nat.le_of_ble_eq_true rfl, Nat.le_of_ble_eq_true rfl, Nat.le_of_ble_eq_true rfl⟩ dX7_find_52 rfl (K_X7_within E p7.2 (x6 + p7.1) (0 : Int32) (999 : Int32)) (fun p8 => ?_)
        refine Jo_iastore dX7_find_55 (fun s9 => ?_)
        refine Jo_aloadn 0 dX7_find_56 rfl rfl ?_
        refine Jo_iloadn 1 dX7_find_57 rfl rfl ?_
        refine Jo_iconst (v := (1 : Int32)) dX7_find_58 (by decide) ?_
        refine Jo_iloadn 2 dX7_find_59 rfl rfl ?_
        refine Jo_ishl dX7_find_60 ?_
        refine Jo_callVv (a := a0) (rest := []) [.int i1, .int ((1 : Int32) <<< (i2 &&& 31))] cc_7 yF_X7_learns yV_X7_learns w_708 rfl rfl ⟨Nat.le_of_ble_eq_true rfl, Nat.le_of_ble_eq_true rfl, Nat.le_of_ble_eq_true rfl⟩ dX7_find_61 rfl (K_X7_learns E s9 a0 i1 ((1 : Int32) <<< (i2 &&& 31))) (fun p10 => ?_)
        refine Jo_aloadn 0 dX7_find_64 rfl rfl ?_
        refine Jo_getR fF_7_0 fR_7_0 dX7_find_65 w_598 (fun a11 => ?_)
        refine Jo_iconst (v := (5 : Int32)) dX7_find_68 (by decide) ?_
        refine Jo_iaload dX7_find_69 (fun x12 => ?_)
        exact Jo_iret rfl dX7_find_70
      · refine Jo_ldc dX7_find_28 w_811 ?_
        exact Jo_iret rfl dX7_find_30
theorem K_X7_find (E : jE) (s : hS) (a0 : Nat) (i1 : Int32) (i2 : Int32) : jK E yX7_find M_X7_find cvI [.ref a0, .int i1, .int i2] s (f_X7_find s a0 i1 i2) := jK_of ⟨by decide, rfl, rfl⟩ (Nat.le_of_ble_eq_true rfl) (b_X7_find_in E s a0 i1 i2)
/-! HeronTalkModel.pricesOf(I)I -/
abbrev M_X7_pricesOf : jM := (RX7, cX7_pricesOf, 4, (some .int), "pricesOf", 4, 90)
theorem yF_X7_pricesOf : yF yX7_pricesOf M_X7_pricesOf 1 := ⟨w_846, w_624, by decide +kernel⟩
theorem yV_X7_pricesOf : Cond.instanceMethod yX7_pricesOf ∈ tbG ∧ Cond.selects yX7_pricesOf.cls yX7_pricesOf yX7_pricesOf ∈ tbG := ⟨w_847, w_848⟩
theorem dX7_pricesOf_0 : dI cX7_pricesOf 0 1 (.iconst 0) 1 := ⟨by decide +kernel, rfl⟩
theorem dX7_pricesOf_1 : dI cX7_pricesOf 1 2 (.istore_n 2) 1 := ⟨by decide +kernel, rfl⟩
theorem dX7_pricesOf_2 : dI cX7_pricesOf 2 3 (.iconst 0) 1 := ⟨by decide +kernel, rfl⟩
theorem dX7_pricesOf_3 : dI cX7_pricesOf 3 4 (.istore_n 3) 1 := ⟨by decide +kernel, rfl⟩
theorem dX7_pricesOf_4 : dI cX7_pricesOf 4 5 (.iload_n 3) 1 := ⟨by decide +kernel, rfl⟩
theorem dX7_pricesOf_5 : dI cX7_pricesOf 5 6 (.aload_n 0) 1 := ⟨by decide +kernel, rfl⟩
theorem dX7_pricesOf_6 : dI cX7_pricesOf 6 9 (.getfield 9) 3 := ⟨by decide +kernel, rfl⟩
theorem dX7_pricesOf_9 : dI cX7_pricesOf 9 10 (.iconst 2) 1 := ⟨by decide +kernel, rfl⟩
theorem dX7_pricesOf_10 : dI cX7_pricesOf 10 11 (.iaload) 1 := ⟨by decide +kernel, rfl⟩
theorem dX7_pricesOf_11 : decode cX7_pricesOf 11 = .ok (.if_icmp .ge 31, 3) := by decide +kernel
theorem dX7_pricesOf_14 : dI cX7_pricesOf 14 15 (.iload_n 2) 1 := ⟨by decide +kernel, rfl⟩
theorem dX7_pricesOf_15 : dI cX7_pricesOf 15 16 (.aload_n 0) 1 := ⟨by decide +kernel, rfl⟩
theorem dX7_pricesOf_16 : dI cX7_pricesOf 16 17 (.iload_n 3) 1 := ⟨by decide +kernel, rfl⟩
theorem dX7_pricesOf_17 : dI cX7_pricesOf 17 18 (.iload_n 1) 1 := ⟨by decide +kernel, rfl⟩
theorem dX7_pricesOf_18 : decode cX7_pricesOf 18 = .ok (.invokevirtual 89, 3) := by decide +kernel
theorem dX7_pricesOf_21 : decode cX7_pricesOf 21 = .ok (.ifCond .eq 7, 3) := by decide +kernel
theorem dX7_pricesOf_24 : dI cX7_pricesOf 24 25 (.iconst 0) 1 := ⟨by decide +kernel, rfl⟩
theorem dX7_pricesOf_25 : decode cX7_pricesOf 25 = .ok (.goto 9, 3) := by decide +kernel
theorem dX7_pricesOf_28 : dI cX7_pricesOf 28 29 (.aload_n 0) 1 := ⟨by decide +kernel, rfl⟩
theorem dX7_pricesOf_29 : dI cX7_pricesOf 29 30 (.iload_n 1) 1 := ⟨by decide +kernel, rfl⟩
theorem dX7_pricesOf_30 : dI cX7_pricesOf 30 31 (.iload_n 3) 1 := ⟨by decide +kernel, rfl⟩
theorem dX7_pricesOf_31 : decode cX7_pricesOf 31 = .ok (.invokevirtual 142, 3) := by decide +kernel
theorem dX7_pricesOf_34 : dI cX7_pricesOf 34 35 (.iadd) 1 := ⟨by decide +kernel, rfl⟩
theorem dX7_pricesOf_35 : dI cX7_pricesOf 35 36 (.istore_n 2) 1 := ⟨by decide +kernel, rfl⟩
theorem dX7_pricesOf_36 : dI cX7_pricesOf 36 39 (.iinc 3 1) 3 := ⟨by decide +kernel, rfl⟩
theorem dX7_pricesOf_39 : decode cX7_pricesOf 39 = .ok (.goto (-35), 3) := by decide +kernel
theorem dX7_pricesOf_42 : dI cX7_pricesOf 42 43 (.iload_n 2) 1 := ⟨by decide +kernel, rfl⟩
theorem dX7_pricesOf_43 : dI cX7_pricesOf 43 44 (.ireturn) 1 := ⟨by decide +kernel, rfl⟩
def f_X7_pricesOf_b34 (k4 : Nat → Int32 → Int32 → Int32 → hS → Option (Int32 × hS)) (l0 : Nat) (l1 : Int32) (l3 : Int32) (t0 : Int32) (t1 : Int32) (s : hS) : Option (Int32 × hS) :=
  nmv ((t0 + t1)) fun x1 =>
  k4 l0 l1 x1 (l3 + (1 : Int32)) s
theorem b_X7_pricesOf_34 (E : jE) (k4 : Nat → Int32 → Int32 → Int32 → hS → Option (Int32 × hS)) (h4 : ∀ (s : hS) (l0 : Nat) (l1 : Int32) (l2 : Int32) (l3 : Int32) , Jo E M_X7_pricesOf cvI 4 [(0, .ref l0), (1, .int l1), (2, .int l2), (3, .int l3)] [] s (k4 l0 l1 l2 l3 s)) (s : hS) (l0 : Nat) (l1 : Int32) (l3 : Int32) (t0 : Int32) (t1 : Int32) : Jo E M_X7_pricesOf cvI 34 [(0, .ref l0), (1, .int l1), (3, .int l3)] [.int t1, .int t0] s (f_X7_pricesOf_b34 k4 l0 l1 l3 t0 t1 s) := by
  unfold f_X7_pricesOf_b34
  refine Jo_iadd dX7_pricesOf_34 ?_
  refine Jo_nm (fun x1 => ?_)
  refine Jo_istoren (ls' := [(2, .int x1), (0, .ref l0), (1, .int l1), (3, .int l3)]) dX7_pricesOf_35 rfl (by decide) rfl ?_
  refine Jo_iinc (v := (l3 + (1 : Int32))) (ls' := [(3, .int (l3 + (1 : Int32))), (2, .int x1), (0, .ref l0), (1, .int l1)]) 3 dX7_pricesOf_36 rfl rfl (by decide) rfl ?_
  refine Jo_goto 4 dX7_pricesOf_39 (by decide) ?_
  refine Jo_sub [2, 3, 1, 0] rfl ?_
  exact h4 s l0 l1 x1 (l3 + (1 : Int32))
def f_X7_pricesOf_b4 (k4 : Nat → Int32 → Int32 → Int32 → hS → Option (Int32 × hS)) (l0 : Nat) (l1 : Int32) (l2 : Int32) (l3 : Int32) (s : hS) : Option (Int32 × hS) :=
  (gR s l0 7 0).bind fun a1 =>
  (aI s a1 10 (2 : Int32)).bind fun x2 =>
  if x2 ≤ l3 then
    some (l2, s)
  else
    (cV s l0 7 (f_X7_doesKnow s l0 l3 l1)).bind fun p3 =>
    if p3.1 = 0 then
      (cV p3.2 l0 7 (f_X7_priceOf p3.2 l0 l1 l3)).bind fun p4 =>
      f_X7_pricesOf_b34 k4 l0 l1 l3 l2 p4.1 p4.2
    else
      f_X7_pricesOf_b34 k4 l0 l1 l3 l2 (0 : Int32) p3.2
theorem b_X7_pricesOf_4 (E : jE) (k4 : Nat → Int32 → Int32 → Int32 → hS → Option (Int32 × hS)) (h4 : ∀ (s : hS) (l0 : Nat) (l1 : Int32) (l2 : Int32) (l3 : Int32) , Jo E M_X7_pricesOf cvI 4 [(0, .ref l0), (1, .int l1), (2, .int l2), (3, .int l3)] [] s (k4 l0 l1 l2 l3 s)) (s : hS) (l0 : Nat) (l1 : Int32) (l2 : Int32) (l3 : Int32)  : Jo E M_X7_pricesOf cvI 4 [(0, .ref l0), (1, .int l1), (2, .int l2), (3, .int l3)] [] s (f_X7_pricesOf_b4 k4 l0 l1 l2 l3 s) := by
  unfold f_X7_pricesOf_b4
  refine Jo_iloadn 3 dX7_pricesOf_4 rfl rfl ?_
  refine Jo_aloadn 0 dX7_pricesOf_5 rfl rfl ?_
  refine Jo_getR fF_7_0 fR_7_0 dX7_pricesOf_6 w_598 (fun a1 => ?_)
  refine Jo_iconst (v := (2 : Int32)) dX7_pricesOf_9 (by decide) ?_
  refine Jo_iaload dX7_pricesOf_10 (fun x2 => ?_)
  refine Jo_icmp_ge 42 dX7_pricesOf_11 (by decide) rfl ?_ ?_
  · refine Jo_iloadn 2 dX7_pricesOf_42 rfl rfl ?_
    exact Jo_iret rfl dX7_pricesOf_43
  · refine Jo_iloadn 2 dX7_pricesOf_14 rfl rfl ?_
    refine Jo_aloadn 0 dX7_pricesOf_15 rfl rfl ?_
    refine Jo_iloadn 3 dX7_pricesOf_16 rfl rfl ?_
    refine Jo_iloadn 1 dX7_pricesOf_17 rfl rfl ?_
    refine Jo_callVi (a := l0) (rest := [.int l2]) [.int l3, .int l1] cc_7 yF_X7_doesKnow yV_X7_doesKnow w_677 rfl rfl ⟨Nat.le_of_ble_eq_true rfl, Nat.le_of_ble_eq_true rfl, Nat.le_of_ble_eq_true rfl⟩ dX7_pricesOf_18 rfl (K_X7_doesKnow E s l0 l3 l1) (fun p3 => ?_)
    refine Jo_if_eq 28 dX7_pricesOf_21 (by decide) rfl ?_ ?_
    · refine Jo_aloadn 0 dX7_pricesOf_28 rfl rfl ?_
      refine Jo_iloadn 1 dX7_pricesOf_29 rfl rfl ?_
      refine Jo_iloadn 3 dX7_pricesOf_30 rfl rfl ?_
      refine Jo_callVi (a := l0) (rest := [.int l2]) [.int l1, .int l3] cc_7 yF_X7_priceOf yV_X7_priceOf w_732 rfl rfl ⟨Nat.le_of_ble_eq_true rfl, Nat.le_of_ble_eq_true rfl, Nat.le_of_ble_eq_true rfl⟩ dX7_pricesOf_31 rfl (K_X7_priceOf E p3.2 l0 l1 l3) (fun p4 => ?_)
      refine Jo_sub [0, 1, 3] rfl ?_
      exact b_X7_pricesOf_34 E k4 h4 p4.2 l0 l1 l3 l2 p4.1
    · refine Jo_iconst (v := (0 : Int32)) dX7_pricesOf_24 (by decide) ?_
      refine Jo_goto 34 dX7_pricesOf_25 (by decide) ?_
      refine Jo_sub [0, 1, 3] rfl ?_
      exact b_X7_pricesOf_34 E k4 h4 p3.2 l0 l1 l3 l2 (0 : Int32)
theorem e_X7_pricesOf_4 (E : jE)  (n : Nat) : ∀ (s : hS) (l0 : Nat) (l1 : Int32) (l2 : Int32) (l3 : Int32) , Jo E M_X7_pricesOf cvI 4 [(0, .ref l0), (1, .int l1), (2, .int l2), (3, .int l3)] [] s ((jL f_X7_pricesOf_b4 (fun _ _ _ _ _ => none) n) l0 l1 l2 l3 s) :=
  jL_ind (P := fun f => ∀ (s : hS) (l0 : Nat) (l1 : Int32) (l2 : Int32) (l3 : Int32) , Jo E M_X7_pricesOf cvI 4 [(0, .ref l0), (1, .int l1), (2, .int l2), (3, .int l3)] [] s (f l0 l1 l2 l3 s)) (fun _ _ _ _ _ => Jo_none) (fun b hb s l0 l1 l2 l3 => b_X7_pricesOf_4 E  b hb s l0 l1 l2 l3) n
def f_X7_pricesOf (s : hS) (a0 : Nat) (i1 : Int32) : Option (Int32 × hS) :=
  jL f_X7_pricesOf_b4 (fun _ _ _ _ _ => none) jF a0 i1 (0 : Int32) (0 : Int32) s
theorem b_X7_pricesOf_in (E : jE)  (s : hS) (a0 : Nat) (i1 : Int32)  : Jo E M_X7_pricesOf cvI 0 [(0, .ref a0), (1, .int i1)] [] s (f_X7_pricesOf s a0 i1) := by
  unfold f_X7_pricesOf
  refine Jo_iconst (v := (0 : Int32)) dX7_pricesOf_0 (by decide) ?_
  refine Jo_istoren (ls' := [(2, .int (0 : Int32)), (0, .ref a0), (1, .int i1)]) dX7_pricesOf_1 rfl (by decide) rfl ?_
  refine Jo_iconst (v := (0 : Int32)) dX7_pricesOf_2 (by decide) ?_
  refine Jo_istoren (ls' := [(3, .int (0 : Int32)), (2, .int (0 : Int32)), (0, .ref a0), (1, .int i1)]) dX7_pricesOf_3 rfl (by decide) rfl ?_
  refine Jo_sub [2, 3, 1, 0] rfl ?_
  exact e_X7_pricesOf_4 E jF s a0 i1 (0 : Int32) (0 : Int32)
theorem K_X7_pricesOf (E : jE) (s : hS) (a0 : Nat) (i1 : Int32) : jK E yX7_pricesOf M_X7_pricesOf cvI [.ref a0, .int i1] s (f_X7_pricesOf s a0 i1) := jK_of ⟨by decide, rfl, rfl⟩ (Nat.le_of_ble_eq_true rfl) (b_X7_pricesOf_in E s a0 i1)
