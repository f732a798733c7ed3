/-! HeronTalkModel.keepsBack(I)I -/
abbrev M_X7_keepsBack : jM := (RX7, cX7_keepsBack, 6, (some .int), "keepsBack", 5, 113)
theorem yF_X7_keepsBack : yF yX7_keepsBack M_X7_keepsBack 1 := ⟨w_850, w_624, by decide +kernel⟩
theorem yV_X7_keepsBack : Cond.instanceMethod yX7_keepsBack ∈ tbG ∧ Cond.selects yX7_keepsBack.cls yX7_keepsBack yX7_keepsBack ∈ tbG := ⟨w_851, w_852⟩
theorem dX7_keepsBack_0 : dI cX7_keepsBack 0 1 (.aload_n 0) 1 := ⟨by decide +kernel, rfl⟩
theorem dX7_keepsBack_1 : dI cX7_keepsBack 1 2 (.iload_n 1) 1 := ⟨by decide +kernel, rfl⟩
theorem dX7_keepsBack_2 : decode cX7_keepsBack 2 = .ok (.invokevirtual 110, 3) := by decide +kernel
theorem dX7_keepsBack_5 : decode cX7_keepsBack 5 = .ok (.ifCond .ne 6, 3) := by decide +kernel
theorem dX7_keepsBack_8 : dI cX7_keepsBack 8 10 (.ldc 87) 2 := ⟨by decide +kernel, rfl⟩
theorem dX7_keepsBack_10 : dI cX7_keepsBack 10 11 (.ireturn) 1 := ⟨by decide +kernel, rfl⟩
theorem dX7_keepsBack_11 : dI cX7_keepsBack 11 12 (.iconst (-1)) 1 := ⟨by decide +kernel, rfl⟩
theorem dX7_keepsBack_12 : dI cX7_keepsBack 12 13 (.istore_n 2) 1 := ⟨by decide +kernel, rfl⟩
theorem dX7_keepsBack_13 : dI cX7_keepsBack 13 14 (.iconst 0) 1 := ⟨by decide +kernel, rfl⟩
theorem dX7_keepsBack_14 : dI cX7_keepsBack 14 15 (.istore_n 3) 1 := ⟨by decide +kernel, rfl⟩
theorem dX7_keepsBack_15 : dI cX7_keepsBack 15 16 (.iconst 0) 1 := ⟨by decide +kernel, rfl⟩
theorem dX7_keepsBack_16 : dI cX7_keepsBack 16 18 (.istore 4) 2 := ⟨by decide +kernel, rfl⟩
theorem dX7_keepsBack_18 : dI cX7_keepsBack 18 20 (.iload 4) 2 := ⟨by decide +kernel, rfl⟩
theorem dX7_keepsBack_20 : dI cX7_keepsBack 20 21 (.aload_n 0) 1 := ⟨by decide +kernel, rfl⟩
theorem dX7_keepsBack_21 : dI cX7_keepsBack 21 24 (.getfield 9) 3 := ⟨by decide +kernel, rfl⟩
theorem dX7_keepsBack_24 : dI cX7_keepsBack 24 25 (.iconst 1) 1 := ⟨by decide +kernel, rfl⟩
theorem dX7_keepsBack_25 : dI cX7_keepsBack 25 26 (.iaload) 1 := ⟨by decide +kernel, rfl⟩
theorem dX7_keepsBack_26 : decode cX7_keepsBack 26 = .ok (.if_icmp .ge 66, 3) := by decide +kernel
theorem dX7_keepsBack_29 : dI cX7_keepsBack 29 30 (.aload_n 0) 1 := ⟨by decide +kernel, rfl⟩
theorem dX7_keepsBack_30 : dI cX7_keepsBack 30 32 (.iload 4) 2 := ⟨by decide +kernel, rfl⟩
theorem dX7_keepsBack_32 : decode cX7_keepsBack 32 = .ok (.invokevirtual 97, 3) := by decide +kernel
theorem dX7_keepsBack_35 : decode cX7_keepsBack 35 = .ok (.ifCond .eq 51, 3) := by decide +kernel
theorem dX7_keepsBack_38 : dI cX7_keepsBack 38 39 (.aload_n 0) 1 := ⟨by decide +kernel, rfl⟩
theorem dX7_keepsBack_39 : dI cX7_keepsBack 39 40 (.iload_n 1) 1 := ⟨by decide +kernel, rfl⟩
theorem dX7_keepsBack_40 : dI cX7_keepsBack 40 42 (.iload 4) 2 := ⟨by decide +kernel, rfl⟩
theorem dX7_keepsBack_42 : decode cX7_keepsBack 42 = .ok (.invokevirtual 89, 3) := by decide +kernel
theorem dX7_keepsBack_45 : decode cX7_keepsBack 45 = .ok (.ifCond .eq 41, 3) := by decide +kernel
theorem dX7_keepsBack_48 : dI cX7_keepsBack 48 49 (.aload_n 0) 1 := ⟨by decide +kernel, rfl⟩
theorem dX7_keepsBack_49 : dI cX7_keepsBack 49 51 (.iload 4) 2 := ⟨by decide +kernel, rfl⟩
theorem dX7_keepsBack_51 : decode cX7_keepsBack 51 = .ok (.invokevirtual 207, 3) := by decide +kernel
theorem dX7_keepsBack_54 : dI cX7_keepsBack 54 56 (.istore 5) 2 := ⟨by decide +kernel, rfl⟩
theorem dX7_keepsBack_56 : dI cX7_keepsBack 56 57 (.iload_n 2) 1 := ⟨by decide +kernel, rfl⟩
theorem dX7_keepsBack_57 : decode cX7_keepsBack 57 = .ok (.ifCond .lt 9, 3) := by decide +kernel
theorem dX7_keepsBack_60 : dI cX7_keepsBack 60 62 (.iload 5) 2 := ⟨by decide +kernel, rfl⟩
theorem dX7_keepsBack_62 : dI cX7_keepsBack 62 63 (.iload_n 3) 1 := ⟨by decide +kernel, rfl⟩
theorem dX7_keepsBack_63 : decode cX7_keepsBack 63 = .ok (.if_icmp .le 8, 3) := by decide +kernel
theorem dX7_keepsBack_66 : dI cX7_keepsBack 66 68 (.iload 4) 2 := ⟨by decide +kernel, rfl⟩
theorem dX7_keepsBack_68 : decode cX7_keepsBack 68 = .ok (.goto 4, 3) := by decide +kernel
theorem dX7_keepsBack_71 : dI cX7_keepsBack 71 72 (.iload_n 2) 1 := ⟨by decide +kernel, rfl⟩
theorem dX7_keepsBack_72 : dI cX7_keepsBack 72 73 (.istore_n 2) 1 := ⟨by decide +kernel, rfl⟩
theorem dX7_keepsBack_73 : dI cX7_keepsBack 73 74 (.iload_n 2) 1 := ⟨by decide +kernel, rfl⟩
theorem dX7_keepsBack_74 : dI cX7_keepsBack 74 76 (.iload 4) 2 := ⟨by decide +kernel, rfl⟩
theorem dX7_keepsBack_76 : decode cX7_keepsBack 76 = .ok (.if_icmp .ne 8, 3) := by decide +kernel
theorem dX7_keepsBack_79 : dI cX7_keepsBack 79 81 (.iload 5) 2 := ⟨by decide +kernel, rfl⟩
theorem dX7_keepsBack_81 : decode cX7_keepsBack 81 = .ok (.goto 4, 3) := by decide +kernel
theorem dX7_keepsBack_84 : dI cX7_keepsBack 84 85 (.iload_n 3) 1 := ⟨by decide +kernel, rfl⟩
theorem dX7_keepsBack_85 : dI cX7_keepsBack 85 86 (.istore_n 3) 1 := ⟨by decide +kernel, rfl⟩
theorem dX7_keepsBack_86 : dI cX7_keepsBack 86 89 (.iinc 4 1) 3 := ⟨by decide +kernel, rfl⟩
theorem dX7_keepsBack_89 : decode cX7_keepsBack 89 = .ok (.goto (-71), 3) := by decide +kernel
theorem dX7_keepsBack_92 : dI cX7_keepsBack 92 93 (.iload_n 2) 1 := ⟨by decide +kernel, rfl⟩
theorem dX7_keepsBack_93 : decode cX7_keepsBack 93 = .ok (.invokestatic 167, 3) := by decide +kernel
theorem dX7_keepsBack_96 : dI cX7_keepsBack 96 97 (.ireturn) 1 := ⟨by decide +kernel, rfl⟩
def f_X7_keepsBack_b86 (k18 : Nat → Int32 → Int32 → Int32 → Int32 → hS → Option (Int32 × hS)) (l0 : Nat) (l1 : Int32) (l2 : Int32) (l3 : Int32) (l4 : Int32) (s : hS) : Option (Int32 × hS) :=
  k18 l0 l1 l2 l3 (l4 + (1 : Int32)) s
theorem b_X7_keepsBack_86 (E : jE) (k18 : Nat → Int32 → Int32 → Int32 → Int32 → hS → Option (Int32 × hS)) (h18 : ∀ (s : hS) (l0 : Nat) (l1 : Int32) (l2 : Int32) (l3 : Int32) (l4 : Int32) , Jo E M_X7_keepsBack cvI 18 [(0, .ref l0), (1, .int l1), (2, .int l2), (3, .int l3), (4, .int l4)] [] s (k18 l0 l1 l2 l3 l4 s)) (s : hS) (l0 : Nat) (l1 : Int32) (l2 : Int32) (l3 : Int32) (l4 : Int32)  : Jo E M_X7_keepsBack cvI 86 [(0, .ref l0), (1, .int l1), (2, .int l2), (3, .int l3), (4, .int l4)] [] s (f_X7_keepsBack_b86 k18 l0 l1 l2 l3 l4 s) := by
  unfold f_X7_keepsBack_b86
  refine Jo_iinc (v := (l4 + (1 : Int32))) (ls' := [(4, .int (l4 + (1 : Int32))), (0, .ref l0), (1, .int l1), (2, .int l2), (3, .int l3)]) 4 dX7_keepsBack_86 rfl rfl (by decide) rfl ?_
  refine Jo_goto 18 dX7_keepsBack_89 (by decide) ?_
  refine Jo_sub [1, 2, 3, 4, 0] rfl ?_
  exact h18 s l0 l1 l2 l3 (l4 + (1 : Int32))
def f_X7_keepsBack_b85 (k18 : Nat → Int32 → Int32 → Int32 → Int32 → hS → Option (Int32 × hS)) (l0 : Nat) (l1 : Int32) (l2 : Int32) (l4 : Int32) (t0 : Int32) (s : hS) : Option (Int32 × hS) :=
  f_X7_keepsBack_b86 k18 l0 l1 l2 t0 l4 s
theorem b_X7_keepsBack_85 (E : jE) (k18 : Nat → Int32 → Int32 → Int32 → Int32 → hS → Option (Int32 × hS)) (h18 : ∀ (s : hS) (l0 : Nat) (l1 : Int32) (l2 : Int32) (l3 : Int32) (l4 : Int32) , Jo E M_X7_keepsBack cvI 18 [(0, .ref l0), (1, .int l1), (2, .int l2), (3, .int l3), (4, .int l4)] [] s (k18 l0 l1 l2 l3 l4 s)) (s : hS) (l0 : Nat) (l1 : Int32) (l2 : Int32) (l4 : Int32) (t0 : Int32) : Jo E M_X7_keepsBack cvI 85 [(0, .ref l0), (1, .int l1), (2, .int l2), (4, .int l4)] [.int t0] s (f_X7_keepsBack_b85 k18 l0 l1 l2 l4 t0 s) := by
  unfold f_X7_keepsBack_b85
  refine Jo_istoren (ls' := [(3, .int t0), (0, .ref l0), (1, .int l1), (2, .int l2), (4, .int l4)]) dX7_keepsBack_85 rfl (by decide) rfl ?_
  refine Jo_sub [1, 2, 3, 0, 4] rfl ?_
  exact b_X7_keepsBack_86 E k18 h18 s l0 l1 l2 t0 l4
def f_X7_keepsBack_b72 (k18 : Nat → Int32 → Int32 → Int32 → Int32 → hS → Option (Int32 × hS)) (l0 : Nat) (l1 : Int32) (l3 : Int32) (l4 : Int32) (l5 : Int32) (t0 : Int32) (s : hS) : Option (Int32 × hS) :=
  if t0 = l4 then
    f_X7_keepsBack_b85 k18 l0 l1 t0 l4 l5 s
  else
    f_X7_keepsBack_b85 k18 l0 l1 t0 l4 l3 s
theorem b_X7_keepsBack_72 (E : jE) (k18 : Nat → Int32 → Int32 → Int32 → Int32 → hS → Option (Int32 × hS)) (h18 : ∀ (s : hS) (l0 : Nat) (l1 : Int32) (l2 : Int32) (l3 : Int32) (l4 : Int32) , Jo E M_X7_keepsBack cvI 18 [(0, .ref l0), (1, .int l1), (2, .int l2), (3, .int l3), (4, .int l4)] [] s (k18 l0 l1 l2 l3 l4 s)) (s : hS) (l0 : Nat) (l1 : Int32) (l3 : Int32) (l4 : Int32) (l5 : Int32) (t0 : Int32) : Jo E M_X7_keepsBack cvI 72 [(0, .ref l0), (1, .int l1), (3, .int l3), (4, .int l4), (5, .int l5)] [.int t0] s (f_X7_keepsBack_b72 k18 l0 l1 l3 l4 l5 t0 s) := by
  unfold f_X7_keepsBack_b72
  refine Jo_istoren (ls' := [(2, .int t0), (0, .ref l0), (1, .int l1), (3, .int l3), (4, .int l4), (5, .int l5)]) dX7_keepsBack_72 rfl (by decide) rfl ?_
  refine Jo_iloadn 0 dX7_keepsBack_73 rfl rfl ?_
  refine Jo_iload 4 dX7_keepsBack_74 rfl ?_
  refine Jo_icmp_ne 84 dX7_keepsBack_76 (by decide) rfl ?_ ?_
  · refine Jo_iload 5 dX7_keepsBack_79 rfl ?_
    refine Jo_goto 85 dX7_keepsBack_81 (by decide) ?_
    refine Jo_sub [1, 2, 0, 4] rfl ?_
    exact b_X7_keepsBack_85 E k18 h18 s l0 l1 t0 l4 l5
  · refine Jo_iloadn 3 dX7_keepsBack_84 rfl rfl ?_
    refine Jo_sub [1, 2, 0, 4] rfl ?_
    exact b_X7_keepsBack_85 E k18 h18 s l0 l1 t0 l4 l3
def f_X7_keepsBack_b66 (k18 : Nat → Int32 → Int32 → Int32 → Int32 → hS → Option (Int32 × hS)) (l0 : Nat) (l1 : Int32) (l3 : Int32) (l4 : Int32) (l5 : Int32) (s : hS) : Option (Int32 × hS) :=
  f_X7_keepsBack_b72 k18 l0 l1 l3 l4 l5 l4 s
theorem b_X7_keepsBack_66 (E : jE) (k18 : Nat → Int32 → Int32 → Int32 → Int32 → hS → Option (Int32 × hS)) (h18 : ∀ (s : hS) (l0 : Nat) (l1 : Int32) (l2 : Int32) (l3 : Int32) (l4 : Int32) , Jo E M_X7_keepsBack cvI 18 [(0, .ref l0), (1, .int l1), (2, .int l2), (3, .int l3), (4, .int l4)] [] s (k18 l0 l1 l2 l3 l4 s)) (s : hS) (l0 : Nat) (l1 : Int32) (l3 : Int32) (l4 : Int32) (l5 : Int32)  : Jo E M_X7_keepsBack cvI 66 [(0, .ref l0), (1, .int l1), (3, .int l3), (4, .int l4), (5, .int l5)] [] s (f_X7_keepsBack_b66 k18 l0 l1 l3 l4 l5 s) := by
  unfold f_X7_keepsBack_b66
  refine Jo_iload 3 dX7_keepsBack_66 rfl ?_
  refine Jo_goto 72 dX7_keepsBack_68 (by decide) ?_
  exact b_X7_keepsBack_72 E k18 h18 s l0 l1 l3 l4 l5 l4
def f_X7_keepsBack_b18 (k18 : Nat → Int32 → Int32 → Int32 → Int32 → hS → Option (Int32 × hS)) (l0 : Nat) (l1 : Int32) (l2 : Int32) (l3 : Int32) (l4 : Int32) (s : hS) : Option (Int32 × hS) :=
  (gR s l0 7 0).bind fun a1 =>
  (aI s a1 10 (1 : Int32)).bind fun x2 =>
  if x2 ≤ l4 then
    (f_X7_told0 s l2).bind fun p3 =>
    some (p3.1, p3.2)
  else
    (cV s l0 7 (f_X7_isFresh s l0 l4)).bind fun p4 =>
    if p4.1 = 0 then
      f_X7_keepsBack_b86 k18 l0 l1 l2 l3 l4 p4.2
    else
      (cV p4.2 l0 7 (f_X7_doesKnow p4.2 l0 l1 l4)).bind fun p5 =>
      if p5.1 = 0 then
        f_X7_keepsBack_b86 k18 l0 l1 l2 l3 l4 p5.2
      else
        (cV p5.2 l0 7 (f_X7_pricesOf p5.2 l0 l4)).bind fun p6 =>
        if l2 < 0 then
          f_X7_keepsBack_b66 k18 l0 l1 l3 l4 p6.1 p6.2
        else
          if p6.1 ≤ l3 then
            f_X7_keepsBack_b72 k18 l0 l1 l3 l4 p6.1 l2 p6.2
          else
            f_X7_keepsBack_b66 k18 l0 l1 l3 l4 p6.1 p6.2
theorem b_X7_keepsBack_18 (E : jE) (k18 : Nat → Int32 → Int32 → Int32 → Int32 → hS → Option (Int32 × hS)) (h18 : ∀ (s : hS) (l0 : Nat) (l1 : Int32) (l2 : Int32) (l3 : Int32) (l4 : Int32) , Jo E M_X7_keepsBack cvI 18 [(0, .ref l0), (1, .int l1), (2, .int l2), (3, .int l3), (4, .int l4)] [] s (k18 l0 l1 l2 l3 l4 s)) (s : hS) (l0 : Nat) (l1 : Int32) (l2 : Int32) (l3 : Int32) (l4 : Int32)  : Jo E M_X7_keepsBack cvI 18 [(0, .ref l0), (1, .int l1), (2, .int l2), (3, .int l3), (4, .int l4)] [] s (f_X7_keepsBack_b18 k18 l0 l1 l2 l3 l4 s) := by
  unfold f_X7_keepsBack_b18
  refine Jo_iload 4 dX7_keepsBack_18 rfl ?_
  refine Jo_aloadn 0 dX7_keepsBack_20 rfl rfl ?_
  refine Jo_getR fF_7_0 fR_7_0 dX7_keepsBack_21 w_598 (fun a1 => ?_)
  refine Jo_iconst (v := (1 : Int32)) dX7_keepsBack_24 (by decide) ?_
  refine Jo_iaload dX7_keepsBack_25 (fun x2 => ?_)
  refine Jo_icmp_ge 92 dX7_keepsBack_26 (by decide) rfl ?_ ?_
  · refine Jo_iloadn 2 dX7_keepsBack_92 rfl rfl ?_
    refine Jo_callSi (rest := []) [.int l2] yF_X7_told0 yS_X7_told0 w_776 rfl rfl ⟨Nat.le_of_ble_eq_true rfl, Nat.le_of_ble_eq_true rfl, Nat.le_of_ble_eq_true rfl⟩ dX7_keepsBack_93 rfl (K_X7_told0 E s l2) (fun p3 => ?_)
    exact Jo_iret rfl dX7_keepsBack_96
  · refine Jo_aloadn 0 dX7_keepsBack_29 rfl rfl ?_
    refine Jo_iload 4 dX7_keepsBack_30 rfl ?_
    refine Jo_callVi (a := l0) (rest := []) [.int l4] cc_7 yF_X7_isFresh yV_X7_isFresh w_682 rfl rfl ⟨Nat.le_of_ble_eq_true rfl, Nat.le_of_ble_eq_true rfl, Nat.le_of_ble_eq_true rfl⟩ dX7_keepsBack_32 rfl (K_X7_isFresh E s l0 l4) (fun p4 => ?_)
    refine Jo_if_eq 86 dX7_keepsBack_35 (by decide) rfl ?_ ?_
    · exact b_X7_keepsBack_86 E k18 h18 p4.2 l0 l1 l2 l3 l4
    · refine Jo_aloadn 0 dX7_keepsBack_38 rfl rfl ?_
      refine Jo_iloadn 1 dX7_keepsBack_39 rfl rfl ?_
      refine Jo_iload 4 dX7_keepsBack_40 rfl ?_
      refine Jo_callVi (a := l0) (rest := []) [.int l1, .int l4] cc_7 yF_X7_doesKnow yV_X7_doesKnow w_677 rfl rfl ⟨Nat.le_of_ble_eq_true rfl, Nat.le_of_ble_eq_true rfl, Nat.le_of_ble_eq_true rfl⟩ dX7_keepsBack_42 rfl (K_X7_doesKnow E p4.2 l0 l1 l4) (fun p5 => ?_)
      refine Jo_if_eq 86 dX7_keepsBack_45 (by decide) rfl ?_ ?_
      · exact b_X7_keepsBack_86 E k18 h18 p5.2 l0 l1 l2 l3 l4
      · refine Jo_aloadn 0 dX7_keepsBack_48 rfl rfl ?_
        refine Jo_iload 4 dX7_keepsBack_49 rfl ?_
        refine Jo_callVi (a := l0) (rest := []) [.int l4] cc_7 yF_X7_pricesOf yV_X7_pricesOf w_849 rfl rfl ⟨Nat.le_of_ble_eq_true rfl, Nat.le_of_ble_eq_true rfl, Nat.le_of_ble_eq_true rfl⟩ dX7_keepsBack_51 rfl (K_X7_pricesOf E p5.2 l0 l4) (fun p6 => ?_)
        refine Jo_istore (ls' := [(5, .int p6.1), (0, .ref l0), (1, .int l1), (2, .int l2), (3, .int l3), (4, .int l4)]) dX7_keepsBack_54 (by decide) rfl ?_
        refine Jo_iloadn 3 dX7_keepsBack_56 rfl rfl ?_
        refine Jo_if_lt 66 dX7_keepsBack_57 (by decide) rfl ?_ ?_
        · refine Jo_sub [1, 2, 4, 5, 0] rfl ?_
          exact b_X7_keepsBack_66 E k18 h18 p6.2 l0 l1 l3 l4 p6.1
        · refine Jo_iload 0 dX7_keepsBack_60 rfl ?_
          refine Jo_iloadn 4 dX7_keepsBack_62 rfl rfl ?_
          refine Jo_icmp_le 71 dX7_keepsBack_63 (by decide) rfl ?_ ?_
          · refine Jo_iloadn 3 dX7_keepsBack_71 rfl rfl ?_
            refine Jo_sub [1, 2, 4, 5, 0] rfl ?_
            exact b_X7_keepsBack_72 E k18 h18 p6.2 l0 l1 l3 l4 p6.1 l2
          · refine Jo_sub [1, 2, 4, 5, 0] rfl ?_
            exact b_X7_keepsBack_66 E k18 h18 p6.2 l0 l1 l3 l4 p6.1
theorem e_X7_keepsBack_18 (E : jE)  (n : Nat) : ∀ (s : hS) (l0 : Nat) (l1 : Int32) (l2 : Int32) (l3 : Int32) (l4 : Int32) , Jo E M_X7_keepsBack cvI 18 [(0, .ref l0), (1, .int l1), (2, .int l2), (3, .int l3), (4, .int l4)] [] s ((jL f_X7_keepsBack_b18 (fun _ _ _ _ _ _ => none) n) l0 l1 l2 l3 l4 s) :=
  jL_ind (P := fun f => ∀ (s : hS) (l0 : Nat) (l1 : Int32) (l2 : Int32) (l3 : Int32) (l4 : Int32) , Jo E M_X7_keepsBack cvI 18 [(0, .ref l0), (1, .int l1), (2, .int l2), (3, .int l3), (4, .int l4)] [] s (f l0 l1 l2 l3 l4 s)) (fun _ _ _ _ _ _ => Jo_none) (fun b hb s l0 l1 l2 l3 l4 => b_X7_keepsBack_18 E  b hb s l0 l1 l2 l3 l4) n
def f_X7_keepsBack (s : hS) (a0 : Nat) (i1 : Int32) : Option (Int32 × hS) :=
  (cV s a0 7 (f_X7_isPerson s a0 i1)).bind fun p1 =>
  if p1.1 = 0 then
    some ((-1000000001 : Int32), p1.2)
  else
    jL f_X7_keepsBack_b18 (fun _ _ _ _ _ _ => none) jF a0 i1 (-1 : Int32) (0 : Int32) (0 : Int32) p1.2
theorem b_X7_keepsBack_in (E : jE)  (s : hS) (a0 : Nat) (i1 : Int32)  : Jo E M_X7_keepsBack cvI 0 [(0, .ref a0), (1, .int i1)] [] s (f_X7_keepsBack s a0 i1) := by
  unfold f_X7_keepsBack
  refine Jo_aloadn 0 dX7_keepsBack_0 rfl rfl ?_
  refine Jo_iloadn 1 dX7_keepsBack_1 rfl rfl ?_
  refine Jo_callVi (a := a0) (rest := []) [.int i1] cc_7 yF_X7_isPerson yV_X7_isPerson w_704 rfl rfl ⟨Nat.le_of_ble_eq_true rfl, Nat.le_of_ble_eq_true rfl, Nat.le_of_ble_eq_true rfl⟩ dX7_keepsBack_2 rfl (K_X7_isPerson E s a0 i1) (fun p1 => ?_)
  refine Jo_if_ne 11 dX7_keepsBack_5 (by decide) rfl ?_ ?_
  · refine Jo_ldc dX7_keepsBack_8 w_673 ?_
    exact Jo_iret rfl dX7_keepsBack_10
  · refine Jo_iconst (v := (-1 : Int32)) dX7_keepsBack_11 (by decide) ?_
    refine Jo_istoren (ls' := [(2, .int (-1 : Int32)), (0, .ref a0), (1, .int i1)]) dX7_keepsBack_12 rfl (by decide) rfl ?_
    refine Jo_iconst (v := (0 : Int32)) dX7_keepsBack_13 (by decide) ?_
    refine Jo_istoren (ls' := [(3, .int (0 : Int32)), (2, .int (-1 : Int32)), (0, .ref a0), (1, .int i1)]) dX7_keepsBack_14 rfl (by decide) rfl ?_
    refine Jo_iconst (v := (0 : Int32)) dX7_keepsBack_15 (by decide) ?_
    refine Jo_istore (ls' := [(4, .int (0 : Int32)), (3, .int (0 : Int32)), (2, .int (-1 : Int32)), (0, .ref a0), (1, .int i1)]) dX7_keepsBack_16 (by decide) rfl ?_
    refine Jo_sub [3, 4, 2, 1, 0] rfl ?_
    exact e_X7_keepsBack_18 E jF p1.2 a0 i1 (-1 : Int32) (0 : Int32) (0 : Int32)
theorem K_X7_keepsBack (E : jE) (s : hS) (a0 : Nat) (i1 : Int32) : jK E yX7_keepsBack M_X7_keepsBack cvI [.ref a0, .int i1] s (f_X7_keepsBack s a0 i1) := jK_of ⟨by decide, rfl, rfl⟩ (Nat.le_of_ble_eq_true rfl) (b_X7_keepsBack_in E s a0 i1)
/-! HeronTalkModel.fine()I -/
abbrev M_X7_fine : jM := (RX7, cX7_fine, 2, (some .int), "fine", 2, 47)
theorem yF_X7_fine : yF yX7_fine M_X7_fine 0 := ⟨w_853, w_624, by decide +kernel⟩
theorem yV_X7_fine : Cond.instanceMethod yX7_fine ∈ tbG ∧ Cond.selects yX7_fine.cls yX7_fine yX7_fine ∈ tbG := ⟨w_854, w_855⟩
theorem dX7_fine_0 : dI cX7_fine 0 1 (.aload_n 0) 1 := ⟨by decide +kernel, rfl⟩
theorem dX7_fine_1 : dI cX7_fine 1 2 (.iconst 2) 1 := ⟨by decide +kernel, rfl⟩
theorem dX7_fine_2 : decode cX7_fine 2 = .ok (.invokevirtual 129, 3) := by decide +kernel
theorem dX7_fine_5 : dI cX7_fine 5 6 (.istore_n 1) 1 := ⟨by decide +kernel, rfl⟩
theorem dX7_fine_6 : dI cX7_fine 6 7 (.aload_n 0) 1 := ⟨by decide +kernel, rfl⟩
theorem dX7_fine_7 : dI cX7_fine 7 10 (.getfield 48) 3 := ⟨by decide +kernel, rfl⟩
theorem dX7_fine_10 : dI cX7_fine 10 11 (.iconst 0) 1 := ⟨by decide +kernel, rfl⟩
theorem dX7_fine_11 : dI cX7_fine 11 12 (.aload_n 0) 1 := ⟨by decide +kernel, rfl⟩
theorem dX7_fine_12 : dI cX7_fine 12 15 (.getfield 9) 3 := ⟨by decide +kernel, rfl⟩
theorem dX7_fine_15 : dI cX7_fine 15 17 (.bipush 6) 2 := ⟨by decide +kernel, rfl⟩
theorem dX7_fine_17 : dI cX7_fine 17 18 (.iaload) 1 := ⟨by decide +kernel, rfl⟩
theorem dX7_fine_18 : dI cX7_fine 18 19 (.iastore) 1 := ⟨by decide +kernel, rfl⟩
theorem dX7_fine_19 : dI cX7_fine 19 20 (.aload_n 0) 1 := ⟨by decide +kernel, rfl⟩
theorem dX7_fine_20 : dI cX7_fine 20 23 (.getfield 48) 3 := ⟨by decide +kernel, rfl⟩
theorem dX7_fine_23 : dI cX7_fine 23 24 (.iconst 1) 1 := ⟨by decide +kernel, rfl⟩
theorem dX7_fine_24 : dI cX7_fine 24 25 (.aload_n 0) 1 := ⟨by decide +kernel, rfl⟩
theorem dX7_fine_25 : dI cX7_fine 25 28 (.getfield 9) 3 := ⟨by decide +kernel, rfl⟩
theorem dX7_fine_28 : dI cX7_fine 28 29 (.iconst 5) 1 := ⟨by decide +kernel, rfl⟩
theorem dX7_fine_29 : dI cX7_fine 29 30 (.iaload) 1 := ⟨by decide +kernel, rfl⟩
theorem dX7_fine_30 : dI cX7_fine 30 31 (.iastore) 1 := ⟨by decide +kernel, rfl⟩
theorem dX7_fine_31 : dI cX7_fine 31 32 (.iload_n 1) 1 := ⟨by decide +kernel, rfl⟩
theorem dX7_fine_32 : decode cX7_fine 32 = .ok (.ifCond .ge 7, 3) := by decide +kernel
theorem dX7_fine_35 : dI cX7_fine 35 36 (.iconst 0) 1 := ⟨by decide +kernel, rfl⟩
theorem dX7_fine_36 : decode cX7_fine 36 = .ok (.goto 8, 3) := by decide +kernel
theorem dX7_fine_39 : dI cX7_fine 39 40 (.aload_n 0) 1 := ⟨by decide +kernel, rfl⟩
theorem dX7_fine_40 : dI cX7_fine 40 41 (.iload_n 1) 1 := ⟨by decide +kernel, rfl⟩
theorem dX7_fine_41 : decode cX7_fine 41 = .ok (.invokevirtual 135, 3) := by decide +kernel
theorem dX7_fine_44 : dI cX7_fine 44 45 (.ireturn) 1 := ⟨by decide +kernel, rfl⟩
def f_X7_fine (s : hS) (a0 : Nat) : Option (Int32 × hS) :=
  (cV s a0 7 (f_X7_counts s a0 (2 : Int32))).bind fun p1 =>
  (gR p1.2 a0 7 23).bind fun a2 =>
  (gR p1.2 a0 7 0).bind fun a3 =>
  (aI p1.2 a3 10 (6 : Int32)).bind fun x4 =>
  (sI p1.2 a2 10 (0 : Int32) x4).bind fun s5 =>
  (gR s5 a0 7 23).bind fun a6 =>
  (gR s5 a0 7 0).bind fun a7 =>
  (aI s5 a7 10 (5 : Int32)).bind fun x8 =>
  (sI s5 a6 10 (1 : Int32) x8).bind fun s9 =>
  if 0 ≤ p1.1 then
    (cV s9 a0 7 (f_X7_worksOut s9 a0 p1.1)).bind fun p10 =>
    some (p10.1, p10.2)
  else
    some ((0 : Int32), s9)
theorem b_X7_fine_in (E : jE)  (s : hS) (a0 : Nat)  : Jo E M_X7_fine cvI 0 [(0, .ref a0)] [] s (f_X7_fine s a0) := by
  unfold f_X7_fine
  refine Jo_aloadn 0 dX7_fine_0 rfl rfl ?_
  refine Jo_iconst (v := (2 : Int32)) dX7_fine_1 (by decide) ?_
  refine Jo_callVi (a := a0) (rest := []) [.int (2 : Int32)] cc_7 yF_X7_counts yV_X7_counts w_728 rfl rfl ⟨Nat.le_of_ble_eq_true rfl, Nat.le_of_ble_eq_true rfl, Nat.le_of_ble_eq_true rfl⟩ dX7_fine_2 rfl (K_X7_counts E s a0 (2 : Int32)) (fun p1 => ?_)
  refine Jo_istoren (ls' := [(1, .int p1.1), (0, .ref a0)]) dX7_fine_5 rfl (by decide) rfl ?_
  refine Jo_aloadn 1 dX7_fine_6 rfl rfl ?_
  refine Jo_getR fF_7_23 fR_7_23 dX7_fine_7 w_608 (fun a2 => ?_)
  refine Jo_iconst (v := (0 : Int32)) dX7_fine_10 (by decide) ?_
  refine Jo_aloadn 1 dX7_fine_11 rfl rfl ?_
  refine Jo_getR fF_7_0 fR_7_0 dX7_fine_12 w_598 (fun a3 => ?_)
  refine Jo_bipush (v := (6 : Int32)) dX7_fine_15 (by decide) ?_
  refine Jo_iaload dX7_fine_17 (fun x4 => ?_)
  refine Jo_iastore dX7_fine_18 (fun s5 => ?_)
  refine Jo_aloadn 1 dX7_fine_19 rfl rfl ?_
  refine Jo_getR fF_7_23 fR_7_23 dX7_fine_20 w_608 (fun a6 => ?_)
  refine Jo_iconst (v := (1 : Int32)) dX7_fine_23 (by decide) ?_
  refine Jo_aloadn 1 dX7_fine_24 rfl rfl ?_
  refine Jo_getR fF_7_0 fR_7_0 dX7_fine_25 w_598 (fun a7 => ?_)
  refine Jo_iconst (v := (5 : Int32)) dX7_fine_28 (by decide) ?_
  refine Jo_iaload dX7_fine_29 (fun x8 => ?_)
  refine Jo_iastore dX7_fine_30 (fun s9 => ?_)
  refine Jo_iloadn 0 dX7_fine_31 rfl rfl ?_
  refine Jo_if_ge 39 dX7_fine_32 (by decide) rfl ?_ ?_
  · refine Jo_aloadn 1 dX7_fine_39 rfl rfl ?_
    refine Jo_iloadn 0 dX7_fine_40 rfl rfl ?_
    refine Jo_callVi (a := a0) (rest := []) [.int p1.1] cc_7 yF_X7_worksOut yV_X7_worksOut w_726 rfl rfl ⟨Nat.le_of_ble_eq_true rfl, Nat.le_of_ble_eq_true rfl, Nat.le_of_ble_eq_true rfl⟩ dX7_fine_41 rfl (K_X7_worksOut E s9 a0 p1.1) (fun p10 => ?_)
    exact Jo_iret rfl dX7_fine_44
  · refine Jo_iconst (v := (0 : Int32)) dX7_fine_35 (by decide) ?_
    refine Jo_goto 44 dX7_fine_36 (by decide) ?_
    exact Jo_iret rfl dX7_fine_44
theorem K_X7_fine (E : jE) (s : hS) (a0 : Nat) : jK E yX7_fine M_X7_fine cvI [.ref a0] s (f_X7_fine s a0) := jK_of ⟨by decide, rfl, rfl⟩ (Nat.le_of_ble_eq_true rfl) (b_X7_fine_in E s a0)
/-! HeronTalkModel.feed(III)I -/
abbrev M_X7_feed : jM := (RX7, cX7_feed, 6, (some .int), "feed", 0, 0)
theorem yF_X7_feed : yF yX7_feed M_X7_feed 3 := ⟨w_857, w_624, by decide +kernel⟩
theorem yV_X7_feed : Cond.instanceMethod yX7_feed ∈ tbG ∧ Cond.selects yX7_feed.cls yX7_feed yX7_feed ∈ tbG := ⟨w_858, w_859⟩
theorem dX7_feed_0 : dI cX7_feed 0 1 (.aload_n 0) 1 := ⟨by decide +kernel, rfl⟩
theorem dX7_feed_1 : dI cX7_feed 1 4 (.getfield 210) 3 := ⟨by decide +kernel, rfl⟩
theorem dX7_feed_4 : dI cX7_feed 4 6 (.bipush 12) 2 := ⟨by decide +kernel, rfl⟩
theorem dX7_feed_6 : dI cX7_feed 6 7 (.iadd) 1 := ⟨by decide +kernel, rfl⟩
theorem dX7_feed_7 : dI cX7_feed 7 9 (.bipush 96) 2 := ⟨by decide +kernel, rfl⟩
theorem dX7_feed_9 : decode cX7_feed 9 = .ok (.if_icmp .le 6, 3) := by decide +kernel
theorem dX7_feed_12 : dI cX7_feed 12 14 (.ldc 88) 2 := ⟨by decide +kernel, rfl⟩
theorem dX7_feed_14 : dI cX7_feed 14 15 (.ireturn) 1 := ⟨by decide +kernel, rfl⟩
theorem dX7_feed_15 : dI cX7_feed 15 16 (.iconst 0) 1 := ⟨by decide +kernel, rfl⟩
theorem dX7_feed_16 : dI cX7_feed 16 18 (.istore 4) 2 := ⟨by decide +kernel, rfl⟩
theorem dX7_feed_18 : dI cX7_feed 18 20 (.iload 4) 2 := ⟨by decide +kernel, rfl⟩
theorem dX7_feed_20 : dI cX7_feed 20 22 (.bipush 12) 2 := ⟨by decide +kernel, rfl⟩
theorem dX7_feed_22 : decode cX7_feed 22 = .ok (.if_icmp .ge 62, 3) := by decide +kernel
theorem dX7_feed_25 : dI cX7_feed 25 27 (.iload 4) 2 := ⟨by decide +kernel, rfl⟩
theorem dX7_feed_27 : dI cX7_feed 27 28 (.iconst 4) 1 := ⟨by decide +kernel, rfl⟩
theorem dX7_feed_28 : decode cX7_feed 28 = .ok (.if_icmp .ge 7, 3) := by decide +kernel
theorem dX7_feed_31 : dI cX7_feed 31 32 (.iload_n 1) 1 := ⟨by decide +kernel, rfl⟩
theorem dX7_feed_32 : decode cX7_feed 32 = .ok (.goto 15, 3) := by decide +kernel
theorem dX7_feed_35 : dI cX7_feed 35 37 (.iload 4) 2 := ⟨by decide +kernel, rfl⟩
theorem dX7_feed_37 : dI cX7_feed 37 39 (.bipush 8) 2 := ⟨by decide +kernel, rfl⟩
theorem dX7_feed_39 : decode cX7_feed 39 = .ok (.if_icmp .ge 7, 3) := by decide +kernel
theorem dX7_feed_42 : dI cX7_feed 42 43 (.iload_n 2) 1 := ⟨by decide +kernel, rfl⟩
theorem dX7_feed_43 : decode cX7_feed 43 = .ok (.goto 4, 3) := by decide +kernel
theorem dX7_feed_46 : dI cX7_feed 46 47 (.iload_n 3) 1 := ⟨by decide +kernel, rfl⟩
theorem dX7_feed_47 : dI cX7_feed 47 49 (.istore 5) 2 := ⟨by decide +kernel, rfl⟩
theorem dX7_feed_49 : dI cX7_feed 49 50 (.aload_n 0) 1 := ⟨by decide +kernel, rfl⟩
theorem dX7_feed_50 : dI cX7_feed 50 53 (.getfield 25) 3 := ⟨by decide +kernel, rfl⟩
theorem dX7_feed_53 : dI cX7_feed 53 54 (.aload_n 0) 1 := ⟨by decide +kernel, rfl⟩
theorem dX7_feed_54 : dI cX7_feed 54 57 (.getfield 210) 3 := ⟨by decide +kernel, rfl⟩
theorem dX7_feed_57 : dI cX7_feed 57 59 (.iload 4) 2 := ⟨by decide +kernel, rfl⟩
theorem dX7_feed_59 : dI cX7_feed 59 60 (.iadd) 1 := ⟨by decide +kernel, rfl⟩
theorem dX7_feed_60 : dI cX7_feed 60 62 (.iload 5) 2 := ⟨by decide +kernel, rfl⟩
theorem dX7_feed_62 : dI cX7_feed 62 64 (.bipush 24) 2 := ⟨by decide +kernel, rfl⟩
theorem dX7_feed_64 : dI cX7_feed 64 66 (.bipush 8) 2 := ⟨by decide +kernel, rfl⟩
theorem dX7_feed_66 : dI cX7_feed 66 68 (.iload 4) 2 := ⟨by decide +kernel, rfl⟩
theorem dX7_feed_68 : dI cX7_feed 68 69 (.iconst 4) 1 := ⟨by decide +kernel, rfl⟩
theorem dX7_feed_69 : dI cX7_feed 69 70 (.irem) 1 := ⟨by decide +kernel, rfl⟩
theorem dX7_feed_70 : dI cX7_feed 70 71 (.imul) 1 := ⟨by decide +kernel, rfl⟩
theorem dX7_feed_71 : dI cX7_feed 71 72 (.isub) 1 := ⟨by decide +kernel, rfl⟩
theorem dX7_feed_72 : dI cX7_feed 72 73 (.ishr) 1 := ⟨by decide +kernel, rfl⟩
theorem dX7_feed_73 : dI cX7_feed 73 76 (.sipush 255) 3 := ⟨by decide +kernel, rfl⟩
theorem dX7_feed_76 : dI cX7_feed 76 77 (.iand) 1 := ⟨by decide +kernel, rfl⟩
theorem dX7_feed_77 : dI cX7_feed 77 78 (.iastore) 1 := ⟨by decide +kernel, rfl⟩
theorem dX7_feed_78 : dI cX7_feed 78 81 (.iinc 4 1) 3 := ⟨by decide +kernel, rfl⟩
theorem dX7_feed_81 : decode cX7_feed 81 = .ok (.goto (-63), 3) := by decide +kernel
theorem dX7_feed_84 : dI cX7_feed 84 85 (.aload_n 0) 1 := ⟨by decide +kernel, rfl⟩
theorem dX7_feed_85 : dI cX7_feed 85 86 (.dup) 1 := ⟨by decide +kernel, rfl⟩
theorem dX7_feed_86 : dI cX7_feed 86 89 (.getfield 210) 3 := ⟨by decide +kernel, rfl⟩
theorem dX7_feed_89 : dI cX7_feed 89 91 (.bipush 12) 2 := ⟨by decide +kernel, rfl⟩
theorem dX7_feed_91 : dI cX7_feed 91 92 (.iadd) 1 := ⟨by decide +kernel, rfl⟩
theorem dX7_feed_92 : dI cX7_feed 92 95 (.putfield 210) 3 := ⟨by decide +kernel, rfl⟩
theorem dX7_feed_95 : dI cX7_feed 95 96 (.aload_n 0) 1 := ⟨by decide +kernel, rfl⟩
theorem dX7_feed_96 : dI cX7_feed 96 99 (.getfield 210) 3 := ⟨by decide +kernel, rfl⟩
theorem dX7_feed_99 : dI cX7_feed 99 100 (.ireturn) 1 := ⟨by decide +kernel, rfl⟩
def f_X7_feed_b47 (k18 : Nat → Int32 → Int32 → Int32 → Int32 → hS → Option (Int32 × hS)) (l0 : Nat) (l1 : Int32) (l2 : Int32) (l3 : Int32) (l4 : Int32) (t0 : Int32) (s : hS) : Option (Int32 × hS) :=
  (gR s l0 7 6).bind fun a1 =>
  (gI s l0 7 7).bind fun x2 =>
  if (4 : Int32) = 0 then none else
  (sI s a1 10 (x2 + l4) ((t0 >>> (((24 : Int32) - ((8 : Int32) * (l4 - l4 / (4 : Int32) * (4 : Int32)))) &&& 31)) &&& (255 : Int32))).bind fun s3 =>
  k18 l0 l1 l2 l3 (l4 + (1 : Int32)) s3
theorem b_X7_feed_47 (E : jE) (k18 : Nat → Int32 → Int32 → Int32 → Int32 → hS → Option (Int32 × hS)) (h18 : ∀ (s : hS) (l0 : Nat) (l1 : Int32) (l2 : Int32) (l3 : Int32) (l4 : Int32) , Jo E M_X7_feed cvI 18 [(0, .ref l0), (1, .int l1), (2, .int l2), (3, .int l3), (4, .int l4)] [] s (k18 l0 l1 l2 l3 l4 s)) (s : hS) (l0 : Nat) (l1 : Int32) (l2 : Int32) (l3 : Int32) (l4 : Int32) (t0 : Int32) : Jo E M_X7_feed cvI 47 [(0, .ref l0), (1, .int l1), (2, .int l2), (3, .int l3), (4, .int l4)] [.int t0] s (f_X7_feed_b47 k18 l0 l1 l2 l3 l4 t0 s) := by
  unfold f_X7_feed_b47
  refine Jo_istore (ls' := [(5, .int t0), (0, .ref l0), (1, .int l1), (2, .int l2), (3, .int l3), (4, .int l4)]) dX7_feed_47 (by decide) rfl ?_
  refine Jo_aloadn 1 dX7_feed_49 rfl rfl ?_
  refine Jo_getR fF_7_6 fR_7_6 dX7_feed_50 w_617 (fun a1 => ?_)
  refine Jo_aloadn 1 dX7_feed_53 rfl rfl ?_
  refine Jo_getI fF_7_7 fI_7_7 dX7_feed_54 w_856 (fun x2 => ?_)
  refine Jo_iload 5 dX7_feed_57 rfl ?_
  refine Jo_iadd dX7_feed_59 ?_
  refine Jo_iload 0 dX7_feed_60 rfl ?_
  refine Jo_bipush (v := (24 : Int32)) dX7_feed_62 (by decide) ?_
  refine Jo_bipush (v := (8 : Int32)) dX7_feed_64 (by decide) ?_
  refine Jo_iload 5 dX7_feed_66 rfl ?_
  refine Jo_iconst (v := (4 : Int32)) dX7_feed_68 (by decide) ?_
  refine Jo_irem dX7_feed_69 ?_
  refine Jo_imul dX7_feed_70 ?_
  refine Jo_isub dX7_feed_71 ?_
  refine Jo_ishr dX7_feed_72 ?_
  refine Jo_sipush (v := (255 : Int32)) dX7_feed_73 (by decide) ?_
  refine Jo_iand dX7_feed_76 ?_
  refine Jo_iastore dX7_feed_77 (fun s3 => ?_)
  refine Jo_iinc (v := (l4 + (1 : Int32))) (ls' := [(4, .int (l4 + (1 : Int32))), (5, .int t0), (0, .ref l0), (1, .int l1), (2, .int l2), (3, .int l3)]) 5 dX7_feed_78 rfl rfl (by decide) rfl ?_
  refine Jo_goto 18 dX7_feed_81 (by decide) ?_
  refine Jo_sub [2, 3, 4, 5, 0] rfl ?_
  exact h18 s3 l0 l1 l2 l3 (l4 + (1 : Int32))
def f_X7_feed_b18 (k18 : Nat → Int32 → Int32 → Int32 → Int32 → hS → Option (Int32 × hS)) (l0 : Nat) (l1 : Int32) (l2 : Int32) (l3 : Int32) (l4 : Int32) (s : hS) : Option (Int32 × hS) :=
  if (12 : Int32) ≤ l4 then
    (gI s l0 7 7).bind fun x1 =>
    (pI s l0 7 7 (x1 + (12 : Int32))).bind fun s2 =>
    (gI s2 l0 7 7).bind fun x3 =>
    some (x3, s2)
  else
    if (4 : Int32) ≤ l4 then
      if (8 : Int32) ≤ l4 then
        f_X7_feed_b47 k18 l0 l1 l2 l3 l4 l3 s
      else
        f_X7_feed_b47 k18 l0 l1 l2 l3 l4 l2 s
    else
      f_X7_feed_b47 k18 l0 l1 l2 l3 l4 l1 s
theorem b_X7_feed_18 (E : jE) (k18 : Nat → Int32 → Int32 → Int32 → Int32 → hS → Option (Int32 × hS)) (h18 : ∀ (s : hS) (l0 : Nat) (l1 : Int32) (l2 : Int32) (l3 : Int32) (l4 : Int32) , Jo E M_X7_feed cvI 18 [(0, .ref l0), (1, .int l1), (2, .int l2), (3, .int l3), (4, .int l4)] [] s (k18 l0 l1 l2 l3 l4 s)) (s : hS) (l0 : Nat) (l1 : Int32) (l2 : Int32) (l3 : Int32) (l4 : Int32)  : Jo E M_X7_feed cvI 18 [(0, .ref l0), (1, .int l1), (2, .int l2), (3, .int l3), (4, .int l4)] [] s (f_X7_feed_b18 k18 l0 l1 l2 l3 l4 s) := by
  unfold f_X7_feed_b18
  refine Jo_iload 4 dX7_feed_18 rfl ?_
  refine Jo_bipush (v := (12 : Int32)) dX7_feed_20 (by decide) ?_
  refine Jo_icmp_ge 84 dX7_feed_22 (by decide) rfl ?_ ?_
  · refine Jo_aloadn 0 dX7_feed_84 rfl rfl ?_
    refine Jo_dup dX7_feed_85 rfl ?_
    refine Jo_getI fF_7_7 fI_7_7 dX7_feed_86 w_856 (fun x1 => ?_)
    refine Jo_bipush (v := (12 : Int32)) dX7_feed_89 (by decide) ?_
    refine Jo_iadd dX7_feed_91 ?_
    refine Jo_putI fF_7_7 fI_7_7 (Or.inl rfl) rfl dX7_feed_92 w_856 (fun s2 => ?_)
    refine Jo_aloadn 0 dX7_feed_95 rfl rfl ?_
    refine Jo_getI fF_7_7 fI_7_7 dX7_feed_96 w_856 (fun x3 => ?_)
    exact Jo_iret rfl dX7_feed_99
  · refine Jo_iload 4 dX7_feed_25 rfl ?_
    refine Jo_iconst (v := (4 : Int32)) dX7_feed_27 (by decide) ?_
    refine Jo_icmp_ge 35 dX7_feed_28 (by decide) rfl ?_ ?_
    · refine Jo_iload 4 dX7_feed_35 rfl ?_
      refine Jo_bipush (v := (8 : Int32)) dX7_feed_37 (by decide) ?_
      refine Jo_icmp_ge 46 dX7_feed_39 (by decide) rfl ?_ ?_
      · refine Jo_iloadn 3 dX7_feed_46 rfl rfl ?_
        exact b_X7_feed_47 E k18 h18 s l0 l1 l2 l3 l4 l3
      · refine Jo_iloadn 2 dX7_feed_42 rfl rfl ?_
        refine Jo_goto 47 dX7_feed_43 (by decide) ?_
        exact b_X7_feed_47 E k18 h18 s l0 l1 l2 l3 l4 l2
    · refine Jo_iloadn 1 dX7_feed_31 rfl rfl ?_
      refine Jo_goto 47 dX7_feed_32 (by decide) ?_
      exact b_X7_feed_47 E k18 h18 s l0 l1 l2 l3 l4 l1
theorem e_X7_feed_18 (E : jE)  (n : Nat) : ∀ (s : hS) (l0 : Nat) (l1 : Int32) (l2 : Int32) (l3 : Int32) (l4 : Int32) , Jo E M_X7_feed cvI 18 [(0, .ref l0), (1, .int l1), (2, .int l2), (3, .int l3), (4, .int l4)] [] s ((jL f_X7_feed_b18 (fun _ _ _ _ _ _ => none) n) l0 l1 l2 l3 l4 s) :=
  jL_ind (P := fun f => ∀ (s : hS) (l0 : Nat) (l1 : Int32) (l2 : Int32) (l3 : Int32) (l4 : Int32) , Jo E M_X7_feed cvI 18 [(0, .ref l0), (1, .int l1), (2, .int l2), (3, .int l3), (4, .int l4)] [] s (f l0 l1 l2 l3 l4 s)) (fun _ _ _ _ _ _ => Jo_none) (fun b hb s l0 l1 l2 l3 l4 => b_X7_feed_18 E  b hb s l0 l1 l2 l3 l4) n
def f_X7_feed (s : hS) (a0 : Nat) (i1 : Int32) (i2 : Int32) (i3 : Int32) : Option (Int32 × hS) :=
  (gI s a0 7 7).bind fun x1 =>
  if (x1 + (12 : Int32)) ≤ (96 : Int32) then
    jL f_X7_feed_b18 (fun _ _ _ _ _ _ => none) jF a0 i1 i2 i3 (0 : Int32) s
  else
    some ((-1000000003 : Int32), s)
theorem b_X7_feed_in (E : jE)  (s : hS) (a0 : Nat) (i1 : Int32) (i2 : Int32) (i3 : Int32)  : Jo E M_X7_feed cvI 0 [(0, .ref a0), (1, .int i1), (2, .int i2), (3, .int i3)] [] s (f_X7_feed s a0 i1 i2 i3) := by
  unfold f_X7_feed
  refine Jo_aloadn 0 dX7_feed_0 rfl rfl ?_
  refine Jo_getI fF_7_7 fI_7_7 dX7_feed_1 w_856 (fun x1 => ?_)
  refine Jo_bipush (v := (12 : Int32)) dX7_feed_4 (by decide) ?_
  refine Jo_iadd dX7_feed_6 ?_
  refine Jo_bipush (v := (96 : Int32)) dX7_feed_7 (by decide) ?_
  refine Jo_icmp_le 15 dX7_feed_9 (by decide) rfl ?_ ?_
  · refine Jo_iconst (v := (0 : Int32)) dX7_feed_15 (by decide) ?_
    refine Jo_istore (ls' := [(4, .int (0 : Int32)), (0, .ref a0), (1, .int i1), (2, .int i2), (3, .int i3)]) dX7_feed_16 (by decide) rfl ?_
    refine Jo_sub [1, 2, 3, 4, 0] rfl ?_
    exact e_X7_feed_18 E jF s a0 i1 i2 i3 (0 : Int32)
  · refine Jo_ldc dX7_feed_12 w_672 ?_
    exact Jo_iret rfl dX7_feed_14
theorem K_X7_feed (E : jE) (s : hS) (a0 : Nat) (i1 : Int32) (i2 : Int32) (i3 : Int32) : jK E yX7_feed M_X7_feed cvI [.ref a0, .int i1, .int i2, .int i3] s (f_X7_feed s a0 i1 i2 i3) := jK_of ⟨by decide, rfl, rfl⟩ (Nat.le_of_ble_eq_true rfl) (b_X7_feed_in E s a0 i1 i2 i3)
/-! HeronTalkModel.trim(I)I -/
abbrev M_X7_trim : jM := (RX7, cX7_trim, 2, (some .int), "trim", 1, 22)
theorem yF_X7_trim : yF yX7_trim M_X7_trim 1 := ⟨w_860, w_624, by decide +kernel⟩
theorem yV_X7_trim : Cond.instanceMethod yX7_trim ∈ tbG ∧ Cond.selects yX7_trim.cls yX7_trim yX7_trim ∈ tbG := ⟨w_861, w_862⟩
theorem dX7_trim_0 : dI cX7_trim 0 1 (.iload_n 1) 1 := ⟨by decide +kernel, rfl⟩
theorem dX7_trim_1 : dI cX7_trim 1 2 (.iconst 0) 1 := ⟨by decide +kernel, rfl⟩
theorem dX7_trim_2 : dI cX7_trim 2 3 (.aload_n 0) 1 := ⟨by decide +kernel, rfl⟩
theorem dX7_trim_3 : dI cX7_trim 3 6 (.getfield 210) 3 := ⟨by decide +kernel, rfl⟩
theorem dX7_trim_6 : decode cX7_trim 6 = .ok (.invokestatic 79, 3) := by decide +kernel
theorem dX7_trim_9 : decode cX7_trim 9 = .ok (.ifCond .ne 6, 3) := by decide +kernel
theorem dX7_trim_12 : dI cX7_trim 12 14 (.ldc 87) 2 := ⟨by decide +kernel, rfl⟩
theorem dX7_trim_14 : dI cX7_trim 14 15 (.ireturn) 1 := ⟨by decide +kernel, rfl⟩
theorem dX7_trim_15 : dI cX7_trim 15 16 (.aload_n 0) 1 := ⟨by decide +kernel, rfl⟩
theorem dX7_trim_16 : dI cX7_trim 16 17 (.iload_n 1) 1 := ⟨by decide +kernel, rfl⟩
theorem dX7_trim_17 : dI cX7_trim 17 20 (.putfield 210) 3 := ⟨by decide +kernel, rfl⟩
theorem dX7_trim_20 : dI cX7_trim 20 21 (.iload_n 1) 1 := ⟨by decide +kernel, rfl⟩
theorem dX7_trim_21 : dI cX7_trim 21 22 (.ireturn) 1 := ⟨by decide +kernel, rfl⟩
def f_X7_trim (s : hS) (a0 : Nat) (i1 : Int32) : Option (Int32 × hS) :=
  (gI s a0 7 7).bind fun x1 =>
  (f_X7_in s i1 (0 : Int32) x1).bind fun p2 =>
  if p2.1 = 0 then
    some ((-1000000001 : Int32), p2.2)
  else
    (pI p2.2 a0 7 7 i1).bind fun s3 =>
    some (i1, s3)
theorem b_X7_trim_in (E : jE)  (s : hS) (a0 : Nat) (i1 : Int32)  : Jo E M_X7_trim cvI 0 [(0, .ref a0), (1, .int i1)] [] s (f_X7_trim s a0 i1) := by
  unfold f_X7_trim
  refine Jo_iloadn 1 dX7_trim_0 rfl rfl ?_
  refine Jo_iconst (v := (0 : Int32)) dX7_trim_1 (by decide) ?_
  refine Jo_aloadn 0 dX7_trim_2 rfl rfl ?_
  refine Jo_getI fF_7_7 fI_7_7 dX7_trim_3 w_856 (fun x1 => ?_)
  refine Jo_callSi (rest := []) [.int i1, .int (0 : Int32), .int x1] yF_X7_in yS_X7_in w_635 rfl rfl ⟨Nat.le_of_ble_eq_true rfl, Nat.le_of_ble_eq_true rfl, Nat.le_of_ble_eq_true rfl⟩ dX7_trim_6 rfl (K_X7_in E s i1 (0 : Int32) x1) (fun p2 => ?_)
  refine Jo_if_ne 15 dX7_trim_9 (by decide) rfl ?_ ?_
  · refine Jo_ldc dX7_trim_12 w_673 ?_
    exact Jo_iret rfl dX7_trim_14
  · refine Jo_aloadn 0 dX7_trim_15 rfl rfl ?_
    refine Jo_iloadn 1 dX7_trim_16 rfl rfl ?_
    refine Jo_putI fF_7_7 fI_7_7 (Or.inl rfl) rfl dX7_trim_17 w_856 (fun s3 => ?_)
    refine Jo_iloadn 1 dX7_trim_20 rfl rfl ?_
    exact Jo_iret rfl dX7_trim_21
theorem K_X7_trim (E : jE) (s : hS) (a0 : Nat) (i1 : Int32) : jK E yX7_trim M_X7_trim cvI [.ref a0, .int i1] s (f_X7_trim s a0 i1) := jK_of ⟨by decide, rfl, rfl⟩ (Nat.le_of_ble_eq_true rfl) (b_X7_trim_in E s a0 i1)
/-! HeronTalkModel.isLetter(I)Z -/
abbrev M_X7_isLetter : jM := (RX7, cX7_isLetter, 2, (some .boolean), "isLetter", 0, 0)
theorem yF_X7_isLetter : yF yX7_isLetter M_X7_isLetter 1 := ⟨w_863, w_624, by decide +kernel⟩
theorem yV_X7_isLetter : Cond.instanceMethod yX7_isLetter ∈ tbG ∧ Cond.selects yX7_isLetter.cls yX7_isLetter yX7_isLetter ∈ tbG := ⟨w_864, w_865⟩
theorem dX7_isLetter_0 : dI cX7_isLetter 0 1 (.iload_n 1) 1 := ⟨by decide +kernel, rfl⟩
theorem dX7_isLetter_1 : dI cX7_isLetter 1 2 (.aload_n 0) 1 := ⟨by decide +kernel, rfl⟩
theorem dX7_isLetter_2 : dI cX7_isLetter 2 5 (.getfield 210) 3 := ⟨by decide +kernel, rfl⟩
theorem dX7_isLetter_5 : decode cX7_isLetter 5 = .ok (.if_icmp .ge 29, 3) := by decide +kernel
theorem dX7_isLetter_8 : dI cX7_isLetter 8 9 (.aload_n 0) 1 := ⟨by decide +kernel, rfl⟩
theorem dX7_isLetter_9 : dI cX7_isLetter 9 12 (.getfield 25) 3 := ⟨by decide +kernel, rfl⟩
theorem dX7_isLetter_12 : dI cX7_isLetter 12 13 (.iload_n 1) 1 := ⟨by decide +kernel, rfl⟩
theorem dX7_isLetter_13 : dI cX7_isLetter 13 14 (.iaload) 1 := ⟨by decide +kernel, rfl⟩
theorem dX7_isLetter_14 : dI cX7_isLetter 14 16 (.bipush 97) 2 := ⟨by decide +kernel, rfl⟩
theorem dX7_isLetter_16 : decode cX7_isLetter 16 = .ok (.if_icmp .lt 18, 3) := by decide +kernel
theorem dX7_isLetter_19 : dI cX7_isLetter 19 20 (.aload_n 0) 1 := ⟨by decide +kernel, rfl⟩
theorem dX7_isLetter_20 : dI cX7_isLetter 20 23 (.getfield 25) 3 := ⟨by decide +kernel, rfl⟩
theorem dX7_isLetter_23 : dI cX7_isLetter 23 24 (.iload_n 1) 1 := ⟨by decide +kernel, rfl⟩
theorem dX7_isLetter_24 : dI cX7_isLetter 24 25 (.iaload) 1 := ⟨by decide +kernel, rfl⟩
theorem dX7_isLetter_25 : dI cX7_isLetter 25 27 (.bipush 122) 2 := ⟨by decide +kernel, rfl⟩
theorem dX7_isLetter_27 : decode cX7_isLetter 27 = .ok (.if_icmp .gt 7, 3) := by decide +kernel
theorem dX7_isLetter_30 : dI cX7_isLetter 30 31 (.iconst 1) 1 := ⟨by decide +kernel, rfl⟩
theorem dX7_isLetter_31 : decode cX7_isLetter 31 = .ok (.goto 4, 3) := by decide +kernel
theorem dX7_isLetter_34 : dI cX7_isLetter 34 35 (.iconst 0) 1 := ⟨by decide +kernel, rfl⟩
theorem dX7_isLetter_35 : dI cX7_isLetter 35 36 (.ireturn) 1 := ⟨by decide +kernel, rfl⟩
def f_X7_isLetter (s : hS) (a0 : Nat) (i1 : Int32) : Option (Int32 × hS) :=
  (gI s a0 7 7).bind fun x1 =>
  if x1 ≤ i1 then
    some ((0 : Int32), s)
  else
    (gR s a0 7 6).bind fun a2 =>
    (aI s a2 10 i1).bind fun x3 =>
    if x3 < (97 : Int32) then
      some ((0 : Int32), s)
    else
      (gR s a0 7 6).bind fun a4 =>
      (aI s a4 10 i1).bind fun x5 =>
      if (122 : Int32) < x5 then
        some ((0 : Int32), s)
      else
        some ((1 : Int32), s)
theorem b_X7_isLetter_in (E : jE)  (s : hS) (a0 : Nat) (i1 : Int32)  : Jo E M_X7_isLetter cvI 0 [(0, .ref a0), (1, .int i1)] [] s (f_X7_isLetter s a0 i1) := by
  unfold f_X7_isLetter
  refine Jo_iloadn 1 dX7_isLetter_0 rfl rfl ?_
  refine Jo_aloadn 0 dX7_isLetter_1 rfl rfl ?_
  refine Jo_getI fF_7_7 fI_7_7 dX7_isLetter_2 w_856 (fun x1 => ?_)
  refine Jo_icmp_ge 34 dX7_isLetter_5 (by decide) rfl ?_ ?_
  · refine Jo_iconst (v := (0 : Int32)) dX7_isLetter_34 (by decide) ?_
    exact Jo_zret0 rfl dX7_isLetter_35
  · refine Jo_aloadn 0 dX7_isLetter_8 rfl rfl ?_
    refine Jo_getR fF_7_6 fR_7_6 dX7_isLetter_9 w_617 (fun a2 => ?_)
    refine Jo_iloadn 1 dX7_isLetter_12 rfl rfl ?_
    refine Jo_iaload dX7_isLetter_13 (fun x3 => ?_)
    refine Jo_bipush (v := (97 : Int32)) dX7_isLetter_14 (by decide) ?_
    refine Jo_icmp_lt 34 dX7_isLetter_16 (by decide) rfl ?_ ?_
    · refine Jo_iconst (v := (0 : Int32)) dX7_isLetter_34 (by decide) ?_
      exact Jo_zret0 rfl dX7_isLetter_35
    · refine Jo_aloadn 0 dX7_isLetter_19 rfl rfl ?_
      refine Jo_getR fF_7_6 fR_7_6 dX7_isLetter_20 w_617 (fun a4 => ?_)
      refine Jo_iloadn 1 dX7_isLetter_23 rfl rfl ?_
      refine Jo_iaload dX7_isLetter_24 (fun x5 => ?_)
      refine Jo_bipush (v := (122 : Int32)) dX7_isLetter_25 (by decide) ?_
      refine Jo_icmp_gt 34 dX7_isLetter_27 (by decide) rfl ?_ ?_
      · refine Jo_iconst (v := (0 : Int32)) dX7_isLetter_34 (by decide) ?_
        exact Jo_zret0 rfl dX7_isLetter_35
      · refine Jo_iconst (v := (1 : Int32)) dX7_isLetter_30 (by decide) ?_
        refine Jo_goto 35 dX7_isLetter_31 (by decide) ?_
        exact Jo_zret1 rfl dX7_isLetter_35
theorem K_X7_isLetter (E : jE) (s : hS) (a0 : Nat) (i1 : Int32) : jK E yX7_isLetter M_X7_isLetter cvI [.ref a0, .int i1] s (f_X7_isLetter s a0 i1) := jK_of ⟨by decide, rfl, rfl⟩ (Nat.le_of_ble_eq_true rfl) (b_X7_isLetter_in E s a0 i1)
/-! HeronTalkModel.isFigure(I)Z -/
abbrev M_X7_isFigure : jM := (RX7, cX7_isFigure, 2, (some .boolean), "isFigure", 0, 0)
theorem yF_X7_isFigure : yF yX7_isFigure M_X7_isFigure 1 := ⟨w_866, w_624, by decide +kernel⟩
theorem yV_X7_isFigure : Cond.instanceMethod yX7_isFigure ∈ tbG ∧ Cond.selects yX7_isFigure.cls yX7_isFigure yX7_isFigure ∈ tbG := ⟨w_867, w_868⟩
theorem dX7_isFigure_0 : dI cX7_isFigure 0 1 (.iload_n 1) 1 := ⟨by decide +kernel, rfl⟩
theorem dX7_isFigure_1 : dI cX7_isFigure 1 2 (.aload_n 0) 1 := ⟨by decide +kernel, rfl⟩
theorem dX7_isFigure_2 : dI cX7_isFigure 2 5 (.getfield 210) 3 := ⟨by decide +kernel, rfl⟩
theorem dX7_isFigure_5 : decode cX7_isFigure 5 = .ok (.if_icmp .ge 29, 3) := by decide +kernel
theorem dX7_isFigure_8 : dI cX7_isFigure 8 9 (.aload_n 0) 1 := ⟨by decide +kernel, rfl⟩
theorem dX7_isFigure_9 : dI cX7_isFigure 9 12 (.getfield 25) 3 := ⟨by decide +kernel, rfl⟩
theorem dX7_isFigure_12 : dI cX7_isFigure 12 13 (.iload_n 1) 1 := ⟨by decide +kernel, rfl⟩
theorem dX7_isFigure_13 : dI cX7_isFigure 13 14 (.iaload) 1 := ⟨by decide +kernel, rfl⟩
theorem dX7_isFigure_14 : dI cX7_isFigure 14 16 (.bipush 48) 2 := ⟨by decide +kernel, rfl⟩
theorem dX7_isFigure_16 : decode cX7_isFigure 16 = .ok (.if_icmp .lt 18, 3) := by decide +kernel
theorem dX7_isFigure_19 : dI cX7_isFigure 19 20 (.aload_n 0) 1 := ⟨by decide +kernel, rfl⟩
theorem dX7_isFigure_20 : dI cX7_isFigure 20 23 (.getfield 25) 3 := ⟨by decide +kernel, rfl⟩
theorem dX7_isFigure_23 : dI cX7_isFigure 23 24 (.iload_n 1) 1 := ⟨by decide +kernel, rfl⟩
theorem dX7_isFigure_24 : dI cX7_isFigure 24 25 (.iaload) 1 := ⟨by decide +kernel, rfl⟩
theorem dX7_isFigure_25 : dI cX7_isFigure 25 27 (.bipush 57) 2 := ⟨by decide +kernel, rfl⟩
theorem dX7_isFigure_27 : decode cX7_isFigure 27 = .ok (.if_icmp .gt 7, 3) := by decide +kernel
theorem dX7_isFigure_30 : dI cX7_isFigure 30 31 (.iconst 1) 1 := ⟨by decide +kernel, rfl⟩
theorem dX7_isFigure_31 : decode cX7_isFigure 31 = .ok (.goto 4, 3) := by decide +kernel
theorem dX7_isFigure_34 : dI cX7_isFigure 34 35 (.iconst 0) 1 := ⟨by decide +kernel, rfl⟩
theorem dX7_isFigure_35 : dI cX7_isFigure 35 36 (.ireturn) 1 := ⟨by decide +kernel, rfl⟩
def f_X7_isFigure (s : hS) (a0 : Nat) (i1 : Int32) : Option (Int32 × hS) :=
  (gI s a0 7 7).bind fun x1 =>
  if x1 ≤ i1 then
    some ((0 : Int32), s)
  else
    (gR s a0 7 6).bind fun a2 =>
    (aI s a2 10 i1).bind fun x3 =>
    if x3 < (48 : Int32) then
      some ((0 : Int32), s)
    else
      (gR s a0 7 6).bind fun a4 =>
      (aI s a4 10 i1).bind fun x5 =>
      if (57 : Int32) < x5 then
        some ((0 : Int32), s)
      else
        some ((1 : Int32), s)
theorem b_X7_isFigure_in (E : jE)  (s : hS) (a0 : Nat) (i1 : Int32)  : Jo E M_X7_isFigure cvI 0 [(0, .ref a0), (1, .int i1)] [] s (f_X7_isFigure s a0 i1) := by
  unfold f_X7_isFigure
  refine Jo_iloadn 1 dX7_isFigure_0 rfl rfl ?_
  refine Jo_aloadn 0 dX7_isFigure_1 rfl rfl ?_
  refine Jo_getI fF_7_7 fI_7_7 dX7_isFigure_2 w_856 (fun x1 => ?_)
  refine Jo_icmp_ge 34 dX7_isFigure_5 (by decide) rfl ?_ ?_
  · refine Jo_iconst (v := (0 : Int32)) dX7_isFigure_34 (by decide) ?_
    exact Jo_zret0 rfl dX7_isFigure_35
  · refine Jo_aloadn 0 dX7_isFigure_8 rfl rfl ?_
    refine Jo_getR fF_7_6 fR_7_6 dX7_isFigure_9 w_617 (fun a2 => ?_)
    refine Jo_iloadn 1 dX7_isFigure_12 rfl rfl ?_
    refine Jo_iaload dX7_isFigure_13 (fun x3 => ?_)
    refine Jo_bipush (v := (48 : Int32)) dX7_isFigure_14 (by decide) ?_
    refine Jo_icmp_lt 34 dX7_isFigure_16 (by decide) rfl ?_ ?_
    · refine Jo_iconst (v := (0 : Int32)) dX7_isFigure_34 (by decide) ?_
      exact Jo_zret0 rfl dX7_isFigure_35
    · refine Jo_aloadn 0 dX7_isFigure_19 rfl rfl ?_
      refine Jo_getR fF_7_6 fR_7_6 dX7_isFigure_20 w_617 (fun a4 => ?_)
      refine Jo_iloadn 1 dX7_isFigure_23 rfl rfl ?_
      refine Jo_iaload dX7_isFigure_24 (fun x5 => ?_)
      refine Jo_bipush (v := (57 : Int32)) dX7_isFigure_25 (by decide) ?_
      refine Jo_icmp_gt 34 dX7_isFigure_27 (by decide) rfl ?_ ?_
      · refine Jo_iconst (v := (0 : Int32)) dX7_isFigure_34 (by decide) ?_
        exact Jo_zret0 rfl dX7_isFigure_35
      · refine Jo_iconst (v := (1 : Int32)) dX7_isFigure_30 (by decide) ?_
        refine Jo_goto 35 dX7_isFigure_31 (by decide) ?_
        exact Jo_zret1 rfl dX7_isFigure_35
theorem K_X7_isFigure (E : jE) (s : hS) (a0 : Nat) (i1 : Int32) : jK E yX7_isFigure M_X7_isFigure cvI [.ref a0, .int i1] s (f_X7_isFigure s a0 i1) := jK_of ⟨by decide, rfl, rfl⟩ (Nat.le_of_ble_eq_true rfl) (b_X7_isFigure_in E s a0 i1)
