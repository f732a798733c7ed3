/-! HeronTalk.richest()I -/
abbrev M_X6_richest : jM := (RX6, cX6_richest, 1, (some .int), "richest", 3, 69)
theorem yF_X6_richest : yF yX6_richest M_X6_richest 0 := ⟨w_476, w_278, by decide +kernel⟩
theorem yV_X6_richest : Cond.instanceMethod yX6_richest ∈ tbG ∧ Cond.selects yX6_richest.cls yX6_richest yX6_richest ∈ tbG := ⟨w_477, w_478⟩
theorem dX6_richest_0 : dI cX6_richest 0 1 (.aload_n 0) 1 := ⟨by decide +kernel, rfl⟩
theorem dX6_richest_1 : dI cX6_richest 1 4 (.getfield 10) 3 := ⟨by decide +kernel, rfl⟩
theorem dX6_richest_4 : decode cX6_richest 4 = .ok (.invokevirtual 192, 3) := by decide +kernel
theorem dX6_richest_7 : decode cX6_richest 7 = .ok (.invokestatic 171, 3) := by decide +kernel
theorem dX6_richest_10 : dI cX6_richest 10 11 (.ireturn) 1 := ⟨by decide +kernel, rfl⟩
def f_X6_richest (s : hS) (a0 : Nat) : Option (Int32 × hS) :=
  (gR s a0 6 0).bind fun a1 =>
  (cV s a1 5 (f_X5_richestOne s a1)).bind fun p2 =>
  (f_X6_orNone p2.2 p2.1).bind fun p3 =>
  some (p3.1, p3.2)
theorem b_X6_richest_in (E : jE)  (s : hS) (a0 : Nat)  : Jo E M_X6_richest cvI 0 [(0, .ref a0)] [] s (f_X6_richest s a0) := by
  unfold f_X6_richest
  refine Jo_aloadn 0 dX6_richest_0 rfl rfl ?_
  refine Jo_getR fF_6_0 fR_6_0 dX6_richest_1 w_359 (fun a1 => ?_)
  refine Jo_callVi (a := a1) (rest := []) [] cc_5 yF_X5_richestOne yV_X5_richestOne w_475 rfl rfl ⟨Nat.le_of_ble_eq_true rfl, Nat.le_of_ble_eq_true rfl, Nat.le_of_ble_eq_true rfl⟩ dX6_richest_4 rfl (K_X5_richestOne E s a1) (fun p2 => ?_)
  refine Jo_callSi (rest := []) [.int p2.1] yF_X6_orNone yS_X6_orNone w_444 rfl rfl ⟨Nat.le_of_ble_eq_true rfl, Nat.le_of_ble_eq_true rfl, Nat.le_of_ble_eq_true rfl⟩ dX6_richest_7 rfl (K_X6_orNone E p2.2 p2.1) (fun p3 => ?_)
  exact Jo_iret rfl dX6_richest_10
theorem K_X6_richest (E : jE) (s : hS) (a0 : Nat) : jK E yX6_richest M_X6_richest cvI [.ref a0] s (f_X6_richest s a0) := jK_of ⟨by decide, rfl, rfl⟩ (Nat.le_of_ble_eq_true rfl) (b_X6_richest_in E s a0)
/-! HeronTalk.comesToKnow(LHeronTalk$Town;IIII[I)Z -/
abbrev M_X6_comesToKnow (nr : Nat) : jM := (RX6, cX6_comesToKnow, 9, (some .boolean), "comesToKnow", 6 + nr, 149 + nr * 28)
theorem yF_X6_comesToKnow {nr : Nat} : yF yX6_comesToKnow (M_X6_comesToKnow nr) 6 := ⟨w_481, w_278, by decide +kernel⟩
theorem yS_X6_comesToKnow : Cond.static yX6_comesToKnow ∈ tbG := w_482
theorem dX6_comesToKnow_0 : dI cX6_comesToKnow 0 1 (.iload_n 3) 1 := ⟨by decide +kernel, rfl⟩
theorem dX6_comesToKnow_1 : decode cX6_comesToKnow 1 = .ok (.ifCond .le 11, 3) := by decide +kernel
theorem dX6_comesToKnow_4 : dI cX6_comesToKnow 4 6 (.iload 4) 2 := ⟨by decide +kernel, rfl⟩
theorem dX6_comesToKnow_6 : dI cX6_comesToKnow 6 8 (.aload 5) 2 := ⟨by decide +kernel, rfl⟩
theorem dX6_comesToKnow_8 : dI cX6_comesToKnow 8 9 (.arraylength) 1 := ⟨by decide +kernel, rfl⟩
theorem dX6_comesToKnow_9 : decode cX6_comesToKnow 9 = .ok (.if_icmp .lt 10, 3) := by decide +kernel
theorem dX6_comesToKnow_12 : dI cX6_comesToKnow 12 13 (.aload_n 0) 1 := ⟨by decide +kernel, rfl⟩
theorem dX6_comesToKnow_13 : dI cX6_comesToKnow 13 14 (.iload_n 1) 1 := ⟨by decide +kernel, rfl⟩
theorem dX6_comesToKnow_14 : dI cX6_comesToKnow 14 15 (.iload_n 2) 1 := ⟨by decide +kernel, rfl⟩
theorem dX6_comesToKnow_15 : decode cX6_comesToKnow 15 = .ok (.invokevirtual 204, 3) := by decide +kernel
theorem dX6_comesToKnow_18 : dI cX6_comesToKnow 18 19 (.ireturn) 1 := ⟨by decide +kernel, rfl⟩
theorem dX6_comesToKnow_19 : dI cX6_comesToKnow 19 20 (.aload_n 0) 1 := ⟨by decide +kernel, rfl⟩
theorem dX6_comesToKnow_20 : dI cX6_comesToKnow 20 23 (.getfield 102) 3 := ⟨by decide +kernel, rfl⟩
theorem dX6_comesToKnow_23 : dI cX6_comesToKnow 23 24 (.iload_n 1) 1 := ⟨by decide +kernel, rfl⟩
theorem dX6_comesToKnow_24 : dI cX6_comesToKnow 24 25 (.iaload) 1 := ⟨by decide +kernel, rfl⟩
theorem dX6_comesToKnow_25 : dI cX6_comesToKnow 25 27 (.istore 6) 2 := ⟨by decide +kernel, rfl⟩
theorem dX6_comesToKnow_27 : dI cX6_comesToKnow 27 28 (.iconst 0) 1 := ⟨by decide +kernel, rfl⟩
theorem dX6_comesToKnow_28 : dI cX6_comesToKnow 28 30 (.istore 7) 2 := ⟨by decide +kernel, rfl⟩
theorem dX6_comesToKnow_30 : dI cX6_comesToKnow 30 32 (.iload 7) 2 := ⟨by decide +kernel, rfl⟩
theorem dX6_comesToKnow_32 : dI cX6_comesToKnow 32 33 (.aload_n 0) 1 := ⟨by decide +kernel, rfl⟩
theorem dX6_comesToKnow_33 : dI cX6_comesToKnow 33 36 (.getfield 92) 3 := ⟨by decide +kernel, rfl⟩
theorem dX6_comesToKnow_36 : decode cX6_comesToKnow 36 = .ok (.if_icmp .ge 82, 3) := by decide +kernel
theorem dX6_comesToKnow_39 : dI cX6_comesToKnow 39 40 (.aload_n 0) 1 := ⟨by decide +kernel, rfl⟩
theorem dX6_comesToKnow_40 : dI cX6_comesToKnow 40 43 (.getfield 102) 3 := ⟨by decide +kernel, rfl⟩
theorem dX6_comesToKnow_43 : dI cX6_comesToKnow 43 45 (.iload 7) 2 := ⟨by decide +kernel, rfl⟩
theorem dX6_comesToKnow_45 : dI cX6_comesToKnow 45 46 (.iaload) 1 := ⟨by decide +kernel, rfl⟩
theorem dX6_comesToKnow_46 : dI cX6_comesToKnow 46 48 (.istore 8) 2 := ⟨by decide +kernel, rfl⟩
theorem dX6_comesToKnow_48 : dI cX6_comesToKnow 48 50 (.iload 7) 2 := ⟨by decide +kernel, rfl⟩
theorem dX6_comesToKnow_50 : dI cX6_comesToKnow 50 51 (.iload_n 1) 1 := ⟨by decide +kernel, rfl⟩
theorem dX6_comesToKnow_51 : decode cX6_comesToKnow 51 = .ok (.if_icmp .eq 61, 3) := by decide +kernel
theorem dX6_comesToKnow_54 : dI cX6_comesToKnow 54 55 (.aload_n 0) 1 := ⟨by decide +kernel, rfl⟩
theorem dX6_comesToKnow_55 : dI cX6_comesToKnow 55 56 (.iconst 0) 1 := ⟨by decide +kernel, rfl⟩
theorem dX6_comesToKnow_56 : dI cX6_comesToKnow 56 57 (.iload_n 1) 1 := ⟨by decide +kernel, rfl⟩
theorem dX6_comesToKnow_57 : dI cX6_comesToKnow 57 59 (.iload 7) 2 := ⟨by decide +kernel, rfl⟩
theorem dX6_comesToKnow_59 : decode cX6_comesToKnow 59 = .ok (.invokevirtual 185, 3) := by decide +kernel
theorem dX6_comesToKnow_62 : decode cX6_comesToKnow 62 = .ok (.ifCond .ne 6, 3) := by decide +kernel
theorem dX6_comesToKnow_65 : decode cX6_comesToKnow 65 = .ok (.goto 47, 3) := by decide +kernel
theorem dX6_comesToKnow_68 : dI cX6_comesToKnow 68 70 (.aload 5) 2 := ⟨by decide +kernel, rfl⟩
theorem dX6_comesToKnow_70 : dI cX6_comesToKnow 70 72 (.iload 4) 2 := ⟨by decide +kernel, rfl⟩
theorem dX6_comesToKnow_72 : dI cX6_comesToKnow 72 74 (.iload 7) 2 := ⟨by decide +kernel, rfl⟩
theorem dX6_comesToKnow_74 : dI cX6_comesToKnow 74 75 (.iastore) 1 := ⟨by decide +kernel, rfl⟩
theorem dX6_comesToKnow_75 : dI cX6_comesToKnow 75 76 (.aload_n 0) 1 := ⟨by decide +kernel, rfl⟩
theorem dX6_comesToKnow_76 : dI cX6_comesToKnow 76 77 (.iload_n 1) 1 := ⟨by decide +kernel, rfl⟩
theorem dX6_comesToKnow_77 : dI cX6_comesToKnow 77 78 (.iload_n 2) 1 := ⟨by decide +kernel, rfl⟩
theorem dX6_comesToKnow_78 : dI cX6_comesToKnow 78 79 (.iload_n 3) 1 := ⟨by decide +kernel, rfl⟩
theorem dX6_comesToKnow_79 : dI cX6_comesToKnow 79 80 (.iconst 1) 1 := ⟨by decide +kernel, rfl⟩
theorem dX6_comesToKnow_80 : dI cX6_comesToKnow 80 81 (.isub) 1 := ⟨by decide +kernel, rfl⟩
theorem dX6_comesToKnow_81 : dI cX6_comesToKnow 81 83 (.iload 4) 2 := ⟨by decide +kernel, rfl⟩
theorem dX6_comesToKnow_83 : dI cX6_comesToKnow 83 84 (.iconst 1) 1 := ⟨by decide +kernel, rfl⟩
theorem dX6_comesToKnow_84 : dI cX6_comesToKnow 84 85 (.iadd) 1 := ⟨by decide +kernel, rfl⟩
theorem dX6_comesToKnow_85 : dI cX6_comesToKnow 85 87 (.aload 5) 2 := ⟨by decide +kernel, rfl⟩
theorem dX6_comesToKnow_87 : decode cX6_comesToKnow 87 = .ok (.invokestatic 199, 3) := by decide +kernel
theorem dX6_comesToKnow_90 : decode cX6_comesToKnow 90 = .ok (.ifCond .eq 5, 3) := by decide +kernel
theorem dX6_comesToKnow_93 : dI cX6_comesToKnow 93 94 (.iconst 1) 1 := ⟨by decide +kernel, rfl⟩
theorem dX6_comesToKnow_94 : dI cX6_comesToKnow 94 95 (.ireturn) 1 := ⟨by decide +kernel, rfl⟩
theorem dX6_comesToKnow_95 : dI cX6_comesToKnow 95 96 (.aload_n 0) 1 := ⟨by decide +kernel, rfl⟩
theorem dX6_comesToKnow_96 : dI cX6_comesToKnow 96 99 (.getfield 102) 3 := ⟨by decide +kernel, rfl⟩
theorem dX6_comesToKnow_99 : dI cX6_comesToKnow 99 100 (.iload_n 1) 1 := ⟨by decide +kernel, rfl⟩
theorem dX6_comesToKnow_100 : dI cX6_comesToKnow 100 102 (.iload 6) 2 := ⟨by decide +kernel, rfl⟩
theorem dX6_comesToKnow_102 : dI cX6_comesToKnow 102 103 (.iastore) 1 := ⟨by decide +kernel, rfl⟩
theorem dX6_comesToKnow_103 : dI cX6_comesToKnow 103 104 (.aload_n 0) 1 := ⟨by decide +kernel, rfl⟩
theorem dX6_comesToKnow_104 : dI cX6_comesToKnow 104 107 (.getfield 102) 3 := ⟨by decide +kernel, rfl⟩
theorem dX6_comesToKnow_107 : dI cX6_comesToKnow 107 109 (.iload 7) 2 := ⟨by decide +kernel, rfl⟩
theorem dX6_comesToKnow_109 : dI cX6_comesToKnow 109 111 (.iload 8) 2 := ⟨by decide +kernel, rfl⟩
theorem dX6_comesToKnow_111 : dI cX6_comesToKnow 111 112 (.iastore) 1 := ⟨by decide +kernel, rfl⟩
theorem dX6_comesToKnow_112 : dI cX6_comesToKnow 112 115 (.iinc 7 1) 3 := ⟨by decide +kernel, rfl⟩
theorem dX6_comesToKnow_115 : decode cX6_comesToKnow 115 = .ok (.goto (-85), 3) := by decide +kernel
theorem dX6_comesToKnow_118 : dI cX6_comesToKnow 118 119 (.iconst 0) 1 := ⟨by decide +kernel, rfl⟩
theorem dX6_comesToKnow_119 : dI cX6_comesToKnow 119 120 (.ireturn) 1 := ⟨by decide +kernel, rfl⟩
def f_X6_comesToKnow_b12 (fr0 : hS → Nat → Int32 → Int32 → Int32 → Int32 → Nat → Option (Int32 × hS)) (l0 : Nat) (l1 : Int32) (l2 : Int32) (s : hS) : Option (Int32 × hS) :=
  (cV s l0 5 (f_X5_isKnown s l0 l1 l2)).bind fun p1 =>
  if p1.1 = 0 ∨ p1.1 = 1 then some (p1.1, p1.2) else none
theorem b_X6_comesToKnow_12 (E : jE) (nr : Nat) (fr0 : hS → Nat → Int32 → Int32 → Int32 → Int32 → Nat → Option (Int32 × hS)) (hr0 : ∀ (s : hS) (a0 : Nat) (i1 : Int32) (i2 : Int32) (i3 : Int32) (i4 : Int32) (a5 : Nat), jK E yX6_comesToKnow (M_X6_comesToKnow nr) cvI [.ref a0, .int i1, .int i2, .int i3, .int i4, .ref a5] s (fr0 s a0 i1 i2 i3 i4 a5))  (s : hS) (l0 : Nat) (l1 : Int32) (l2 : Int32)  : Jo E (M_X6_comesToKnow (nr + 1)) cvI 12 [(0, .ref l0), (1, .int l1), (2, .int l2)] [] s (f_X6_comesToKnow_b12 fr0  l0 l1 l2 s) := by
  unfold f_X6_comesToKnow_b12
  refine Jo_aloadn 0 dX6_comesToKnow_12 rfl rfl ?_
  refine Jo_iloadn 1 dX6_comesToKnow_13 rfl rfl ?_
  refine Jo_iloadn 2 dX6_comesToKnow_14 rfl rfl ?_
  refine Jo_callVi (a := l0) (rest := []) [.int l1, .int l2] cc_5 yF_X5_isKnown yV_X5_isKnown w_479 rfl rfl ⟨show 0 + 1 ≤ 6 + (nr + 1) by omega, show 8 + (3 + 11) + 0 ≤ 149 + (nr + 1) * 28 by omega, Nat.le_of_ble_eq_true rfl⟩ dX6_comesToKnow_15 rfl (K_X5_isKnown E s l0 l1 l2) (fun p1 => ?_)
  exact Jo_zret rfl dX6_comesToKnow_18
def f_X6_comesToKnow_b112 (fr0 : hS → Nat → Int32 → Int32 → Int32 → Int32 → Nat → Option (Int32 × hS)) (k30 : Nat → Int32 → Int32 → Int32 → Int32 → Nat → Int32 → Int32 → hS → Option (Int32 × hS)) (l0 : Nat) (l1 : Int32) (l2 : Int32) (l3 : Int32) (l4 : Int32) (l5 : Nat) (l6 : Int32) (l7 : Int32) (s : hS) : Option (Int32 × hS) :=
  k30 l0 l1 l2 l3 l4 l5 l6 (l7 + (1 : Int32)) s
theorem b_X6_comesToKnow_112 (E : jE) (nr : Nat) (fr0 : hS → Nat → Int32 → Int32 → Int32 → Int32 → Nat → Option (Int32 × hS)) (hr0 : ∀ (s : hS) (a0 : Nat) (i1 : Int32) (i2 : Int32) (i3 : Int32) (i4 : Int32) (a5 : Nat), jK E yX6_comesToKnow (M_X6_comesToKnow nr) cvI [.ref a0, .int i1, .int i2, .int i3, .int i4, .ref a5] s (fr0 s a0 i1 i2 i3 i4 a5)) (k30 : Nat → Int32 → Int32 → Int32 → Int32 → Nat → Int32 → Int32 → hS → Option (Int32 × hS)) (h30 : ∀ (s : hS) (l0 : Nat) (l1 : Int32) (l2 : Int32) (l3 : Int32) (l4 : Int32) (l5 : Nat) (l6 : Int32) (l7 : Int32) , Jo E (M_X6_comesToKnow (nr + 1)) cvI 30 [(0, .ref l0), (1, .int l1), (2, .int l2), (3, .int l3), (4, .int l4), (5, .ref l5), (6, .int l6), (7, .int l7)] [] s (k30 l0 l1 l2 l3 l4 l5 l6 l7 s)) (s : hS) (l0 : Nat) (l1 : Int32) (l2 : Int32) (l3 : Int32) (l4 : Int32) (l5 : Nat) (l6 : Int32) (l7 : Int32)  : Jo E (M_X6_comesToKnow (nr + 1)) cvI 112 [(0, .ref l0), (1, .int l1), (2, .int l2), (3, .int l3), (4, .int l4), (5, .ref l5), (6, .int l6), (7, .int l7)] [] s (f_X6_comesToKnow_b112 fr0 k30 l0 l1 l2 l3 l4 l5 l6 l7 s) := by
  unfold f_X6_comesToKnow_b112
  refine Jo_iinc (v := (l7 + (1 : Int32))) (ls' := [(7, .int (l7 + (1 : Int32))), (0, .ref l0), (1, .int l1), (2, .int l2), (3, .int l3), (4, .int l4), (5, .ref l5), (6, .int l6)]) 7 dX6_comesToKnow_112 rfl rfl (show 7 < 9 by decide) rfl ?_
  refine Jo_goto 30 dX6_comesToKnow_115 (by decide) ?_
  refine Jo_sub [1, 2, 3, 4, 5, 6, 7, 0] rfl ?_
  exact h30 s l0 l1 l2 l3 l4 l5 l6 (l7 + (1 : Int32))
def f_X6_comesToKnow_b30 (fr0 : hS → Nat → Int32 → Int32 → Int32 → Int32 → Nat → Option (Int32 × hS)) (k30 : Nat → Int32 → Int32 → Int32 → Int32 → Nat → Int32 → Int32 → hS → Option (Int32 × hS)) (l0 : Nat) (l1 : Int32) (l2 : Int32) (l3 : Int32) (l4 : Int32) (l5 : Nat) (l6 : Int32) (l7 : Int32) (s : hS) : Option (Int32 × hS) :=
  (gI s l0 5 1).bind fun x1 =>
  if x1 ≤ l7 then
    some ((0 : Int32), s)
  else
    (gR s l0 5 10).bind fun a2 =>
    (aI s a2 10 l7).bind fun x3 =>
    if l7 = l1 then
      f_X6_comesToKnow_b112 fr0 k30 l0 l1 l2 l3 l4 l5 l6 l7 s
    else
      (cV s l0 5 (f_X5_converse s l0 (0 : Int32) l1 l7)).bind fun p4 =>
      if p4.1 = 0 then
        f_X6_comesToKnow_b112 fr0 k30 l0 l1 l2 l3 l4 l5 l6 l7 p4.2
      else
        (sI p4.2 l5 10 l4 l7).bind fun s5 =>
        (fr0 s5 l0 l1 l2 (l3 - (1 : Int32)) (l4 + (1 : Int32)) l5).bind fun p6 =>
        if p6.1 = 0 then
          (gR p6.2 l0 5 10).bind fun a7 =>
          (sI p6.2 a7 10 l1 l6).bind fun s8 =>
          (gR s8 l0 5 10).bind fun a9 =>
          (sI s8 a9 10 l7 x3).bind fun s10 =>
          f_X6_comesToKnow_b112 fr0 k30 l0 l1 l2 l3 l4 l5 l6 l7 s10
        else
          some ((1 : Int32), p6.2)
theorem b_X6_comesToKnow_30 (E : jE) (nr : Nat) (fr0 : hS → Nat → Int32 → Int32 → Int32 → Int32 → Nat → Option (Int32 × hS)) (hr0 : ∀ (s : hS) (a0 : Nat) (i1 : Int32) (i2 : Int32) (i3 : Int32) (i4 : Int32) (a5 : Nat), jK E yX6_comesToKnow (M_X6_comesToKnow nr) cvI [.ref a0, .int i1, .int i2, .int i3, .int i4, .ref a5] s (fr0 s a0 i1 i2 i3 i4 a5)) (k30 : Nat → Int32 → Int32 → Int32 → Int32 → Nat → Int32 → Int32 → hS → Option (Int32 × hS)) (h30 : ∀ (s : hS) (l0 : Nat) (l1 : Int32) (l2 : Int32) (l3 : Int32) (l4 : Int32) (l5 : Nat) (l6 : Int32) (l7 : Int32) , Jo E (M_X6_comesToKnow (nr + 1)) cvI 30 [(0, .ref l0), (1, .int l1), (2, .int l2), (3, .int l3), (4, .int l4), (5, .ref l5), (6, .int l6), (7, .int l7)] [] s (k30 l0 l1 l2 l3 l4 l5 l6 l7 s)) (s : hS) (l0 : Nat) (l1 : Int32) (l2 : Int32) (l3 : Int32) (l4 : Int32) (l5 : Nat) (l6 : Int32) (l7 : Int32)  : Jo E (M_X6_comesToKnow (nr + 1)) cvI 30 [(0, .ref l0), (1, .int l1), (2, .int l2), (3, .int l3), (4, .int l4), (5, .ref l5), (6, .int l6), (7, .int l7)] [] s (f_X6_comesToKnow_b30 fr0 k30 l0 l1 l2 l3 l4 l5 l6 l7 s) := by
  unfold f_X6_comesToKnow_b30
  refine Jo_iload 7 dX6_comesToKnow_30 rfl ?_
  refine Jo_aloadn 0 dX6_comesToKnow_32 rfl rfl ?_
  refine Jo_getI fF_5_1 fI_5_1 dX6_comesToKnow_33 w_388 (fun x1 => ?_)
  refine Jo_icmp_ge 118 dX6_comesToKnow_36 (by decide) rfl ?_ ?_
  · refine Jo_iconst (v := (0 : Int32)) dX6_comesToKnow_118 (by decide) ?_
    exact Jo_zret0 rfl dX6_comesToKnow_119
  · refine Jo_aloadn 0 dX6_comesToKnow_39 rfl rfl ?_
    refine Jo_getR fF_5_10 fR_5_10 dX6_comesToKnow_40 w_395 (fun a2 => ?_)
    refine Jo_iload 7 dX6_comesToKnow_43 rfl ?_
    refine Jo_iaload dX6_comesToKnow_45 (fun x3 => ?_)
    refine Jo_istore (ls' := [(8, .int x3), (0, .ref l0), (1, .int l1), (2, .int l2), (3, .int l3), (4, .int l4), (5, .ref l5), (6, .int l6), (7, .int l7)]) dX6_comesToKnow_46 (show 8 < 9 by decide) rfl ?_
    refine Jo_iload 8 dX6_comesToKnow_48 rfl ?_
    refine Jo_iloadn 2 dX6_comesToKnow_50 rfl rfl ?_
    refine Jo_icmp_eq 112 dX6_comesToKnow_51 (by decide) rfl ?_ ?_
    · refine Jo_sub [1, 2, 3, 4, 5, 6, 7, 8] rfl ?_
      exact b_X6_comesToKnow_112 E nr fr0 hr0 k30 h30 s l0 l1 l2 l3 l4 l5 l6 l7
    · refine Jo_aloadn 1 dX6_comesToKnow_54 rfl rfl ?_
      refine Jo_iconst (v := (0 : Int32)) dX6_comesToKnow_55 (by decide) ?_
      refine Jo_iloadn 2 dX6_comesToKnow_56 rfl rfl ?_
      refine Jo_iload 8 dX6_comesToKnow_57 rfl ?_
      refine Jo_callVi (a := l0) (rest := []) [.int (0 : Int32), .int l1, .int l7] cc_5 yF_X5_converse yV_X5_converse w_463 rfl rfl ⟨show 5 + 1 ≤ 6 + (nr + 1) by omega, show 8 + (7 + 11) + 123 ≤ 149 + (nr + 1) * 28 by omega, Nat.le_of_ble_eq_true rfl⟩ dX6_comesToKnow_59 rfl (K_X5_converse E s l0 (0 : Int32) l1 l7) (fun p4 => ?_)
      refine Jo_if_ne 68 dX6_comesToKnow_62 (by decide) rfl ?_ ?_
      · refine Jo_goto 112 dX6_comesToKnow_65 (by decide) ?_
        refine Jo_sub [1, 2, 3, 4, 5, 6, 7, 8] rfl ?_
        exact b_X6_comesToKnow_112 E nr fr0 hr0 k30 h30 p4.2 l0 l1 l2 l3 l4 l5 l6 l7
      · refine Jo_aload 6 dX6_comesToKnow_68 rfl ?_
        refine Jo_iload 5 dX6_comesToKnow_70 rfl ?_
        refine Jo_iload 8 dX6_comesToKnow_72 rfl ?_
        refine Jo_iastore dX6_comesToKnow_74 (fun s5 => ?_)
        refine Jo_aloadn 1 dX6_comesToKnow_75 rfl rfl ?_
        refine Jo_iloadn 2 dX6_comesToKnow_76 rfl rfl ?_
        refine Jo_iloadn 3 dX6_comesToKnow_77 rfl rfl ?_
        refine Jo_iloadn 4 dX6_comesToKnow_78 rfl rfl ?_
        refine Jo_iconst (v := (1 : Int32)) dX6_comesToKnow_79 (by decide) ?_
        refine Jo_isub dX6_comesToKnow_80 ?_
        refine Jo_iload 5 dX6_comesToKnow_81 rfl ?_
        refine Jo_iconst (v := (1 : Int32)) dX6_comesToKnow_83 (by decide) ?_
        refine Jo_iadd dX6_comesToKnow_84 ?_
        refine Jo_aload 6 dX6_comesToKnow_85 rfl ?_
        refine Jo_callSi (rest := []) [.ref l0, .int l1, .int l2, .int (l3 - (1 : Int32)), .int (l4 + (1 : Int32)), .ref l5] yF_X6_comesToKnow yS_X6_comesToKnow w_480 rfl rfl ⟨show (6 + nr) + 1 ≤ 6 + (nr + 1) by omega, show 8 + (9 + 11) + (149 + nr * 28) ≤ 149 + (nr + 1) * 28 by omega, Nat.le_of_ble_eq_true rfl⟩ dX6_comesToKnow_87 rfl (hr0 s5 l0 l1 l2 (l3 - (1 : Int32)) (l4 + (1 : Int32)) l5) (fun p6 => ?_)
        refine Jo_if_eq 95 dX6_comesToKnow_90 (by decide) rfl ?_ ?_
        · refine Jo_aloadn 1 dX6_comesToKnow_95 rfl rfl ?_
          refine Jo_getR fF_5_10 fR_5_10 dX6_comesToKnow_96 w_395 (fun a7 => ?_)
          refine Jo_iloadn 2 dX6_comesToKnow_99 rfl rfl ?_
          refine Jo_iload 7 dX6_comesToKnow_100 rfl ?_
          refine Jo_iastore dX6_comesToKnow_102 (fun s8 => ?_)
          refine Jo_aloadn 1 dX6_comesToKnow_103 rfl rfl ?_
          refine Jo_getR fF_5_10 fR_5_10 dX6_comesToKnow_104 w_395 (fun a9 => ?_)
          refine Jo_iload 8 dX6_comesToKnow_107 rfl ?_
          refine Jo_iload 0 dX6_comesToKnow_109 rfl ?_
          refine Jo_iastore dX6_comesToKnow_111 (fun s10 => ?_)
          refine Jo_sub [1, 2, 3, 4, 5, 6, 7, 8] rfl ?_
          exact b_X6_comesToKnow_112 E nr fr0 hr0 k30 h30 s10 l0 l1 l2 l3 l4 l5 l6 l7
        · refine Jo_iconst (v := (1 : Int32)) dX6_comesToKnow_93 (by decide) ?_
          exact Jo_zret1 rfl dX6_comesToKnow_94
theorem e_X6_comesToKnow_30 (E : jE) (nr : Nat) (fr0 : hS → Nat → Int32 → Int32 → Int32 → Int32 → Nat → Option (Int32 × hS)) (hr0 : ∀ (s : hS) (a0 : Nat) (i1 : Int32) (i2 : Int32) (i3 : Int32) (i4 : Int32) (a5 : Nat), jK E yX6_comesToKnow (M_X6_comesToKnow nr) cvI [.ref a0, .int i1, .int i2, .int i3, .int i4, .ref a5] s (fr0 s a0 i1 i2 i3 i4 a5))  (n : Nat) : ∀ (s : hS) (l0 : Nat) (l1 : Int32) (l2 : Int32) (l3 : Int32) (l4 : Int32) (l5 : Nat) (l6 : Int32) (l7 : Int32) , Jo E (M_X6_comesToKnow (nr + 1)) cvI 30 [(0, .ref l0), (1, .int l1), (2, .int l2), (3, .int l3), (4, .int l4), (5, .ref l5), (6, .int l6), (7, .int l7)] [] s ((jL (f_X6_comesToKnow_b30 fr0) (fun _ _ _ _ _ _ _ _ _ => none) n) l0 l1 l2 l3 l4 l5 l6 l7 s) :=
  jL_ind (P := fun f => ∀ (s : hS) (l0 : Nat) (l1 : Int32) (l2 : Int32) (l3 : Int32) (l4 : Int32) (l5 : Nat) (l6 : Int32) (l7 : Int32) , Jo E (M_X6_comesToKnow (nr + 1)) cvI 30 [(0, .ref l0), (1, .int l1), (2, .int l2), (3, .int l3), (4, .int l4), (5, .ref l5), (6, .int l6), (7, .int l7)] [] s (f l0 l1 l2 l3 l4 l5 l6 l7 s)) (fun _ _ _ _ _ _ _ _ _ => Jo_none) (fun b hb s l0 l1 l2 l3 l4 l5 l6 l7 => b_X6_comesToKnow_30 E nr fr0 hr0  b hb s l0 l1 l2 l3 l4 l5 l6 l7) n
def f_X6_comesToKnow_body (fr0 : hS → Nat → Int32 → Int32 → Int32 → Int32 → Nat → Option (Int32 × hS)) (s : hS) (a0 : Nat) (i1 : Int32) (i2 : Int32) (i3 : Int32) (i4 : Int32) (a5 : Nat) : Option (Int32 × hS) :=
  if i3 ≤ 0 then
    f_X6_comesToKnow_b12 fr0 a0 i1 i2 s
  else
    (aL s a5 10).bind fun x1 =>
    if i4 < x1 then
      (gR s a0 5 10).bind fun a2 =>
      (aI s a2 10 i1).bind fun x3 =>
      jL (f_X6_comesToKnow_b30 fr0) (fun _ _ _ _ _ _ _ _ _ => none) jF a0 i1 i2 i3 i4 a5 x3 (0 : Int32) s
    else
      f_X6_comesToKnow_b12 fr0 a0 i1 i2 s
theorem b_X6_comesToKnow_in (E : jE) (nr : Nat) (fr0 : hS → Nat → Int32 → Int32 → Int32 → Int32 → Nat → Option (Int32 × hS)) (hr0 : ∀ (s : hS) (a0 : Nat) (i1 : Int32) (i2 : Int32) (i3 : Int32) (i4 : Int32) (a5 : Nat), jK E yX6_comesToKnow (M_X6_comesToKnow nr) cvI [.ref a0, .int i1, .int i2, .int i3, .int i4, .ref a5] s (fr0 s a0 i1 i2 i3 i4 a5))  (s : hS) (a0 : Nat) (i1 : Int32) (i2 : Int32) (i3 : Int32) (i4 : Int32) (a5 : Nat)  : Jo E (M_X6_comesToKnow (nr + 1)) cvI 0 [(0, .ref a0), (1, .int i1), (2, .int i2), (3, .int i3), (4, .int i4), (5, .ref a5)] [] s (f_X6_comesToKnow_body fr0 s a0 i1 i2 i3 i4 a5) := by
  unfold f_X6_comesToKnow_body
  refine Jo_iloadn 3 dX6_comesToKnow_0 rfl rfl ?_
  refine Jo_if_le 12 dX6_comesToKnow_1 (by decide) rfl ?_ ?_
  · refine Jo_sub [0, 1, 2] rfl ?_
    exact b_X6_comesToKnow_12 E nr fr0 hr0 s a0 i1 i2
  · refine Jo_iload 4 dX6_comesToKnow_4 rfl ?_
    refine Jo_aload 5 dX6_comesToKnow_6 rfl ?_
    refine Jo_alen hti_10 dX6_comesToKnow_8 (fun x1 => ?_)
    refine Jo_icmp_lt 19 dX6_comesToKnow_9 (by decide) rfl ?_ ?_
    · refine Jo_aloadn 0 dX6_comesToKnow_19 rfl rfl ?_
      refine Jo_getR fF_5_10 fR_5_10 dX6_comesToKnow_20 w_395 (fun a2 => ?_)
      refine Jo_iloadn 1 dX6_comesToKnow_23 rfl rfl ?_
      refine Jo_iaload dX6_comesToKnow_24 (fun x3 => ?_)
      refine Jo_istore (ls' := [(6, .int x3), (0, .ref a0), (1, .int i1), (2, .int i2), (3, .int i3), (4, .int i4), (5, .ref a5)]) dX6_comesToKnow_25 (show 6 < 9 by decide) rfl ?_
      refine Jo_iconst (v := (0 : Int32)) dX6_comesToKnow_27 (by decide) ?_
      refine Jo_istore (ls' := [(7, .int (0 : Int32)), (6, .int x3), (0, .ref a0), (1, .int i1), (2, .int i2), (3, .int i3), (4, .int i4), (5, .ref a5)]) dX6_comesToKnow_28 (show 7 < 9 by decide) rfl ?_
      refine Jo_sub [2, 3, 4, 5, 6, 7, 1, 0] rfl ?_
      exact e_X6_comesToKnow_30 E nr fr0 hr0 jF s a0 i1 i2 i3 i4 a5 x3 (0 : Int32)
    · refine Jo_sub [0, 1, 2] rfl ?_
      exact b_X6_comesToKnow_12 E nr fr0 hr0 s a0 i1 i2
def f_X6_comesToKnow : Nat → hS → Nat → Int32 → Int32 → Int32 → Int32 → Nat → Option (Int32 × hS)
  | 0 => fun _ _ _ _ _ _ _ => none
  | n + 1 => f_X6_comesToKnow_body (f_X6_comesToKnow n)
theorem K_X6_comesToKnow (E : jE) : ∀ (nr : Nat), ∀ (s : hS) (a0 : Nat) (i1 : Int32) (i2 : Int32) (i3 : Int32) (i4 : Int32) (a5 : Nat), jK E yX6_comesToKnow (M_X6_comesToKnow nr) cvI [.ref a0, .int i1, .int i2, .int i3, .int i4, .ref a5] s (f_X6_comesToKnow nr s a0 i1 i2 i3 i4 a5)
  | 0 => fun _ _ _ _ _ _ _ r h => by cases h
  | n + 1 => fun s a0 i1 i2 i3 i4 a5 => jK_of ⟨by decide, rfl, rfl⟩ (Nat.le_of_ble_eq_true rfl) (b_X6_comesToKnow_in E n (f_X6_comesToKnow n) (K_X6_comesToKnow E n) s a0 i1 i2 i3 i4 a5)
/-! HeronTalk.fewest(IIII)I -/
abbrev M_X6_fewest : jM := (RX6, cX6_fewest, 6, (some .int), "fewest", 13, 345)
theorem yF_X6_fewest : yF yX6_fewest M_X6_fewest 4 := ⟨w_484, w_278, by decide +kernel⟩
theorem yV_X6_fewest : Cond.instanceMethod yX6_fewest ∈ tbG ∧ Cond.selects yX6_fewest.cls yX6_fewest yX6_fewest ∈ tbG := ⟨w_485, w_486⟩
theorem dX6_fewest_0 : dI cX6_fewest 0 1 (.aload_n 0) 1 := ⟨by decide +kernel, rfl⟩
theorem dX6_fewest_1 : dI cX6_fewest 1 2 (.iload_n 1) 1 := ⟨by decide +kernel, rfl⟩
theorem dX6_fewest_2 : decode cX6_fewest 2 = .ok (.invokevirtual 99, 3) := by decide +kernel
theorem dX6_fewest_5 : decode cX6_fewest 5 = .ok (.ifCond .ne 26, 3) := by decide +kernel
theorem dX6_fewest_8 : dI cX6_fewest 8 9 (.aload_n 0) 1 := ⟨by decide +kernel, rfl⟩
theorem dX6_fewest_9 : dI cX6_fewest 9 10 (.iload_n 2) 1 := ⟨by decide +kernel, rfl⟩
theorem dX6_fewest_10 : decode cX6_fewest 10 = .ok (.invokevirtual 76, 3) := by decide +kernel
theorem dX6_fewest_13 : decode cX6_fewest 13 = .ok (.ifCond .ne 18, 3) := by decide +kernel
theorem dX6_fewest_16 : dI cX6_fewest 16 17 (.iload_n 3) 1 := ⟨by decide +kernel, rfl⟩
theorem dX6_fewest_17 : dI cX6_fewest 17 18 (.iconst 0) 1 := ⟨by decide +kernel, rfl⟩
theorem dX6_fewest_18 : dI cX6_fewest 18 19 (.iconst 3) 1 := ⟨by decide +kernel, rfl⟩
theorem dX6_fewest_19 : decode cX6_fewest 19 = .ok (.invokestatic 63, 3) := by decide +kernel
theorem dX6_fewest_22 : decode cX6_fewest 22 = .ok (.ifCond .ne 9, 3) := by decide +kernel
theorem dX6_fewest_25 : dI cX6_fewest 25 27 (.iload 4) 2 := ⟨by decide +kernel, rfl⟩
theorem dX6_fewest_27 : dI cX6_fewest 27 28 (.iconst (-1)) 1 := ⟨by decide +kernel, rfl⟩
theorem dX6_fewest_28 : decode cX6_fewest 28 = .ok (.if_icmp .ge 6, 3) := by decide +kernel
theorem dX6_fewest_31 : dI cX6_fewest 31 33 (.ldc 67) 2 := ⟨by decide +kernel, rfl⟩
theorem dX6_fewest_33 : dI cX6_fewest 33 34 (.ireturn) 1 := ⟨by decide +kernel, rfl⟩
theorem dX6_fewest_34 : dI cX6_fewest 34 35 (.aload_n 0) 1 := ⟨by decide +kernel, rfl⟩
theorem dX6_fewest_35 : dI cX6_fewest 35 38 (.getfield 19) 3 := ⟨by decide +kernel, rfl⟩
theorem dX6_fewest_38 : dI cX6_fewest 38 39 (.aload_n 0) 1 := ⟨by decide +kernel, rfl⟩
theorem dX6_fewest_39 : dI cX6_fewest 39 42 (.getfield 10) 3 := ⟨by decide +kernel, rfl⟩
theorem dX6_fewest_42 : decode cX6_fewest 42 = .ok (.invokevirtual 195, 3) := by decide +kernel
theorem dX6_fewest_45 : dI cX6_fewest 45 46 (.iconst 0) 1 := ⟨by decide +kernel, rfl⟩
theorem dX6_fewest_46 : dI cX6_fewest 46 48 (.istore 5) 2 := ⟨by decide +kernel, rfl⟩
theorem dX6_fewest_48 : dI cX6_fewest 48 50 (.iload 5) 2 := ⟨by decide +kernel, rfl⟩
theorem dX6_fewest_50 : dI cX6_fewest 50 51 (.iload_n 3) 1 := ⟨by decide +kernel, rfl⟩
theorem dX6_fewest_51 : decode cX6_fewest 51 = .ok (.if_icmp .gt 66, 3) := by decide +kernel
theorem dX6_fewest_54 : dI cX6_fewest 54 55 (.aload_n 0) 1 := ⟨by decide +kernel, rfl⟩
theorem dX6_fewest_55 : dI cX6_fewest 55 58 (.getfield 19) 3 := ⟨by decide +kernel, rfl⟩
theorem dX6_fewest_58 : dI cX6_fewest 58 59 (.iload_n 1) 1 := ⟨by decide +kernel, rfl⟩
theorem dX6_fewest_59 : dI cX6_fewest 59 60 (.iload_n 2) 1 := ⟨by decide +kernel, rfl⟩
theorem dX6_fewest_60 : dI cX6_fewest 60 62 (.iload 5) 2 := ⟨by decide +kernel, rfl⟩
theorem dX6_fewest_62 : dI cX6_fewest 62 63 (.iconst 0) 1 := ⟨by decide +kernel, rfl⟩
theorem dX6_fewest_63 : dI cX6_fewest 63 64 (.aload_n 0) 1 := ⟨by decide +kernel, rfl⟩
theorem dX6_fewest_64 : dI cX6_fewest 64 67 (.getfield 60) 3 := ⟨by decide +kernel, rfl⟩
theorem dX6_fewest_67 : decode cX6_fewest 67 = .ok (.invokestatic 199, 3) := by decide +kernel
theorem dX6_fewest_70 : decode cX6_fewest 70 = .ok (.ifCond .eq 41, 3) := by decide +kernel
theorem dX6_fewest_73 : dI cX6_fewest 73 75 (.iload 4) 2 := ⟨by decide +kernel, rfl⟩
theorem dX6_fewest_75 : decode cX6_fewest 75 = .ok (.ifCond .ge 6, 3) := by decide +kernel
theorem dX6_fewest_78 : dI cX6_fewest 78 80 (.iload 5) 2 := ⟨by decide +kernel, rfl⟩
theorem dX6_fewest_80 : dI cX6_fewest 80 81 (.ireturn) 1 := ⟨by decide +kernel, rfl⟩
theorem dX6_fewest_81 : dI cX6_fewest 81 83 (.iload 4) 2 := ⟨by decide +kernel, rfl⟩
theorem dX6_fewest_83 : dI cX6_fewest 83 85 (.iload 5) 2 := ⟨by decide +kernel, rfl⟩
theorem dX6_fewest_85 : decode cX6_fewest 85 = .ok (.if_icmp .ge 23, 3) := by decide +kernel
theorem dX6_fewest_88 : dI cX6_fewest 88 90 (.iload 4) 2 := ⟨by decide +kernel, rfl⟩
theorem dX6_fewest_90 : dI cX6_fewest 90 91 (.aload_n 0) 1 := ⟨by decide +kernel, rfl⟩
theorem dX6_fewest_91 : dI cX6_fewest 91 94 (.getfield 60) 3 := ⟨by decide +kernel, rfl⟩
theorem dX6_fewest_94 : dI cX6_fewest 94 95 (.arraylength) 1 := ⟨by decide +kernel, rfl⟩
theorem dX6_fewest_95 : decode cX6_fewest 95 = .ok (.if_icmp .ge 13, 3) := by decide +kernel
theorem dX6_fewest_98 : dI cX6_fewest 98 99 (.aload_n 0) 1 := ⟨by decide +kernel, rfl⟩
theorem dX6_fewest_99 : dI cX6_fewest 99 102 (.getfield 60) 3 := ⟨by decide +kernel, rfl⟩
theorem dX6_fewest_102 : dI cX6_fewest 102 104 (.iload 4) 2 := ⟨by decide +kernel, rfl⟩
theorem dX6_fewest_104 : dI cX6_fewest 104 105 (.iaload) 1 := ⟨by decide +kernel, rfl⟩
theorem dX6_fewest_105 : decode cX6_fewest 105 = .ok (.goto 5, 3) := by decide +kernel
theorem dX6_fewest_108 : dI cX6_fewest 108 110 (.ldc 203) 2 := ⟨by decide +kernel, rfl⟩
theorem dX6_fewest_110 : dI cX6_fewest 110 111 (.ireturn) 1 := ⟨by decide +kernel, rfl⟩
theorem dX6_fewest_111 : dI cX6_fewest 111 114 (.iinc 5 1) 3 := ⟨by decide +kernel, rfl⟩
theorem dX6_fewest_114 : decode cX6_fewest 114 = .ok (.goto (-66), 3) := by decide +kernel
theorem dX6_fewest_117 : dI cX6_fewest 117 119 (.ldc 203) 2 := ⟨by decide +kernel, rfl⟩
theorem dX6_fewest_119 : dI cX6_fewest 119 120 (.ireturn) 1 := ⟨by decide +kernel, rfl⟩
def f_X6_fewest_b48 (k48 : Nat → Int32 → Int32 → Int32 → Int32 → Int32 → hS → Option (Int32 × hS)) (l0 : Nat) (l1 : Int32) (l2 : Int32) (l3 : Int32) (l4 : Int32) (l5 : Int32) (s : hS) : Option (Int32 × hS) :=
  if l3 < l5 then
    some ((-1000000005 : Int32), s)
  else
    (gR s l0 6 2).bind fun a1 =>
    (gR s l0 6 10).bind fun a2 =>
    (f_X6_comesToKnow 6 s a1 l1 l2 l5 (0 : Int32) a2).bind fun p3 =>
    if p3.1 = 0 then
      k48 l0 l1 l2 l3 l4 (l5 + (1 : Int32)) p3.2
    else
      if 0 ≤ l4 then
        if l5 ≤ l4 then
          some ((-1000000005 : Int32), p3.2)
        else
          (gR p3.2 l0 6 10).bind fun a4 =>
          (aL p3.2 a4 10).bind fun x5 =>
          if x5 ≤ l4 then
            some ((-1000000005 : Int32), p3.2)
          else
            (gR p3.2 l0 6 10).bind fun a6 =>
            (aI p3.2 a6 10 l4).bind fun x7 =>
            some (x7, p3.2)
      else
        some (l5, p3.2)
theorem b_X6_fewest_48 (E : jE) (k48 : Nat → Int32 → Int32 → Int32 → Int32 → Int32 → hS → Option (Int32 × hS)) (h48 : ∀ (s : hS) (l0 : Nat) (l1 : Int32) (l2 : Int32) (l3 : Int32) (l4 : Int32) (l5 : Int32) , Jo E M_X6_fewest cvI 48 [(0, .ref l0), (1, .int l1), (2, .int l2), (3, .int l3), (4, .int l4), (5, .int l5)] [] s (k48 l0 l1 l2 l3 l4 l5 s)) (s : hS) (l0 : Nat) (l1 : Int32) (l2 : Int32) (l3 : Int32) (l4 : Int32) (l5 : Int32)  : Jo E M_X6_fewest cvI 48 [(0, .ref l0), (1, .int l1), (2, .int l2), (3, .int l3), (4, .int l4), (5, .int l5)] [] s (f_X6_fewest_b48 k48 l0 l1 l2 l3 l4 l5 s) := by
  unfold f_X6_fewest_b48
  refine Jo_iload 5 dX6_fewest_48 rfl ?_
  refine Jo_iloadn 3 dX6_fewest_50 rfl rfl ?_
  refine Jo_icmp_gt 117 dX6_fewest_51 (by decide) rfl ?_ ?_
  · refine Jo_ldc dX6_fewest_117 w_441 ?_
    exact Jo_iret rfl dX6_fewest_119
  · refine Jo_aloadn 0 dX6_fewest_54 rfl rfl ?_
    refine Jo_getR fF_6_2 fR_6_2 dX6_fewest_55 w_354 (fun a1 => ?_)
    refine Jo_iloadn 1 dX6_fewest_58 rfl rfl ?_
    refine Jo_iloadn 2 dX6_fewest_59 rfl rfl ?_
    refine Jo_iload 5 dX6_fewest_60 rfl ?_
    refine Jo_iconst (v := (0 : Int32)) dX6_fewest_62 (by decide) ?_
    refine Jo_aloadn 0 dX6_fewest_63 rfl rfl ?_
    refine Jo_getR fF_6_10 fR_6_10 dX6_fewest_64 w_337 (fun a2 => ?_)
    refine Jo_callSi (rest := []) [.ref a1, .int l1, .int l2, .int l5, .int (0 : Int32), .ref a2] yF_X6_comesToKnow yS_X6_comesToKnow w_480 rfl rfl ⟨Nat.le_of_ble_eq_true rfl, Nat.le_of_ble_eq_true rfl, Nat.le_of_ble_eq_true rfl⟩ dX6_fewest_67 rfl (K_X6_comesToKnow E 6 s a1 l1 l2 l5 (0 : Int32) a2) (fun p3 => ?_)
    refine Jo_if_eq 111 dX6_fewest_70 (by decide) rfl ?_ ?_
    · refine Jo_iinc (v := (l5 + (1 : Int32))) (ls' := [(5, .int (l5 + (1 : Int32))), (0, .ref l0), (1, .int l1), (2, .int l2), (3, .int l3), (4, .int l4)]) 5 dX6_fewest_111 rfl rfl (by decide) rfl ?_
      refine Jo_goto 48 dX6_fewest_114 (by decide) ?_
      refine Jo_sub [1, 2, 3, 4, 5, 0] rfl ?_
      exact h48 p3.2 l0 l1 l2 l3 l4 (l5 + (1 : Int32))
    · refine Jo_iload 4 dX6_fewest_73 rfl ?_
      refine Jo_if_ge 81 dX6_fewest_75 (by decide) rfl ?_ ?_
      · refine Jo_iload 4 dX6_fewest_81 rfl ?_
        refine Jo_iload 5 dX6_fewest_83 rfl ?_
        refine Jo_icmp_ge 108 dX6_fewest_85 (by decide) rfl ?_ ?_
        · refine Jo_ldc dX6_fewest_108 w_441 ?_
          exact Jo_iret rfl dX6_fewest_110
        · refine Jo_iload 4 dX6_fewest_88 rfl ?_
          refine Jo_aloadn 0 dX6_fewest_90 rfl rfl ?_
          refine Jo_getR fF_6_10 fR_6_10 dX6_fewest_91 w_337 (fun a4 => ?_)
          refine Jo_alen hti_10 dX6_fewest_94 (fun x5 => ?_)
          refine Jo_icmp_ge 108 dX6_fewest_95 (by decide) rfl ?_ ?_
          · refine Jo_ldc dX6_fewest_108 w_441 ?_
            exact Jo_iret rfl dX6_fewest_110
          · refine Jo_aloadn 0 dX6_fewest_98 rfl rfl ?_
            refine Jo_getR fF_6_10 fR_6_10 dX6_fewest_99 w_337 (fun a6 => ?_)
            refine Jo_iload 4 dX6_fewest_102 rfl ?_
            refine Jo_iaload dX6_fewest_104 (fun x7 => ?_)
            refine Jo_goto 110 dX6_fewest_105 (by decide) ?_
            exact Jo_iret rfl dX6_fewest_110
      · refine Jo_iload 5 dX6_fewest_78 rfl ?_
        exact Jo_iret rfl dX6_fewest_80
theorem e_X6_fewest_48 (E : jE)  (n : Nat) : ∀ (s : hS) (l0 : Nat) (l1 : Int32) (l2 : Int32) (l3 : Int32) (l4 : Int32) (l5 : Int32) , Jo E M_X6_fewest cvI 48 [(0, .ref l0), (1, .int l1), (2, .int l2), (3, .int l3), (4, .int l4), (5, .int l5)] [] s ((jL f_X6_fewest_b48 (fun _ _ _ _ _ _ _ => none) n) l0 l1 l2 l3 l4 l5 s) :=
  jL_ind (P := fun f => ∀ (s : hS) (l0 : Nat) (l1 : Int32) (l2 : Int32) (l3 : Int32) (l4 : Int32) (l5 : Int32) , Jo E M_X6_fewest cvI 48 [(0, .ref l0), (1, .int l1), (2, .int l2), (3, .int l3), (4, .int l4), (5, .int l5)] [] s (f l0 l1 l2 l3 l4 l5 s)) (fun _ _ _ _ _ _ _ => Jo_none) (fun b hb s l0 l1 l2 l3 l4 l5 => b_X6_fewest_48 E  b hb s l0 l1 l2 l3 l4 l5) n
def f_X6_fewest (s : hS) (a0 : Nat) (i1 : Int32) (i2 : Int32) (i3 : Int32) (i4 : Int32) : Option (Int32 × hS) :=
  (cV s a0 6 (f_X6_isNobody s a0 i1)).bind fun p1 =>
  if p1.1 = 0 then
    (cV p1.2 a0 6 (f_X6_isNoFact p1.2 a0 i2)).bind fun p2 =>
    if p2.1 = 0 then
      (f_X6_isOutside p2.2 i3 (0 : Int32) (3 : Int32)).bind fun p3 =>
      if p3.1 = 0 then
        if (-1 : Int32) ≤ i4 then
          (gR p3.2 a0 6 2).bind fun a4 =>
          (gR p3.2 a0 6 0).bind fun a5 =>
          (cV p3.2 a4 5 (f_X5_becomes p3.2 a4 a5)).bind fun p6 =>
          jL f_X6_fewest_b48 (fun _ _ _ _ _ _ _ => none) jF a0 i1 i2 i3 i4 (0 : Int32) p6.2
        else
          some ((-1000000001 : Int32), p3.2)
      else
        some ((-1000000001 : Int32), p3.2)
    else
      some ((-1000000001 : Int32), p2.2)
  else
    some ((-1000000001 : Int32), p1.2)
theorem b_X6_fewest_in (E : jE)  (s : hS) (a0 : Nat) (i1 : Int32) (i2 : Int32) (i3 : Int32) (i4 : Int32)  : Jo E M_X6_fewest cvI 0 [(0, .ref a0), (1, .int i1), (2, .int i2), (3, .int i3), (4, .int i4)] [] s (f_X6_fewest s a0 i1 i2 i3 i4) := by
  unfold f_X6_fewest
  refine Jo_aloadn 0 dX6_fewest_0 rfl rfl ?_
  refine Jo_iloadn 1 dX6_fewest_1 rfl rfl ?_
  refine Jo_callVi (a := a0) (rest := []) [.int i1] cc_6 yF_X6_isNobody yV_X6_isNobody w_399 rfl rfl ⟨Nat.le_of_ble_eq_true rfl, Nat.le_of_ble_eq_true rfl, Nat.le_of_ble_eq_true rfl⟩ dX6_fewest_2 rfl (K_X6_isNobody E s a0 i1) (fun p1 => ?_)
  refine Jo_if_ne 31 dX6_fewest_5 (by decide) rfl ?_ ?_
  · refine Jo_aloadn 0 dX6_fewest_8 rfl rfl ?_
    refine Jo_iloadn 2 dX6_fewest_9 rfl rfl ?_
    refine Jo_callVi (a := a0) (rest := []) [.int i2] cc_6 yF_X6_isNoFact yV_X6_isNoFact w_380 rfl rfl ⟨Nat.le_of_ble_eq_true rfl, Nat.le_of_ble_eq_true rfl, Nat.le_of_ble_eq_true rfl⟩ dX6_fewest_10 rfl (K_X6_isNoFact E p1.2 a0 i2) (fun p2 => ?_)
    refine Jo_if_ne 31 dX6_fewest_13 (by decide) rfl ?_ ?_
    · refine Jo_iloadn 3 dX6_fewest_16 rfl rfl ?_
      refine Jo_iconst (v := (0 : Int32)) dX6_fewest_17 (by decide) ?_
      refine Jo_iconst (v := (3 : Int32)) dX6_fewest_18 (by decide) ?_
      refine Jo_callSi (rest := []) [.int i3, .int (0 : Int32), .int (3 : Int32)] yF_X6_isOutside yS_X6_isOutside w_369 rfl rfl ⟨Nat.le_of_ble_eq_true rfl, Nat.le_of_ble_eq_true rfl, Nat.le_of_ble_eq_true rfl⟩ dX6_fewest_19 rfl (K_X6_isOutside E p2.2 i3 (0 : Int32) (3 : Int32)) (fun p3 => ?_)
      refine Jo_if_ne 31 dX6_fewest_22 (by decide) rfl ?_ ?_
      · refine Jo_iload 4 dX6_fewest_25 rfl ?_
        refine Jo_iconst (v := (-1 : Int32)) dX6_fewest_27 (by decide) ?_
        refine Jo_icmp_ge 34 dX6_fewest_28 (by decide) rfl ?_ ?_
        · refine Jo_aloadn 0 dX6_fewest_34 rfl rfl ?_
          refine Jo_getR fF_6_2 fR_6_2 dX6_fewest_35 w_354 (fun a4 => ?_)
          refine Jo_aloadn 0 dX6_fewest_38 rfl rfl ?_
          refine Jo_getR fF_6_0 fR_6_0 dX6_fewest_39 w_359 (fun a5 => ?_)
          refine Jo_callVv (a := a4) (rest := []) [.ref a5] cc_5 yF_X5_becomes yV_X5_becomes w_483 rfl rfl ⟨Nat.le_of_ble_eq_true rfl, Nat.le_of_ble_eq_true rfl, Nat.le_of_ble_eq_true rfl⟩ dX6_fewest_42 rfl (K_X5_becomes E p3.2 a4 a5) (fun p6 => ?_)
          refine Jo_iconst (v := (0 : Int32)) dX6_fewest_45 (by decide) ?_
          refine Jo_istore (ls' := [(5, .int (0 : Int32)), (0, .ref a0), (1, .int i1), (2, .int i2), (3, .int i3), (4, .int i4)]) dX6_fewest_46 (by decide) rfl ?_
          refine Jo_sub [1, 2, 3, 4, 5, 0] rfl ?_
          exact e_X6_fewest_48 E jF p6.2 a0 i1 i2 i3 i4 (0 : Int32)
        · refine Jo_ldc dX6_fewest_31 w_368 ?_
          exact Jo_iret rfl dX6_fewest_33
      · refine Jo_ldc dX6_fewest_31 w_368 ?_
        exact Jo_iret rfl dX6_fewest_33
    · refine Jo_ldc dX6_fewest_31 w_368 ?_
      exact Jo_iret rfl dX6_fewest_33
  · refine Jo_ldc dX6_fewest_31 w_368 ?_
    exact Jo_iret rfl dX6_fewest_33
theorem K_X6_fewest (E : jE) (s : hS) (a0 : Nat) (i1 : Int32) (i2 : Int32) (i3 : Int32) (i4 : Int32) : jK E yX6_fewest M_X6_fewest cvI [.ref a0, .int i1, .int i2, .int i3, .int i4] s (f_X6_fewest s a0 i1 i2 i3 i4) := jK_of ⟨by decide, rfl, rfl⟩ (Nat.le_of_ble_eq_true rfl) (b_X6_fewest_in E s a0 i1 i2 i3 i4)
/-! HeronTalk.look(II)I -/
abbrev M_X6_look : jM := (RX6, cX6_look, 3, (some .int), "look", 3, 67)
theorem yF_X6_look : yF yX6_look M_X6_look 2 := ⟨w_488, w_278, by decide +kernel⟩
theorem yV_X6_look : Cond.instanceMethod yX6_look ∈ tbG ∧ Cond.selects yX6_look.cls yX6_look yX6_look ∈ tbG := ⟨w_489, w_490⟩
theorem dX6_look_0 : dI cX6_look 0 1 (.aload_n 0) 1 := ⟨by decide +kernel, rfl⟩
theorem dX6_look_1 : dI cX6_look 1 2 (.iload_n 1) 1 := ⟨by decide +kernel, rfl⟩
theorem dX6_look_2 : decode cX6_look 2 = .ok (.invokevirtual 99, 3) := by decide +kernel
theorem dX6_look_5 : decode cX6_look 5 = .ok (.ifCond .ne 11, 3) := by decide +kernel
theorem dX6_look_8 : dI cX6_look 8 9 (.aload_n 0) 1 := ⟨by decide +kernel, rfl⟩
theorem dX6_look_9 : dI cX6_look 9 10 (.iload_n 2) 1 := ⟨by decide +kernel, rfl⟩
theorem dX6_look_10 : decode cX6_look 10 = .ok (.invokevirtual 76, 3) := by decide +kernel
theorem dX6_look_13 : decode cX6_look 13 = .ok (.ifCond .eq 6, 3) := by decide +kernel
theorem dX6_look_16 : dI cX6_look 16 18 (.ldc 67) 2 := ⟨by decide +kernel, rfl⟩
theorem dX6_look_18 : dI cX6_look 18 19 (.ireturn) 1 := ⟨by decide +kernel, rfl⟩
theorem dX6_look_19 : dI cX6_look 19 20 (.aload_n 0) 1 := ⟨by decide +kernel, rfl⟩
theorem dX6_look_20 : dI cX6_look 20 23 (.getfield 10) 3 := ⟨by decide +kernel, rfl⟩
theorem dX6_look_23 : dI cX6_look 23 24 (.iload_n 1) 1 := ⟨by decide +kernel, rfl⟩
theorem dX6_look_24 : dI cX6_look 24 25 (.iload_n 2) 1 := ⟨by decide +kernel, rfl⟩
theorem dX6_look_25 : decode cX6_look 25 = .ok (.invokevirtual 204, 3) := by decide +kernel
theorem dX6_look_28 : decode cX6_look 28 = .ok (.ifCond .eq 8, 3) := by decide +kernel
theorem dX6_look_31 : dI cX6_look 31 33 (.ldc 188) 2 := ⟨by decide +kernel, rfl⟩
theorem dX6_look_33 : decode cX6_look 33 = .ok (.goto 11, 3) := by decide +kernel
theorem dX6_look_36 : dI cX6_look 36 37 (.aload_n 0) 1 := ⟨by decide +kernel, rfl⟩
theorem dX6_look_37 : dI cX6_look 37 40 (.getfield 10) 3 := ⟨by decide +kernel, rfl⟩
theorem dX6_look_40 : dI cX6_look 40 41 (.iload_n 2) 1 := ⟨by decide +kernel, rfl⟩
theorem dX6_look_41 : decode cX6_look 41 = .ok (.invokevirtual 207, 3) := by decide +kernel
theorem dX6_look_44 : dI cX6_look 44 45 (.ireturn) 1 := ⟨by decide +kernel, rfl⟩
def f_X6_look (s : hS) (a0 : Nat) (i1 : Int32) (i2 : Int32) : Option (Int32 × hS) :=
  (cV s a0 6 (f_X6_isNobody s a0 i1)).bind fun p1 =>
  if p1.1 = 0 then
    (cV p1.2 a0 6 (f_X6_isNoFact p1.2 a0 i2)).bind fun p2 =>
    if p2.1 = 0 then
      (gR p2.2 a0 6 0).bind fun a3 =>
      (cV p2.2 a3 5 (f_X5_isKnown p2.2 a3 i1 i2)).bind fun p4 =>
      if p4.1 = 0 then
        (gR p4.2 a0 6 0).bind fun a5 =>
        (cV p4.2 a5 5 (f_X5_lookFor p4.2 a5 i2)).bind fun p6 =>
        some (p6.1, p6.2)
      else
        some ((-1000000002 : Int32), p4.2)
    else
      some ((-1000000001 : Int32), p2.2)
  else
    some ((-1000000001 : Int32), p1.2)
theorem b_X6_look_in (E : jE)  (s : hS) (a0 : Nat) (i1 : Int32) (i2 : Int32)  : Jo E M_X6_look cvI 0 [(0, .ref a0), (1, .int i1), (2, .int i2)] [] s (f_X6_look s a0 i1 i2) := by
  unfold f_X6_look
  refine Jo_aloadn 0 dX6_look_0 rfl rfl ?_
  refine Jo_iloadn 1 dX6_look_1 rfl rfl ?_
  refine Jo_callVi (a := a0) (rest := []) [.int i1] cc_6 yF_X6_isNobody yV_X6_isNobody w_399 rfl rfl ⟨Nat.le_of_ble_eq_true rfl, Nat.le_of_ble_eq_true rfl, Nat.le_of_ble_eq_true rfl⟩ dX6_look_2 rfl (K_X6_isNobody E s a0 i1) (fun p1 => ?_)
  refine Jo_if_ne 16 dX6_look_5 (by decide) rfl ?_ ?_
  · refine Jo_aloadn 0 dX6_look_8 rfl rfl ?_
    refine Jo_iloadn 2 dX6_look_9 rfl rfl ?_
    refine Jo_callVi (a := a0) (rest := []) [.int i2] cc_6 yF_X6_isNoFact yV_X6_isNoFact w_380 rfl rfl ⟨Nat.le_of_ble_eq_true rfl, Nat.le_of_ble_eq_true rfl, Nat.le_of_ble_eq_true rfl⟩ dX6_look_10 rfl (K_X6_isNoFact E p1.2 a0 i2) (fun p2 => ?_)
    refine Jo_if_eq 19 dX6_look_13 (by decide) rfl ?_ ?_
    · refine Jo_aloadn 0 dX6_look_19 rfl rfl ?_
      refine Jo_getR fF_6_0 fR_6_0 dX6_look_20 w_359 (fun a3 => ?_)
      refine Jo_iloadn 1 dX6_look_23 rfl rfl ?_
      refine Jo_iloadn 2 dX6_look_24 rfl rfl ?_
      refine Jo_callVi (a := a3) (rest := []) [.int i1, .int i2] cc_5 yF_X5_isKnown yV_X5_isKnown w_479 rfl rfl ⟨Nat.le_of_ble_eq_true rfl, Nat.le_of_ble_eq_true rfl, Nat.le_of_ble_eq_true rfl⟩ dX6_look_25 rfl (K_X5_isKnown E p2.2 a3 i1 i2) (fun p4 => ?_)
      refine Jo_if_eq 36 dX6_look_28 (by decide) rfl ?_ ?_
      · refine Jo_aloadn 0 dX6_look_36 rfl rfl ?_
        refine Jo_getR fF_6_0 fR_6_0 dX6_look_37 w_359 (fun a5 => ?_)
        refine Jo_iloadn 2 dX6_look_40 rfl rfl ?_
        refine Jo_callVi (a := a5) (rest := []) [.int i2] cc_5 yF_X5_lookFor yV_X5_lookFor w_487 rfl rfl ⟨Nat.le_of_ble_eq_true rfl, Nat.le_of_ble_eq_true rfl, Nat.le_of_ble_eq_true rfl⟩ dX6_look_41 rfl (K_X5_lookFor E p4.2 a5 i2) (fun p6 => ?_)
        exact Jo_iret rfl dX6_look_44
      · refine Jo_ldc dX6_look_31 w_468 ?_
        refine Jo_goto 44 dX6_look_33 (by decide) ?_
        exact Jo_iret rfl dX6_look_44
    · refine Jo_ldc dX6_look_16 w_368 ?_
      exact Jo_iret rfl dX6_look_18
  · refine Jo_ldc dX6_look_16 w_368 ?_
    exact Jo_iret rfl dX6_look_18
theorem K_X6_look (E : jE) (s : hS) (a0 : Nat) (i1 : Int32) (i2 : Int32) : jK E yX6_look M_X6_look cvI [.ref a0, .int i1, .int i2] s (f_X6_look s a0 i1 i2) := jK_of ⟨by decide, rfl, rfl⟩ (Nat.le_of_ble_eq_true rfl) (b_X6_look_in E s a0 i1 i2)
/-! HeronTalk.find(II)I -/
abbrev M_X6_find : jM := (RX6, cX6_find, 3, (some .int), "find", 3, 67)
theorem yF_X6_find : yF yX6_find M_X6_find 2 := ⟨w_492, w_278, by decide +kernel⟩
theorem yV_X6_find : Cond.instanceMethod yX6_find ∈ tbG ∧ Cond.selects yX6_find.cls yX6_find yX6_find ∈ tbG := ⟨w_493, w_494⟩
theorem dX6_find_0 : dI cX6_find 0 1 (.aload_n 0) 1 := ⟨by decide +kernel, rfl⟩
theorem dX6_find_1 : dI cX6_find 1 2 (.iload_n 1) 1 := ⟨by decide +kernel, rfl⟩
theorem dX6_find_2 : decode cX6_find 2 = .ok (.invokevirtual 99, 3) := by decide +kernel
theorem dX6_find_5 : decode cX6_find 5 = .ok (.ifCond .ne 11, 3) := by decide +kernel
theorem dX6_find_8 : dI cX6_find 8 9 (.aload_n 0) 1 := ⟨by decide +kernel, rfl⟩
theorem dX6_find_9 : dI cX6_find 9 10 (.iload_n 2) 1 := ⟨by decide +kernel, rfl⟩
theorem dX6_find_10 : decode cX6_find 10 = .ok (.invokevirtual 76, 3) := by decide +kernel
theorem dX6_find_13 : decode cX6_find 13 = .ok (.ifCond .eq 6, 3) := by decide +kernel
theorem dX6_find_16 : dI cX6_find 16 18 (.ldc 67) 2 := ⟨by decide +kernel, rfl⟩
theorem dX6_find_18 : dI cX6_find 18 19 (.ireturn) 1 := ⟨by decide +kernel, rfl⟩
theorem dX6_find_19 : dI cX6_find 19 20 (.aload_n 0) 1 := ⟨by decide +kernel, rfl⟩
theorem dX6_find_20 : dI cX6_find 20 23 (.getfield 10) 3 := ⟨by decide +kernel, rfl⟩
theorem dX6_find_23 : dI cX6_find 23 24 (.iload_n 1) 1 := ⟨by decide +kernel, rfl⟩
theorem dX6_find_24 : dI cX6_find 24 25 (.iload_n 2) 1 := ⟨by decide +kernel, rfl⟩
theorem dX6_find_25 : decode cX6_find 25 = .ok (.invokevirtual 204, 3) := by decide +kernel
theorem dX6_find_28 : decode cX6_find 28 = .ok (.ifCond .eq 6, 3) := by decide +kernel
theorem dX6_find_31 : dI cX6_find 31 33 (.ldc 188) 2 := ⟨by decide +kernel, rfl⟩
theorem dX6_find_33 : dI cX6_find 33 34 (.ireturn) 1 := ⟨by decide +kernel, rfl⟩
theorem dX6_find_34 : dI cX6_find 34 35 (.aload_n 0) 1 := ⟨by decide +kernel, rfl⟩
theorem dX6_find_35 : dI cX6_find 35 38 (.getfield 10) 3 := ⟨by decide +kernel, rfl⟩
theorem dX6_find_38 : dI cX6_find 38 41 (.sipush 999) 3 := ⟨by decide +kernel, rfl⟩
theorem dX6_find_41 : dI cX6_find 41 42 (.aload_n 0) 1 := ⟨by decide +kernel, rfl⟩
theorem dX6_find_42 : dI cX6_find 42 45 (.getfield 10) 3 := ⟨by decide +kernel, rfl⟩
theorem dX6_find_45 : dI cX6_find 45 48 (.getfield 140) 3 := ⟨by decide +kernel, rfl⟩
theorem dX6_find_48 : dI cX6_find 48 49 (.aload_n 0) 1 := ⟨by decide +kernel, rfl⟩
theorem dX6_find_49 : dI cX6_find 49 52 (.getfield 10) 3 := ⟨by decide +kernel, rfl⟩
theorem dX6_find_52 : dI cX6_find 52 53 (.iload_n 2) 1 := ⟨by decide +kernel, rfl⟩
theorem dX6_find_53 : decode cX6_find 53 = .ok (.invokevirtual 207, 3) := by decide +kernel
theorem dX6_find_56 : dI cX6_find 56 57 (.iadd) 1 := ⟨by decide +kernel, rfl⟩
theorem dX6_find_57 : dI cX6_find 57 60 (.invokestatic 210) 3 := ⟨by decide +kernel, rfl⟩
theorem dX6_find_60 : dI cX6_find 60 63 (.putfield 140) 3 := ⟨by decide +kernel, rfl⟩
theorem dX6_find_63 : dI cX6_find 63 64 (.aload_n 0) 1 := ⟨by decide +kernel, rfl⟩
theorem dX6_find_64 : dI cX6_find 64 67 (.getfield 10) 3 := ⟨by decide +kernel, rfl⟩
theorem dX6_find_67 : dI cX6_find 67 68 (.iload_n 1) 1 := ⟨by decide +kernel, rfl⟩
theorem dX6_find_68 : dI cX6_find 68 69 (.iconst 1) 1 := ⟨by decide +kernel, rfl⟩
theorem dX6_find_69 : dI cX6_find 69 70 (.iload_n 2) 1 := ⟨by decide +kernel, rfl⟩
theorem dX6_find_70 : dI cX6_find 70 71 (.ishl) 1 := ⟨by decide +kernel, rfl⟩
theorem dX6_find_71 : decode cX6_find 71 = .ok (.invokevirtual 215, 3) := by decide +kernel
theorem dX6_find_74 : dI cX6_find 74 75 (.aload_n 0) 1 := ⟨by decide +kernel, rfl⟩
theorem dX6_find_75 : dI cX6_find 75 78 (.getfield 10) 3 := ⟨by decide +kernel, rfl⟩
theorem dX6_find_78 : dI cX6_find 78 81 (.getfield 140) 3 := ⟨by decide +kernel, rfl⟩
theorem dX6_find_81 : dI cX6_find 81 82 (.ireturn) 1 := ⟨by decide +kernel, rfl⟩
def f_X6_find (s : hS) (a0 : Nat) (i1 : Int32) (i2 : Int32) : Option (Int32 × hS) :=
  (cV s a0 6 (f_X6_isNobody s a0 i1)).bind fun p1 =>
  if p1.1 = 0 then
    (cV p1.2 a0 6 (f_X6_isNoFact p1.2 a0 i2)).bind fun p2 =>
    if p2.1 = 0 then
      (gR p2.2 a0 6 0).bind fun a3 =>
      (cV p2.2 a3 5 (f_X5_isKnown p2.2 a3 i1 i2)).bind fun p4 =>
      if p4.1 = 0 then
        (gR p4.2 a0 6 0).bind fun a5 =>
        (gR p4.2 a0 6 0).bind fun a6 =>
        (gI p4.2 a6 5 5).bind fun x7 =>
        (gR p4.2 a0 6 0).bind fun a8 =>
        (cV p4.2 a8 5 (f_X5_lookFor p4.2 a8 i2)).bind fun p9 =>
        (pI p9.2 a5 5 5 (if (x7 + p9.1) < (999 : Int32) then (x7 + p9.1) else (999 : Int32))).bind fun s10 =>
        (gR s10 a0 6 0).bind fun a11 =>
        (cV s10 a11 5 (f_X5_learn s10 a11 i1 ((1 : Int32) <<< (i2 &&& 31)))).bind fun p12 =>
        (gR p12.2 a0 6 0).bind fun a13 =>
        (gI p12.2 a13 5 5).bind fun x14 =>
        some (x14, p12.2)
      else
        some ((-1000000002 : Int32), p4.2)
    else
      some ((-1000000001 : Int32), p2.2)
  else
    some ((-1000000001 : Int32), p1.2)
theorem b_X6_find_in (E : jE)  (s : hS) (a0 : Nat) (i1 : Int32) (i2 : Int32)  : Jo E M_X6_find cvI 0 [(0, .ref a0), (1, .int i1), (2, .int i2)] [] s (f_X6_find s a0 i1 i2) := by
  unfold f_X6_find
  refine Jo_aloadn 0 dX6_find_0 rfl rfl ?_
  refine Jo_iloadn 1 dX6_find_1 rfl rfl ?_
  refine Jo_callVi (a := a0) (rest := []) [.int i1] cc_6 yF_X6_isNobody yV_X6_isNobody w_399 rfl rfl ⟨Nat.le_of_ble_eq_true rfl, Nat.le_of_ble_eq_true rfl, Nat.le_of_ble_eq_true rfl⟩ dX6_find_2 rfl (K_X6_isNobody E s a0 i1) (fun p1 => ?_)
  refine Jo_if_ne 16 dX6_find_5 (by decide) rfl ?_ ?_
  · refine Jo_aloadn 0 dX6_find_8 rfl rfl ?_
    refine Jo_iloadn 2 dX6_find_9 rfl rfl ?_
    refine Jo_callVi (a := a0) (rest := []) [.int i2] cc_6 yF_X6_isNoFact yV_X6_isNoFact w_380 rfl rfl ⟨Nat.le_of_ble_eq_true rfl, Nat.le_of_ble_eq_true rfl, Nat.le_of_ble_eq_true rfl⟩ dX6_find_10 rfl (K_X6_isNoFact E p1.2 a0 i2) (fun p2 => ?_)
    refine Jo_if_eq 19 dX6_find_13 (by decide) rfl ?_ ?_
    · refine Jo_aloadn 0 dX6_find_19 rfl rfl ?_
      refine Jo_getR fF_6_0 fR_6_0 dX6_find_20 w_359 (fun a3 => ?_)
      refine Jo_iloadn 1 dX6_find_23 rfl rfl ?_
      refine Jo_iloadn 2 dX6_find_24 rfl rfl ?_
      refine Jo_callVi (a := a3) (rest := []) [.int i1, .int i2] cc_5 yF_X5_isKnown yV_X5_isKnown w_479 rfl rfl ⟨Nat.le_of_ble_eq_true rfl, Nat.le_of_ble_eq_true rfl, Nat.le_of_ble_eq_true rfl⟩ dX6_find_25 rfl (K_X5_isKnown E p2.2 a3 i1 i2) (fun p4 => ?_)
      refine Jo_if_eq 34 dX6_find_28 (by decide) rfl ?_ ?_
      · refine Jo_aloadn 0 dX6_find_34 rfl rfl ?_
        refine Jo_getR fF_6_0 fR_6_0 dX6_find_35 w_359 (fun a5 => ?_)
        refine Jo_sipush (v := (999 : Int32)) dX6_find_38 (by decide) ?_
        refine Jo_aloadn 0 dX6_find_41 rfl rfl ?_
        refine Jo_getR fF_6_0 fR_6_0 dX6_find_42 w_359 (fun a6 => ?_)
        refine Jo_getI fF_5_5 fI_5_5 dX6_find_45 w_426 (fun x7 => ?_)
        refine Jo_aloadn 0 dX6_find_48 rfl rfl ?_
        refine Jo_getR fF_6_0 fR_6_0 dX6_find_49 w_359 (fun a8 => ?_)
        refine Jo_iloadn 2 dX6_find_52 rfl rfl ?_
        refine Jo_callVi (a := a8) (rest := [.int x7, .int (999 : Int32), .ref a5]) [.int i2] cc_5 yF_X5_lookFor yV_X5_lookFor w_487 rfl rfl ⟨Nat.le_of_ble_eq_true rfl, Nat.le_of_ble_eq_true rfl, Nat.le_of_ble_eq_true rfl⟩ dX6_find_53 rfl (K_X5_lookFor E p4.2 a8 i2) (fun p9 => ?_)
        refine Jo_iadd dX6_find_56 ?_
        refine Jo_min dX6_find_57 ⟨w_276, w_min1, w_math, w_min2⟩ ⟨by decide, Nat.le_of_ble_eq_true rfl⟩ ?_
        refine Jo_putI fF_5_5 fI_5_5 (Or.inl rfl) rfl dX6_find_60 w_426 (fun s10 => ?_)
        refine Jo_aloadn 0 dX6_find_63 rfl rfl ?_
        refine Jo_getR fF_6_0 fR_6_0 dX6_find_64 w_359 (fun a11 => ?_)
        refine Jo_iloadn 1 dX6_find_67 rfl rfl ?_
        refine Jo_iconst (v := (1 : Int32)) dX6_find_68 (by decide) ?_
        refine Jo_iloadn 2 dX6_find_69 rfl rfl ?_
        refine Jo_ishl dX6_find_70 ?_
        refine Jo_callVv (a := a11) (rest := []) [.int i1, .int ((1 : Int32) <<< (i2 &&& 31))] cc_5 yF_X5_learn yV_X5_learn w_491 rfl rfl ⟨Nat.le_of_ble_eq_true rfl, Nat.le_of_ble_eq_true rfl, Nat.le_of_ble_eq_true rfl⟩ dX6_find_71 rfl (K_X5_learn E s10 a11 i1 ((1 : Int32) <<< (i2 &&& 31))) (fun p12 => ?_)
        refine Jo_aloadn 0 dX6_find_74 rfl rfl ?_
        refine Jo_getR fF_6_0 fR_6_0 dX6_find_75 w_359 (fun a13 => ?_)
        refine Jo_getI fF_5_5 fI_5_5 dX6_find_78 w_426 (fun x14 => ?_)
        exact Jo_iret rfl dX6_find_81
      · refine Jo_ldc dX6_find_31 w_468 ?_
        exact Jo_iret rfl dX6_find_33
    · refine Jo_ldc dX6_find_16 w_368 ?_
      exact Jo_iret rfl dX6_find_18
  · refine Jo_ldc dX6_find_16 w_368 ?_
    exact Jo_iret rfl dX6_find_18
theorem K_X6_find (E : jE) (s : hS) (a0 : Nat) (i1 : Int32) (i2 : Int32) : jK E yX6_find M_X6_find cvI [.ref a0, .int i1, .int i2] s (f_X6_find s a0 i1 i2) := jK_of ⟨by decide, rfl, rfl⟩ (Nat.le_of_ble_eq_true rfl) (b_X6_find_in E s a0 i1 i2)
/-! HeronTalk.keepsBack(I)I -/
abbrev M_X6_keepsBack : jM := (RX6, cX6_keepsBack, 2, (some .int), "keepsBack", 5, 117)
theorem yF_X6_keepsBack : yF yX6_keepsBack M_X6_keepsBack 1 := ⟨w_496, w_278, by decide +kernel⟩
theorem yV_X6_keepsBack : Cond.instanceMethod yX6_keepsBack ∈ tbG ∧ Cond.selects yX6_keepsBack.cls yX6_keepsBack yX6_keepsBack ∈ tbG := ⟨w_497, w_498⟩
theorem dX6_keepsBack_0 : dI cX6_keepsBack 0 1 (.aload_n 0) 1 := ⟨by decide +kernel, rfl⟩
theorem dX6_keepsBack_1 : dI cX6_keepsBack 1 2 (.iload_n 1) 1 := ⟨by decide +kernel, rfl⟩
theorem dX6_keepsBack_2 : decode cX6_keepsBack 2 = .ok (.invokevirtual 99, 3) := by decide +kernel
theorem dX6_keepsBack_5 : decode cX6_keepsBack 5 = .ok (.ifCond .eq 8, 3) := by decide +kernel
theorem dX6_keepsBack_8 : dI cX6_keepsBack 8 10 (.ldc 67) 2 := ⟨by decide +kernel, rfl⟩
theorem dX6_keepsBack_10 : decode cX6_keepsBack 10 = .ok (.goto 14, 3) := by decide +kernel
theorem dX6_keepsBack_13 : dI cX6_keepsBack 13 14 (.aload_n 0) 1 := ⟨by decide +kernel, rfl⟩
theorem dX6_keepsBack_14 : dI cX6_keepsBack 14 17 (.getfield 10) 3 := ⟨by decide +kernel, rfl⟩
theorem dX6_keepsBack_17 : dI cX6_keepsBack 17 18 (.iload_n 1) 1 := ⟨by decide +kernel, rfl⟩
theorem dX6_keepsBack_18 : decode cX6_keepsBack 18 = .ok (.invokevirtual 219, 3) := by decide +kernel
theorem dX6_keepsBack_21 : decode cX6_keepsBack 21 = .ok (.invokestatic 171, 3) := by decide +kernel
theorem dX6_keepsBack_24 : dI cX6_keepsBack 24 25 (.ireturn) 1 := ⟨by decide +kernel, rfl⟩
def f_X6_keepsBack (s : hS) (a0 : Nat) (i1 : Int32) : Option (Int32 × hS) :=
  (cV s a0 6 (f_X6_isNobody s a0 i1)).bind fun p1 =>
  if p1.1 = 0 then
    (gR p1.2 a0 6 0).bind fun a2 =>
    (cV p1.2 a2 5 (f_X5_bestToKeep p1.2 a2 i1)).bind fun p3 =>
    (f_X6_orNone p3.2 p3.1).bind fun p4 =>
    some (p4.1, p4.2)
  else
    some ((-1000000001 : Int32), p1.2)
theorem b_X6_keepsBack_in (E : jE)  (s : hS) (a0 : Nat) (i1 : Int32)  : Jo E M_X6_keepsBack cvI 0 [(0, .ref a0), (1, .int i1)] [] s (f_X6_keepsBack s a0 i1) := by
  unfold f_X6_keepsBack
  refine Jo_aloadn 0 dX6_keepsBack_0 rfl rfl ?_
  refine Jo_iloadn 1 dX6_keepsBack_1 rfl rfl ?_
  refine Jo_callVi (a := a0) (rest := []) [.int i1] cc_6 yF_X6_isNobody yV_X6_isNobody w_399 rfl rfl ⟨Nat.le_of_ble_eq_true rfl, Nat.le_of_ble_eq_true rfl, Nat.le_of_ble_eq_true rfl⟩ dX6_keepsBack_2 rfl (K_X6_isNobody E s a0 i1) (fun p1 => ?_)
  refine Jo_if_eq 13 dX6_keepsBack_5 (by decide) rfl ?_ ?_
  · refine Jo_aloadn 0 dX6_keepsBack_13 rfl rfl ?_
    refine Jo_getR fF_6_0 fR_6_0 dX6_keepsBack_14 w_359 (fun a2 => ?_)
    refine Jo_iloadn 1 dX6_keepsBack_17 rfl rfl ?_
    refine Jo_callVi (a := a2) (rest := []) [.int i1] cc_5 yF_X5_bestToKeep yV_X5_bestToKeep w_495 rfl rfl ⟨Nat.le_of_ble_eq_true rfl, Nat.le_of_ble_eq_true rfl, Nat.le_of_ble_eq_true rfl⟩ dX6_keepsBack_18 rfl (K_X5_bestToKeep E p1.2 a2 i1) (fun p3 => ?_)
    refine Jo_callSi (rest := []) [.int p3.1] yF_X6_orNone yS_X6_orNone w_444 rfl rfl ⟨Nat.le_of_ble_eq_true rfl, Nat.le_of_ble_eq_true rfl, Nat.le_of_ble_eq_true rfl⟩ dX6_keepsBack_21 rfl (K_X6_orNone E p3.2 p3.1) (fun p4 => ?_)
    exact Jo_iret rfl dX6_keepsBack_24
  · refine Jo_ldc dX6_keepsBack_8 w_368 ?_
    refine Jo_goto 24 dX6_keepsBack_10 (by decide) ?_
    exact Jo_iret rfl dX6_keepsBack_24
theorem K_X6_keepsBack (E : jE) (s : hS) (a0 : Nat) (i1 : Int32) : jK E yX6_keepsBack M_X6_keepsBack cvI [.ref a0, .int i1] s (f_X6_keepsBack s a0 i1) := jK_of ⟨by decide, rfl, rfl⟩ (Nat.le_of_ble_eq_true rfl) (b_X6_keepsBack_in E s a0 i1)
/-! HeronTalk.fine()I -/
abbrev M_X6_fine : jM := (RX6, cX6_fine, 1, (some .int), "fine", 2, 49)
theorem yF_X6_fine : yF yX6_fine M_X6_fine 0 := ⟨w_500, w_278, by decide +kernel⟩
theorem yV_X6_fine : Cond.instanceMethod yX6_fine ∈ tbG ∧ Cond.selects yX6_fine.cls yX6_fine yX6_fine ∈ tbG := ⟨w_501, w_502⟩
theorem dX6_fine_0 : dI cX6_fine 0 1 (.aload_n 0) 1 := ⟨by decide +kernel, rfl⟩
theorem dX6_fine_1 : dI cX6_fine 1 4 (.getfield 10) 3 := ⟨by decide +kernel, rfl⟩
theorem dX6_fine_4 : decode cX6_fine 4 = .ok (.invokevirtual 222, 3) := by decide +kernel
theorem dX6_fine_7 : dI cX6_fine 7 8 (.ireturn) 1 := ⟨by decide +kernel, rfl⟩
def f_X6_fine (s : hS) (a0 : Nat) : Option (Int32 × hS) :=
  (gR s a0 6 0).bind fun a1 =>
  (cV s a1 5 (f_X5_fineNow s a1)).bind fun p2 =>
  some (p2.1, p2.2)
theorem b_X6_fine_in (E : jE)  (s : hS) (a0 : Nat)  : Jo E M_X6_fine cvI 0 [(0, .ref a0)] [] s (f_X6_fine s a0) := by
  unfold f_X6_fine
  refine Jo_aloadn 0 dX6_fine_0 rfl rfl ?_
  refine Jo_getR fF_6_0 fR_6_0 dX6_fine_1 w_359 (fun a1 => ?_)
  refine Jo_callVi (a := a1) (rest := []) [] cc_5 yF_X5_fineNow yV_X5_fineNow w_499 rfl rfl ⟨Nat.le_of_ble_eq_true rfl, Nat.le_of_ble_eq_true rfl, Nat.le_of_ble_eq_true rfl⟩ dX6_fine_4 rfl (K_X5_fineNow E s a1) (fun p2 => ?_)
  exact Jo_iret rfl dX6_fine_7
theorem K_X6_fine (E : jE) (s : hS) (a0 : Nat) : jK E yX6_fine M_X6_fine cvI [.ref a0] s (f_X6_fine s a0) := jK_of ⟨by decide, rfl, rfl⟩ (Nat.le_of_ble_eq_true rfl) (b_X6_fine_in E s a0)
/-! HeronTalk.feed(III)I -/
abbrev M_X6_feed : jM := (RX6, cX6_feed, 4, (some .int), "feed", 1, 22)
theorem yF_X6_feed : yF yX6_feed M_X6_feed 3 := ⟨w_505, w_278, by decide +kernel⟩
theorem yV_X6_feed : Cond.instanceMethod yX6_feed ∈ tbG ∧ Cond.selects yX6_feed.cls yX6_feed yX6_feed ∈ tbG := ⟨w_506, w_507⟩
theorem dX6_feed_0 : dI cX6_feed 0 1 (.aload_n 0) 1 := ⟨by decide +kernel, rfl⟩
theorem dX6_feed_1 : dI cX6_feed 1 4 (.getfield 37) 3 := ⟨by decide +kernel, rfl⟩
theorem dX6_feed_4 : dI cX6_feed 4 7 (.getfield 225) 3 := ⟨by decide +kernel, rfl⟩
theorem dX6_feed_7 : dI cX6_feed 7 9 (.bipush 12) 2 := ⟨by decide +kernel, rfl⟩
theorem dX6_feed_9 : dI cX6_feed 9 10 (.iadd) 1 := ⟨by decide +kernel, rfl⟩
theorem dX6_feed_10 : dI cX6_feed 10 12 (.bipush 96) 2 := ⟨by decide +kernel, rfl⟩
theorem dX6_feed_12 : decode cX6_feed 12 = .ok (.if_icmp .le 6, 3) := by decide +kernel
theorem dX6_feed_15 : dI cX6_feed 15 17 (.ldc 71) 2 := ⟨by decide +kernel, rfl⟩
theorem dX6_feed_17 : dI cX6_feed 17 18 (.ireturn) 1 := ⟨by decide +kernel, rfl⟩
theorem dX6_feed_18 : dI cX6_feed 18 19 (.aload_n 0) 1 := ⟨by decide +kernel, rfl⟩
theorem dX6_feed_19 : dI cX6_feed 19 22 (.getfield 37) 3 := ⟨by decide +kernel, rfl⟩
theorem dX6_feed_22 : dI cX6_feed 22 23 (.iload_n 1) 1 := ⟨by decide +kernel, rfl⟩
theorem dX6_feed_23 : decode cX6_feed 23 = .ok (.invokevirtual 230, 3) := by decide +kernel
theorem dX6_feed_26 : dI cX6_feed 26 27 (.aload_n 0) 1 := ⟨by decide +kernel, rfl⟩
theorem dX6_feed_27 : dI cX6_feed 27 30 (.getfield 37) 3 := ⟨by decide +kernel, rfl⟩
theorem dX6_feed_30 : dI cX6_feed 30 31 (.iload_n 2) 1 := ⟨by decide +kernel, rfl⟩
theorem dX6_feed_31 : decode cX6_feed 31 = .ok (.invokevirtual 230, 3) := by decide +kernel
theorem dX6_feed_34 : dI cX6_feed 34 35 (.aload_n 0) 1 := ⟨by decide +kernel, rfl⟩
theorem dX6_feed_35 : dI cX6_feed 35 38 (.getfield 37) 3 := ⟨by decide +kernel, rfl⟩
theorem dX6_feed_38 : dI cX6_feed 38 39 (.iload_n 3) 1 := ⟨by decide +kernel, rfl⟩
theorem dX6_feed_39 : decode cX6_feed 39 = .ok (.invokevirtual 230, 3) := by decide +kernel
theorem dX6_feed_42 : dI cX6_feed 42 43 (.aload_n 0) 1 := ⟨by decide +kernel, rfl⟩
theorem dX6_feed_43 : dI cX6_feed 43 46 (.getfield 37) 3 := ⟨by decide +kernel, rfl⟩
theorem dX6_feed_46 : dI cX6_feed 46 49 (.getfield 225) 3 := ⟨by decide +kernel, rfl⟩
theorem dX6_feed_49 : dI cX6_feed 49 50 (.ireturn) 1 := ⟨by decide +kernel, rfl⟩
def f_X6_feed (s : hS) (a0 : Nat) (i1 : Int32) (i2 : Int32) (i3 : Int32) : Option (Int32 × hS) :=
  (gR s a0 6 4).bind fun a1 =>
  (gI s a1 3 1).bind fun x2 =>
  if (x2 + (12 : Int32)) ≤ (96 : Int32) then
    (gR s a0 6 4).bind fun a3 =>
    (cV s a3 3 (f_X3_add s a3 i1)).bind fun p4 =>
    (gR p4.2 a0 6 4).bind fun a5 =>
    (cV p4.2 a5 3 (f_X3_add p4.2 a5 i2)).bind fun p6 =>
    (gR p6.2 a0 6 4).bind fun a7 =>
    (cV p6.2 a7 3 (f_X3_add p6.2 a7 i3)).bind fun p8 =>
    (gR p8.2 a0 6 4).bind fun a9 =>
    (gI p8.2 a9 3 1).bind fun x10 =>
    some (x10, p8.2)
  else
    some ((-1000000003 : Int32), s)
theorem b_X6_feed_in (E : jE)  (s : hS) (a0 : Nat) (i1 : Int32) (i2 : Int32) (i3 : Int32)  : Jo E M_X6_feed cvI 0 [(0, .ref a0), (1, .int i1), (2, .int i2), (3, .int i3)] [] s (f_X6_feed s a0 i1 i2 i3) := by
  unfold f_X6_feed
  refine Jo_aloadn 0 dX6_feed_0 rfl rfl ?_
  refine Jo_getR fF_6_4 fR_6_4 dX6_feed_1 w_347 (fun a1 => ?_)
  refine Jo_getI fF_3_1 fI_3_1 dX6_feed_4 w_503 (fun x2 => ?_)
  refine Jo_bipush (v := (12 : Int32)) dX6_feed_7 (by decide) ?_
  refine Jo_iadd dX6_feed_9 ?_
  refine Jo_bipush (v := (96 : Int32)) dX6_feed_10 (by decide) ?_
  refine Jo_icmp_le 18 dX6_feed_12 (by decide) rfl ?_ ?_
  · refine Jo_aloadn 0 dX6_feed_18 rfl rfl ?_
    refine Jo_getR fF_6_4 fR_6_4 dX6_feed_19 w_347 (fun a3 => ?_)
    refine Jo_iloadn 1 dX6_feed_22 rfl rfl ?_
    refine Jo_callVv (a := a3) (rest := []) [.int i1] cc_3 yF_X3_add yV_X3_add w_504 rfl rfl ⟨Nat.le_of_ble_eq_true rfl, Nat.le_of_ble_eq_true rfl, Nat.le_of_ble_eq_true rfl⟩ dX6_feed_23 rfl (K_X3_add E s a3 i1) (fun p4 => ?_)
    refine Jo_aloadn 0 dX6_feed_26 rfl rfl ?_
    refine Jo_getR fF_6_4 fR_6_4 dX6_feed_27 w_347 (fun a5 => ?_)
    refine Jo_iloadn 2 dX6_feed_30 rfl rfl ?_
    refine Jo_callVv (a := a5) (rest := []) [.int i2] cc_3 yF_X3_add yV_X3_add w_504 rfl rfl ⟨Nat.le_of_ble_eq_true rfl, Nat.le_of_ble_eq_true rfl, Nat.le_of_ble_eq_true rfl⟩ dX6_feed_31 rfl (K_X3_add E p4.2 a5 i2) (fun p6 => ?_)
    refine Jo_aloadn 0 dX6_feed_34 rfl rfl ?_
    refine Jo_getR fF_6_4 fR_6_4 dX6_feed_35 w_347 (fun a7 => ?_)
    refine Jo_iloadn 3 dX6_feed_38 rfl rfl ?_
    refine Jo_callVv (a := a7) (rest := []) [.int i3] cc_3 yF_X3_add yV_X3_add w_504 rfl rfl ⟨Nat.le_of_ble_eq_true rfl, Nat.le_of_ble_eq_true rfl, Nat.le_of_ble_eq_true rfl⟩ dX6_feed_39 rfl (K_X3_add E p6.2 a7 i3) (fun p8 => ?_)
    refine Jo_aloadn 0 dX6_feed_42 rfl rfl ?_
    refine Jo_getR fF_6_4 fR_6_4 dX6_feed_43 w_347 (fun a9 => ?_)
    refine Jo_getI fF_3_1 fI_3_1 dX6_feed_46 w_503 (fun x10 => ?_)
    exact Jo_iret rfl dX6_feed_49
  · refine Jo_ldc dX6_feed_15 w_366 ?_
    exact Jo_iret rfl dX6_feed_17
theorem K_X6_feed (E : jE) (s : hS) (a0 : Nat) (i1 : Int32) (i2 : Int32) (i3 : Int32) : jK E yX6_feed M_X6_feed cvI [.ref a0, .int i1, .int i2, .int i3] s (f_X6_feed s a0 i1 i2 i3) := jK_of ⟨by decide, rfl, rfl⟩ (Nat.le_of_ble_eq_true rfl) (b_X6_feed_in E s a0 i1 i2 i3)
/-! HeronTalk.trim(I)I -/
abbrev M_X6_trim : jM := (RX6, cX6_trim, 2, (some .int), "trim", 1, 22)
theorem yF_X6_trim : yF yX6_trim M_X6_trim 1 := ⟨w_508, w_278, by decide +kernel⟩
theorem yV_X6_trim : Cond.instanceMethod yX6_trim ∈ tbG ∧ Cond.selects yX6_trim.cls yX6_trim yX6_trim ∈ tbG := ⟨w_509, w_510⟩
theorem dX6_trim_0 : dI cX6_trim 0 1 (.iload_n 1) 1 := ⟨by decide +kernel, rfl⟩
theorem dX6_trim_1 : dI cX6_trim 1 2 (.iconst 0) 1 := ⟨by decide +kernel, rfl⟩
theorem dX6_trim_2 : dI cX6_trim 2 3 (.aload_n 0) 1 := ⟨by decide +kernel, rfl⟩
theorem dX6_trim_3 : dI cX6_trim 3 6 (.getfield 37) 3 := ⟨by decide +kernel, rfl⟩
theorem dX6_trim_6 : dI cX6_trim 6 9 (.getfield 225) 3 := ⟨by decide +kernel, rfl⟩
theorem dX6_trim_9 : decode cX6_trim 9 = .ok (.invokestatic 63, 3) := by decide +kernel
theorem dX6_trim_12 : decode cX6_trim 12 = .ok (.ifCond .eq 6, 3) := by decide +kernel
theorem dX6_trim_15 : dI cX6_trim 15 17 (.ldc 67) 2 := ⟨by decide +kernel, rfl⟩
theorem dX6_trim_17 : dI cX6_trim 17 18 (.ireturn) 1 := ⟨by decide +kernel, rfl⟩
theorem dX6_trim_18 : dI cX6_trim 18 19 (.aload_n 0) 1 := ⟨by decide +kernel, rfl⟩
theorem dX6_trim_19 : dI cX6_trim 19 22 (.getfield 37) 3 := ⟨by decide +kernel, rfl⟩
theorem dX6_trim_22 : dI cX6_trim 22 23 (.iload_n 1) 1 := ⟨by decide +kernel, rfl⟩
theorem dX6_trim_23 : dI cX6_trim 23 26 (.putfield 225) 3 := ⟨by decide +kernel, rfl⟩
theorem dX6_trim_26 : dI cX6_trim 26 27 (.iload_n 1) 1 := ⟨by decide +kernel, rfl⟩
theorem dX6_trim_27 : dI cX6_trim 27 28 (.ireturn) 1 := ⟨by decide +kernel, rfl⟩
def f_X6_trim (s : hS) (a0 : Nat) (i1 : Int32) : Option (Int32 × hS) :=
  (gR s a0 6 4).bind fun a1 =>
  (gI s a1 3 1).bind fun x2 =>
  (f_X6_isOutside s i1 (0 : Int32) x2).bind fun p3 =>
  if p3.1 = 0 then
    (gR p3.2 a0 6 4).bind fun a4 =>
    (pI p3.2 a4 3 1 i1).bind fun s5 =>
    some (i1, s5)
  else
    some ((-1000000001 : Int32), p3.2)
theorem b_X6_trim_in (E : jE)  (s : hS) (a0 : Nat) (i1 : Int32)  : Jo E M_X6_trim cvI 0 [(0, .ref a0), (1, .int i1)] [] s (f_X6_trim s a0 i1) := by
  unfold f_X6_trim
  refine Jo_iloadn 1 dX6_trim_0 rfl rfl ?_
  refine Jo_iconst (v := (0 : Int32)) dX6_trim_1 (by decide) ?_
  refine Jo_aloadn 0 dX6_trim_2 rfl rfl ?_
  refine Jo_getR fF_6_4 fR_6_4 dX6_trim_3 w_347 (fun a1 => ?_)
  refine Jo_getI fF_3_1 fI_3_1 dX6_trim_6 w_503 (fun x2 => ?_)
  refine Jo_callSi (rest := []) [.int i1, .int (0 : Int32), .int x2] yF_X6_isOutside yS_X6_isOutside w_369 rfl rfl ⟨Nat.le_of_ble_eq_true rfl, Nat.le_of_ble_eq_true rfl, Nat.le_of_ble_eq_true rfl⟩ dX6_trim_9 rfl (K_X6_isOutside E s i1 (0 : Int32) x2) (fun p3 => ?_)
  refine Jo_if_eq 18 dX6_trim_12 (by decide) rfl ?_ ?_
  · refine Jo_aloadn 0 dX6_trim_18 rfl rfl ?_
    refine Jo_getR fF_6_4 fR_6_4 dX6_trim_19 w_347 (fun a4 => ?_)
    refine Jo_iloadn 1 dX6_trim_22 rfl rfl ?_
    refine Jo_putI fF_3_1 fI_3_1 (Or.inl rfl) rfl dX6_trim_23 w_503 (fun s5 => ?_)
    refine Jo_iloadn 1 dX6_trim_26 rfl rfl ?_
    exact Jo_iret rfl dX6_trim_27
  · refine Jo_ldc dX6_trim_15 w_368 ?_
    exact Jo_iret rfl dX6_trim_17
theorem K_X6_trim (E : jE) (s : hS) (a0 : Nat) (i1 : Int32) : jK E yX6_trim M_X6_trim cvI [.ref a0, .int i1] s (f_X6_trim s a0 i1) := jK_of ⟨by decide, rfl, rfl⟩ (Nat.le_of_ble_eq_true rfl) (b_X6_trim_in E s a0 i1)
/-! HeronTalk.text()I -/
abbrev M_X6_text : jM := (RX6, cX6_text, 2, (some .int), "text", 8, 219)
theorem yF_X6_text : yF yX6_text M_X6_text 0 := ⟨w_515, w_278, by decide +kernel⟩
theorem yV_X6_text : Cond.instanceMethod yX6_text ∈ tbG ∧ Cond.selects yX6_text.cls yX6_text yX6_text ∈ tbG := ⟨w_516, w_517⟩
theorem dX6_text_0 : dI cX6_text 0 1 (.aload_n 0) 1 := ⟨by decide +kernel, rfl⟩
theorem dX6_text_1 : dI cX6_text 1 4 (.getfield 29) 3 := ⟨by decide +kernel, rfl⟩
theorem dX6_text_4 : decode cX6_text 4 = .ok (.invokevirtual 234, 3) := by decide +kernel
theorem dX6_text_7 : dI cX6_text 7 8 (.istore_n 1) 1 := ⟨by decide +kernel, rfl⟩
theorem dX6_text_8 : dI cX6_text 8 9 (.aload_n 0) 1 := ⟨by decide +kernel, rfl⟩
theorem dX6_text_9 : dI cX6_text 9 12 (.getfield 37) 3 := ⟨by decide +kernel, rfl⟩
theorem dX6_text_12 : dI cX6_text 12 13 (.iconst 0) 1 := ⟨by decide +kernel, rfl⟩
theorem dX6_text_13 : dI cX6_text 13 16 (.putfield 225) 3 := ⟨by decide +kernel, rfl⟩
theorem dX6_text_16 : dI cX6_text 16 17 (.iload_n 1) 1 := ⟨by decide +kernel, rfl⟩
theorem dX6_text_17 : decode cX6_text 17 = .ok (.ifCond .lt 8, 3) := by decide +kernel
theorem dX6_text_20 : dI cX6_text 20 22 (.bipush (-100)) 2 := ⟨by decide +kernel, rfl⟩
theorem dX6_text_22 : dI cX6_text 22 23 (.iload_n 1) 1 := ⟨by decide +kernel, rfl⟩
theorem dX6_text_23 : dI cX6_text 23 24 (.isub) 1 := ⟨by decide +kernel, rfl⟩
theorem dX6_text_24 : dI cX6_text 24 25 (.ireturn) 1 := ⟨by decide +kernel, rfl⟩
theorem dX6_text_25 : dI cX6_text 25 26 (.aload_n 0) 1 := ⟨by decide +kernel, rfl⟩
theorem dX6_text_26 : dI cX6_text 26 29 (.getfield 10) 3 := ⟨by decide +kernel, rfl⟩
theorem dX6_text_29 : dI cX6_text 29 32 (.getfield 237) 3 := ⟨by decide +kernel, rfl⟩
theorem dX6_text_32 : dI cX6_text 32 34 (.bipush 14) 2 := ⟨by decide +kernel, rfl⟩
theorem dX6_text_34 : decode cX6_text 34 = .ok (.if_icmp .lt 6, 3) := by decide +kernel
theorem dX6_text_37 : dI cX6_text 37 39 (.ldc 71) 2 := ⟨by decide +kernel, rfl⟩
theorem dX6_text_39 : dI cX6_text 39 40 (.ireturn) 1 := ⟨by decide +kernel, rfl⟩
theorem dX6_text_40 : dI cX6_text 40 41 (.aload_n 0) 1 := ⟨by decide +kernel, rfl⟩
theorem dX6_text_41 : dI cX6_text 41 44 (.getfield 10) 3 := ⟨by decide +kernel, rfl⟩
theorem dX6_text_44 : dI cX6_text 44 45 (.aload_n 0) 1 := ⟨by decide +kernel, rfl⟩
theorem dX6_text_45 : dI cX6_text 45 48 (.getfield 29) 3 := ⟨by decide +kernel, rfl⟩
theorem dX6_text_48 : decode cX6_text 48 = .ok (.invokevirtual 240, 3) := by decide +kernel
theorem dX6_text_51 : decode cX6_text 51 = .ok (.invokevirtual 244, 3) := by decide +kernel
theorem dX6_text_54 : dI cX6_text 54 55 (.ireturn) 1 := ⟨by decide +kernel, rfl⟩
def f_X6_text (s : hS) (a0 : Nat) : Option (Int32 × hS) :=
  (gR s a0 6 5).bind fun a1 =>
  (cV s a1 0 (f_X0_findFault s a1)).bind fun p2 =>
  (gR p2.2 a0 6 4).bind fun a3 =>
  (pI p2.2 a3 3 1 (0 : Int32)).bind fun s4 =>
  if p2.1 < 0 then
    (gR s4 a0 6 0).bind fun a5 =>
    (gI s4 a5 5 4).bind fun x6 =>
    if x6 < (14 : Int32) then
      (gR s4 a0 6 0).bind fun a7 =>
      (gR s4 a0 6 5).bind fun a8 =>
      (cV s4 a8 0 (f_X0_makeText s4 a8)).bind fun p9 =>
      (cV p9.2 a7 5 (f_X5_addText p9.2 a7 p9.1)).bind fun p10 =>
      some (p10.1, p10.2)
    else
      some ((-1000000003 : Int32), s4)
  else
    some (((-100 : Int32) - p2.1), s4)
theorem b_X6_text_in (E : jE)  (s : hS) (a0 : Nat)  : Jo E M_X6_text cvI 0 [(0, .ref a0)] [] s (f_X6_text s a0) := by
  unfold f_X6_text
  refine Jo_aloadn 0 dX6_text_0 rfl rfl ?_
  refine Jo_getR fF_6_5 fR_6_5 dX6_text_1 w_349 (fun a1 => ?_)
  refine Jo_callVi (a := a1) (rest := []) [] cc_0 yF_X0_findFault yV_X0_findFault w_514 rfl rfl ⟨Nat.le_of_ble_eq_true rfl, Nat.le_of_ble_eq_true rfl, Nat.le_of_ble_eq_true rfl⟩ dX6_text_4 rfl (K_X0_findFault E s a1) (fun p2 => ?_)
  refine Jo_istoren (ls' := [(1, .int p2.1), (0, .ref a0)]) dX6_text_7 rfl (by decide) rfl ?_
  refine Jo_aloadn 1 dX6_text_8 rfl rfl ?_
  refine Jo_getR fF_6_4 fR_6_4 dX6_text_9 w_347 (fun a3 => ?_)
  refine Jo_iconst (v := (0 : Int32)) dX6_text_12 (by decide) ?_
  refine Jo_putI fF_3_1 fI_3_1 (Or.inl rfl) rfl dX6_text_13 w_503 (fun s4 => ?_)
  refine Jo_iloadn 0 dX6_text_16 rfl rfl ?_
  refine Jo_if_lt 25 dX6_text_17 (by decide) rfl ?_ ?_
  · refine Jo_aloadn 1 dX6_text_25 rfl rfl ?_
    refine Jo_getR fF_6_0 fR_6_0 dX6_text_26 w_359 (fun a5 => ?_)
    refine Jo_getI fF_5_4 fI_5_4 dX6_text_29 w_513 (fun x6 => ?_)
    refine Jo_bipush (v := (14 : Int32)) dX6_text_32 (by decide) ?_
    refine Jo_icmp_lt 40 dX6_text_34 (by decide) rfl ?_ ?_
    · refine Jo_aloadn 1 dX6_text_40 rfl rfl ?_
      refine Jo_getR fF_6_0 fR_6_0 dX6_text_41 w_359 (fun a7 => ?_)
      refine Jo_aloadn 1 dX6_text_44 rfl rfl ?_
      refine Jo_getR fF_6_5 fR_6_5 dX6_text_45 w_349 (fun a8 => ?_)
      refine Jo_callVr (a := a8) (rest := [.ref a7]) [] cc_0 yF_X0_makeText yV_X0_makeText w_512 rfl rfl ⟨Nat.le_of_ble_eq_true rfl, Nat.le_of_ble_eq_true rfl, Nat.le_of_ble_eq_true rfl⟩ dX6_text_48 rfl (K_X0_makeText E s4 a8) (fun p9 => ?_)
      refine Jo_callVi (a := a7) (rest := []) [.ref p9.1] cc_5 yF_X5_addText yV_X5_addText w_511 rfl rfl ⟨Nat.le_of_ble_eq_true rfl, Nat.le_of_ble_eq_true rfl, Nat.le_of_ble_eq_true rfl⟩ dX6_text_51 rfl (K_X5_addText E p9.2 a7 p9.1) (fun p10 => ?_)
      exact Jo_iret rfl dX6_text_54
    · refine Jo_ldc dX6_text_37 w_366 ?_
      exact Jo_iret rfl dX6_text_39
  · refine Jo_bipush (v := (-100 : Int32)) dX6_text_20 (by decide) ?_
    refine Jo_iloadn 0 dX6_text_22 rfl rfl ?_
    refine Jo_isub dX6_text_23 ?_
    exact Jo_iret rfl dX6_text_24
theorem K_X6_text (E : jE) (s : hS) (a0 : Nat) : jK E yX6_text M_X6_text cvI [.ref a0] s (f_X6_text s a0) := jK_of ⟨by decide, rfl, rfl⟩ (Nat.le_of_ble_eq_true rfl) (b_X6_text_in E s a0)
