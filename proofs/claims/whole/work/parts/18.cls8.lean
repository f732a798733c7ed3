/-! HeronTalk.isOfKind(II)Z -/
abbrev M_X6_isOfKind : jM := (RX6, cX6_isOfKind, 4, (some .boolean), "isOfKind", 0, 0)
theorem yF_X6_isOfKind : yF yX6_isOfKind M_X6_isOfKind 2 := ⟨w_297, w_278, by decide +kernel⟩
theorem yS_X6_isOfKind : Cond.static yX6_isOfKind ∈ tbG := w_298
theorem dX6_isOfKind_0 : dI cX6_isOfKind 0 1 (.iload_n 0) 1 := ⟨by decide +kernel, rfl⟩
theorem dX6_isOfKind_1 : dI cX6_isOfKind 1 2 (.istore_n 2) 1 := ⟨by decide +kernel, rfl⟩
theorem dX6_isOfKind_2 : dI cX6_isOfKind 2 3 (.iconst 0) 1 := ⟨by decide +kernel, rfl⟩
theorem dX6_isOfKind_3 : dI cX6_isOfKind 3 4 (.istore_n 3) 1 := ⟨by decide +kernel, rfl⟩
theorem dX6_isOfKind_4 : dI cX6_isOfKind 4 5 (.iload_n 3) 1 := ⟨by decide +kernel, rfl⟩
theorem dX6_isOfKind_5 : dI cX6_isOfKind 5 7 (.bipush 6) 2 := ⟨by decide +kernel, rfl⟩
theorem dX6_isOfKind_7 : decode cX6_isOfKind 7 = .ok (.if_icmp .ge 34, 3) := by decide +kernel
theorem dX6_isOfKind_10 : dI cX6_isOfKind 10 11 (.iload_n 2) 1 := ⟨by decide +kernel, rfl⟩
theorem dX6_isOfKind_11 : decode cX6_isOfKind 11 = .ok (.ifCond .lt 30, 3) := by decide +kernel
theorem dX6_isOfKind_14 : dI cX6_isOfKind 14 15 (.iload_n 2) 1 := ⟨by decide +kernel, rfl⟩
theorem dX6_isOfKind_15 : dI cX6_isOfKind 15 18 (.getstatic 333) 3 := ⟨by decide +kernel, rfl⟩
theorem dX6_isOfKind_18 : dI cX6_isOfKind 18 19 (.arraylength) 1 := ⟨by decide +kernel, rfl⟩
theorem dX6_isOfKind_19 : decode cX6_isOfKind 19 = .ok (.if_icmp .ge 22, 3) := by decide +kernel
theorem dX6_isOfKind_22 : dI cX6_isOfKind 22 23 (.iload_n 2) 1 := ⟨by decide +kernel, rfl⟩
theorem dX6_isOfKind_23 : dI cX6_isOfKind 23 24 (.iload_n 1) 1 := ⟨by decide +kernel, rfl⟩
theorem dX6_isOfKind_24 : decode cX6_isOfKind 24 = .ok (.if_icmp .ne 5, 3) := by decide +kernel
theorem dX6_isOfKind_27 : dI cX6_isOfKind 27 28 (.iconst 1) 1 := ⟨by decide +kernel, rfl⟩
theorem dX6_isOfKind_28 : dI cX6_isOfKind 28 29 (.ireturn) 1 := ⟨by decide +kernel, rfl⟩
theorem dX6_isOfKind_29 : dI cX6_isOfKind 29 32 (.getstatic 333) 3 := ⟨by decide +kernel, rfl⟩
theorem dX6_isOfKind_32 : dI cX6_isOfKind 32 33 (.iload_n 2) 1 := ⟨by decide +kernel, rfl⟩
theorem dX6_isOfKind_33 : dI cX6_isOfKind 33 34 (.iaload) 1 := ⟨by decide +kernel, rfl⟩
theorem dX6_isOfKind_34 : dI cX6_isOfKind 34 35 (.istore_n 2) 1 := ⟨by decide +kernel, rfl⟩
theorem dX6_isOfKind_35 : dI cX6_isOfKind 35 38 (.iinc 3 1) 3 := ⟨by decide +kernel, rfl⟩
theorem dX6_isOfKind_38 : decode cX6_isOfKind 38 = .ok (.goto (-34), 3) := by decide +kernel
theorem dX6_isOfKind_41 : dI cX6_isOfKind 41 42 (.iconst 0) 1 := ⟨by decide +kernel, rfl⟩
theorem dX6_isOfKind_42 : dI cX6_isOfKind 42 43 (.ireturn) 1 := ⟨by decide +kernel, rfl⟩
def f_X6_isOfKind_b4 (k4 : Int32 → Int32 → Int32 → hS → Option (Int32 × hS)) (l1 : Int32) (l2 : Int32) (l3 : Int32) (s : hS) : Option (Int32 × hS) :=
  if (6 : Int32) ≤ l3 then
    some ((0 : Int32), s)
  else
    if l2 < 0 then
      some ((0 : Int32), s)
    else
      if (6 : Int32) ≤ l2 then
        some ((0 : Int32), s)
      else
        if l2 = l1 then
          some ((1 : Int32), s)
        else
          (abv l2).bind fun x1 =>
          k4 l1 x1 (l3 + (1 : Int32)) s
theorem b_X6_isOfKind_4 (E : jE) (k4 : Int32 → Int32 → Int32 → hS → Option (Int32 × hS)) (h4 : ∀ (s : hS) (l1 : Int32) (l2 : Int32) (l3 : Int32) , Jo E M_X6_isOfKind cvI 4 [(1, .int l1), (2, .int l2), (3, .int l3)] [] s (k4 l1 l2 l3 s)) (s : hS) (l1 : Int32) (l2 : Int32) (l3 : Int32)  : Jo E M_X6_isOfKind cvI 4 [(1, .int l1), (2, .int l2), (3, .int l3)] [] s (f_X6_isOfKind_b4 k4 l1 l2 l3 s) := by
  unfold f_X6_isOfKind_b4
  refine Jo_iloadn 2 dX6_isOfKind_4 rfl rfl ?_
  refine Jo_bipush (v := (6 : Int32)) dX6_isOfKind_5 (by decide) ?_
  refine Jo_icmp_ge 41 dX6_isOfKind_7 (by decide) rfl ?_ ?_
  · refine Jo_iconst (v := (0 : Int32)) dX6_isOfKind_41 (by decide) ?_
    exact Jo_zret0 rfl dX6_isOfKind_42
  · refine Jo_iloadn 1 dX6_isOfKind_10 rfl rfl ?_
    refine Jo_if_lt 41 dX6_isOfKind_11 (by decide) rfl ?_ ?_
    · refine Jo_iconst (v := (0 : Int32)) dX6_isOfKind_41 (by decide) ?_
      exact Jo_zret0 rfl dX6_isOfKind_42
    · refine Jo_iloadn 1 dX6_isOfKind_14 rfl rfl ?_
      refine Jo_above dX6_isOfKind_15 w_296 ?_
      refine Jo_abovelen dX6_isOfKind_18 ?_
      refine Jo_icmp_ge 41 dX6_isOfKind_19 (by decide) rfl ?_ ?_
      · refine Jo_iconst (v := (0 : Int32)) dX6_isOfKind_41 (by decide) ?_
        exact Jo_zret0 rfl dX6_isOfKind_42
      · refine Jo_iloadn 1 dX6_isOfKind_22 rfl rfl ?_
        refine Jo_iloadn 0 dX6_isOfKind_23 rfl rfl ?_
        refine Jo_icmp_ne 29 dX6_isOfKind_24 (by decide) rfl ?_ ?_
        · refine Jo_iconst (v := (1 : Int32)) dX6_isOfKind_27 (by decide) ?_
          exact Jo_zret1 rfl dX6_isOfKind_28
        · refine Jo_above dX6_isOfKind_29 w_296 ?_
          refine Jo_iloadn 1 dX6_isOfKind_32 rfl rfl ?_
          refine Jo_aboveld dX6_isOfKind_33 (fun x1 => ?_)
          refine Jo_istoren (ls' := [(2, .int x1), (1, .int l1), (3, .int l3)]) dX6_isOfKind_34 rfl (by decide) rfl ?_
          refine Jo_iinc (v := (l3 + (1 : Int32))) (ls' := [(3, .int (l3 + (1 : Int32))), (2, .int x1), (1, .int l1)]) 2 dX6_isOfKind_35 rfl rfl (by decide) rfl ?_
          refine Jo_goto 4 dX6_isOfKind_38 (by decide) ?_
          refine Jo_sub [2, 1, 0] rfl ?_
          exact h4 s l1 x1 (l3 + (1 : Int32))
theorem e_X6_isOfKind_4 (E : jE)  (n : Nat) : ∀ (s : hS) (l1 : Int32) (l2 : Int32) (l3 : Int32) , Jo E M_X6_isOfKind cvI 4 [(1, .int l1), (2, .int l2), (3, .int l3)] [] s ((jL f_X6_isOfKind_b4 (fun _ _ _ _ => none) n) l1 l2 l3 s) :=
  jL_ind (P := fun f => ∀ (s : hS) (l1 : Int32) (l2 : Int32) (l3 : Int32) , Jo E M_X6_isOfKind cvI 4 [(1, .int l1), (2, .int l2), (3, .int l3)] [] s (f l1 l2 l3 s)) (fun _ _ _ _ => Jo_none) (fun b hb s l1 l2 l3 => b_X6_isOfKind_4 E  b hb s l1 l2 l3) n
def f_X6_isOfKind (s : hS) (i0 : Int32) (i1 : Int32) : Option (Int32 × hS) :=
  jL f_X6_isOfKind_b4 (fun _ _ _ _ => none) jF i1 i0 (0 : Int32) s
theorem b_X6_isOfKind_in (E : jE)  (s : hS) (i0 : Int32) (i1 : Int32)  : Jo E M_X6_isOfKind cvI 0 [(0, .int i0), (1, .int i1)] [] s (f_X6_isOfKind s i0 i1) := by
  unfold f_X6_isOfKind
  refine Jo_iloadn 0 dX6_isOfKind_0 rfl rfl ?_
  refine Jo_istoren (ls' := [(2, .int i0), (0, .int i0), (1, .int i1)]) dX6_isOfKind_1 rfl (by decide) rfl ?_
  refine Jo_iconst (v := (0 : Int32)) dX6_isOfKind_2 (by decide) ?_
  refine Jo_istoren (ls' := [(3, .int (0 : Int32)), (2, .int i0), (0, .int i0), (1, .int i1)]) dX6_isOfKind_3 rfl (by decide) rfl ?_
  refine Jo_sub [3, 1, 0] rfl ?_
  exact e_X6_isOfKind_4 E jF s i1 i0 (0 : Int32)
theorem K_X6_isOfKind (E : jE) (s : hS) (i0 : Int32) (i1 : Int32) : jK E yX6_isOfKind M_X6_isOfKind cvI [.int i0, .int i1] s (f_X6_isOfKind s i0 i1) := jK_of ⟨by decide, rfl, rfl⟩ (Nat.le_of_ble_eq_true rfl) (b_X6_isOfKind_in E s i0 i1)
/-! HeronTalk$Town.givenOf(III)I -/
abbrev M_X5_givenOf : jM := (RX5, cX5_givenOf, 5, (some .int), "givenOf", 4, 97)
theorem yF_X5_givenOf : yF yX5_givenOf M_X5_givenOf 3 := ⟨w_300, w_198, by decide +kernel⟩
theorem yV_X5_givenOf : Cond.instanceMethod yX5_givenOf ∈ tbG ∧ Cond.selects yX5_givenOf.cls yX5_givenOf yX5_givenOf ∈ tbG := ⟨w_301, w_302⟩
theorem dX5_givenOf_0 : dI cX5_givenOf 0 1 (.iload_n 1) 1 := ⟨by decide +kernel, rfl⟩
theorem dX5_givenOf_1 : dI cX5_givenOf 1 2 (.iconst 4) 1 := ⟨by decide +kernel, rfl⟩
theorem dX5_givenOf_2 : decode cX5_givenOf 2 = .ok (.invokestatic 126, 3) := by decide +kernel
theorem dX5_givenOf_5 : decode cX5_givenOf 5 = .ok (.ifCond .eq 5, 3) := by decide +kernel
theorem dX5_givenOf_8 : dI cX5_givenOf 8 9 (.iconst (-1)) 1 := ⟨by decide +kernel, rfl⟩
theorem dX5_givenOf_9 : dI cX5_givenOf 9 10 (.ireturn) 1 := ⟨by decide +kernel, rfl⟩
theorem dX5_givenOf_10 : dI cX5_givenOf 10 11 (.aload_n 0) 1 := ⟨by decide +kernel, rfl⟩
theorem dX5_givenOf_11 : decode cX5_givenOf 11 = .ok (.invokevirtual 88, 3) := by decide +kernel
theorem dX5_givenOf_14 : dI cX5_givenOf 14 15 (.aload_n 0) 1 := ⟨by decide +kernel, rfl⟩
theorem dX5_givenOf_15 : dI cX5_givenOf 15 18 (.getfield 43) 3 := ⟨by decide +kernel, rfl⟩
theorem dX5_givenOf_18 : dI cX5_givenOf 18 19 (.iload_n 2) 1 := ⟨by decide +kernel, rfl⟩
theorem dX5_givenOf_19 : dI cX5_givenOf 19 20 (.iaload) 1 := ⟨by decide +kernel, rfl⟩
theorem dX5_givenOf_20 : dI cX5_givenOf 20 21 (.iand) 1 := ⟨by decide +kernel, rfl⟩
theorem dX5_givenOf_21 : dI cX5_givenOf 21 22 (.aload_n 0) 1 := ⟨by decide +kernel, rfl⟩
theorem dX5_givenOf_22 : dI cX5_givenOf 22 25 (.getfield 43) 3 := ⟨by decide +kernel, rfl⟩
theorem dX5_givenOf_25 : dI cX5_givenOf 25 26 (.iload_n 3) 1 := ⟨by decide +kernel, rfl⟩
theorem dX5_givenOf_26 : dI cX5_givenOf 26 27 (.iaload) 1 := ⟨by decide +kernel, rfl⟩
theorem dX5_givenOf_27 : dI cX5_givenOf 27 28 (.iconst (-1)) 1 := ⟨by decide +kernel, rfl⟩
theorem dX5_givenOf_28 : dI cX5_givenOf 28 29 (.ixor) 1 := ⟨by decide +kernel, rfl⟩
theorem dX5_givenOf_29 : dI cX5_givenOf 29 30 (.iand) 1 := ⟨by decide +kernel, rfl⟩
theorem dX5_givenOf_30 : dI cX5_givenOf 30 32 (.istore 4) 2 := ⟨by decide +kernel, rfl⟩
theorem dX5_givenOf_32 : dI cX5_givenOf 32 33 (.aload_n 0) 1 := ⟨by decide +kernel, rfl⟩
theorem dX5_givenOf_33 : dI cX5_givenOf 33 35 (.iload 4) 2 := ⟨by decide +kernel, rfl⟩
theorem dX5_givenOf_35 : dI cX5_givenOf 35 36 (.iload_n 3) 1 := ⟨by decide +kernel, rfl⟩
theorem dX5_givenOf_36 : dI cX5_givenOf 36 37 (.iload_n 1) 1 := ⟨by decide +kernel, rfl⟩
theorem dX5_givenOf_37 : dI cX5_givenOf 37 38 (.iconst 2) 1 := ⟨by decide +kernel, rfl⟩
theorem dX5_givenOf_38 : decode cX5_givenOf 38 = .ok (.invokestatic 126, 3) := by decide +kernel
theorem dX5_givenOf_41 : dI cX5_givenOf 41 44 (.sipush 999) 3 := ⟨by decide +kernel, rfl⟩
theorem dX5_givenOf_44 : decode cX5_givenOf 44 = .ok (.invokevirtual 129, 3) := by decide +kernel
theorem dX5_givenOf_47 : dI cX5_givenOf 47 48 (.ireturn) 1 := ⟨by decide +kernel, rfl⟩
def f_X5_givenOf (s : hS) (a0 : Nat) (i1 : Int32) (i2 : Int32) (i3 : Int32) : Option (Int32 × hS) :=
  (f_X6_isOfKind s i1 (4 : Int32)).bind fun p1 =>
  if p1.1 = 0 then
    (cV p1.2 a0 5 (f_X5_freshFacts p1.2 a0)).bind fun p2 =>
    (gR p2.2 a0 5 10).bind fun a3 =>
    (aI p2.2 a3 10 i2).bind fun x4 =>
    (gR p2.2 a0 5 10).bind fun a5 =>
    (aI p2.2 a5 10 i3).bind fun x6 =>
    nmv (((p2.1 &&& x4) &&& (x6 ^^^ (-1 : Int32)))) fun x7 =>
    (f_X6_isOfKind p2.2 i1 (2 : Int32)).bind fun p8 =>
    (cV p8.2 a0 5 (f_X5_pick p8.2 a0 x7 i3 p8.1 (999 : Int32))).bind fun p9 =>
    some (p9.1, p9.2)
  else
    some ((-1 : Int32), p1.2)
theorem b_X5_givenOf_in (E : jE)  (s : hS) (a0 : Nat) (i1 : Int32) (i2 : Int32) (i3 : Int32)  : Jo E M_X5_givenOf cvI 0 [(0, .ref a0), (1, .int i1), (2, .int i2), (3, .int i3)] [] s (f_X5_givenOf s a0 i1 i2 i3) := by
  unfold f_X5_givenOf
  refine Jo_iloadn 1 dX5_givenOf_0 rfl rfl ?_
  refine Jo_iconst (v := (4 : Int32)) dX5_givenOf_1 (by decide) ?_
  refine Jo_callNi (rest := []) [.int i1, .int (4 : Int32)] yF_X6_isOfKind yS_X6_isOfKind nl_X6_isOfKind rfl rfl ⟨Nat.le_of_ble_eq_true rfl, Nat.le_of_ble_eq_true rfl, Nat.le_of_ble_eq_true rfl⟩ dX5_givenOf_2 rfl (K_X6_isOfKind E s i1 (4 : Int32)) (fun p1 => ?_)
  refine Jo_if_eq 10 dX5_givenOf_5 (by decide) rfl ?_ ?_
  · refine Jo_aloadn 0 dX5_givenOf_10 rfl rfl ?_
    refine Jo_callVi (a := a0) (rest := []) [] cc_5 yF_X5_freshFacts yV_X5_freshFacts w_250 rfl rfl ⟨Nat.le_of_ble_eq_true rfl, Nat.le_of_ble_eq_true rfl, Nat.le_of_ble_eq_true rfl⟩ dX5_givenOf_11 rfl (K_X5_freshFacts E p1.2 a0) (fun p2 => ?_)
    refine Jo_aloadn 0 dX5_givenOf_14 rfl rfl ?_
    refine Jo_getR fF_5_10 fR_5_10 dX5_givenOf_15 w_185 (fun a3 => ?_)
    refine Jo_iloadn 2 dX5_givenOf_18 rfl rfl ?_
    refine Jo_iaload dX5_givenOf_19 (fun x4 => ?_)
    refine Jo_iand dX5_givenOf_20 ?_
    refine Jo_aloadn 0 dX5_givenOf_21 rfl rfl ?_
    refine Jo_getR fF_5_10 fR_5_10 dX5_givenOf_22 w_185 (fun a5 => ?_)
    refine Jo_iloadn 3 dX5_givenOf_25 rfl rfl ?_
    refine Jo_iaload dX5_givenOf_26 (fun x6 => ?_)
    refine Jo_iconst (v := (-1 : Int32)) dX5_givenOf_27 (by decide) ?_
    refine Jo_ixor dX5_givenOf_28 ?_
    refine Jo_iand dX5_givenOf_29 ?_
    refine Jo_nm (fun x7 => ?_)
    refine Jo_istore (ls' := [(4, .int x7), (0, .ref a0), (1, .int i1), (2, .int i2), (3, .int i3)]) dX5_givenOf_30 (by decide) rfl ?_
    refine Jo_aloadn 1 dX5_givenOf_32 rfl rfl ?_
    refine Jo_iload 0 dX5_givenOf_33 rfl ?_
    refine Jo_iloadn 4 dX5_givenOf_35 rfl rfl ?_
    refine Jo_iloadn 2 dX5_givenOf_36 rfl rfl ?_
    refine Jo_iconst (v := (2 : Int32)) dX5_givenOf_37 (by decide) ?_
    refine Jo_callNi (rest := [.int i3, .int x7, .ref a0]) [.int i1, .int (2 : Int32)] yF_X6_isOfKind yS_X6_isOfKind nl_X6_isOfKind rfl rfl ⟨Nat.le_of_ble_eq_true rfl, Nat.le_of_ble_eq_true rfl, Nat.le_of_ble_eq_true rfl⟩ dX5_givenOf_38 rfl (K_X6_isOfKind E p2.2 i1 (2 : Int32)) (fun p8 => ?_)
    refine Jo_sipush (v := (999 : Int32)) dX5_givenOf_41 (by decide) ?_
    refine Jo_callVi (a := a0) (rest := []) [.int x7, .int i3, .int p8.1, .int (999 : Int32)] cc_5 yF_X5_pick yV_X5_pick w_299 rfl rfl ⟨Nat.le_of_ble_eq_true rfl, Nat.le_of_ble_eq_true rfl, Nat.le_of_ble_eq_true rfl⟩ dX5_givenOf_44 rfl (K_X5_pick E p8.2 a0 x7 i3 p8.1 (999 : Int32)) (fun p9 => ?_)
    exact Jo_iret rfl dX5_givenOf_47
  · refine Jo_iconst (v := (-1 : Int32)) dX5_givenOf_8 (by decide) ?_
    exact Jo_iret rfl dX5_givenOf_9
theorem K_X5_givenOf (E : jE) (s : hS) (a0 : Nat) (i1 : Int32) (i2 : Int32) (i3 : Int32) : jK E yX5_givenOf M_X5_givenOf cvI [.ref a0, .int i1, .int i2, .int i3] s (f_X5_givenOf s a0 i1 i2 i3) := jK_of ⟨by decide, rfl, rfl⟩ (Nat.le_of_ble_eq_true rfl) (b_X5_givenOf_in E s a0 i1 i2 i3)
/-! HeronTalk$Town.gotOf(IIII)I -/
abbrev M_X5_gotOf : jM := (RX5, cX5_gotOf, 7, (some .int), "gotOf", 4, 97)
theorem yF_X5_gotOf : yF yX5_gotOf M_X5_gotOf 4 := ⟨w_303, w_198, by decide +kernel⟩
theorem yV_X5_gotOf : Cond.instanceMethod yX5_gotOf ∈ tbG ∧ Cond.selects yX5_gotOf.cls yX5_gotOf yX5_gotOf ∈ tbG := ⟨w_304, w_305⟩
theorem dX5_gotOf_0 : dI cX5_gotOf 0 3 (.sipush 999) 3 := ⟨by decide +kernel, rfl⟩
theorem dX5_gotOf_3 : dI cX5_gotOf 3 5 (.istore 5) 2 := ⟨by decide +kernel, rfl⟩
theorem dX5_gotOf_5 : dI cX5_gotOf 5 6 (.iload_n 1) 1 := ⟨by decide +kernel, rfl⟩
theorem dX5_gotOf_6 : dI cX5_gotOf 6 7 (.iconst 1) 1 := ⟨by decide +kernel, rfl⟩
theorem dX5_gotOf_7 : decode cX5_gotOf 7 = .ok (.invokestatic 126, 3) := by decide +kernel
theorem dX5_gotOf_10 : decode cX5_gotOf 10 = .ok (.ifCond .eq 20, 3) := by decide +kernel
theorem dX5_gotOf_13 : dI cX5_gotOf 13 15 (.iload 4) 2 := ⟨by decide +kernel, rfl⟩
theorem dX5_gotOf_15 : dI cX5_gotOf 15 16 (.iconst (-1)) 1 := ⟨by decide +kernel, rfl⟩
theorem dX5_gotOf_16 : decode cX5_gotOf 16 = .ok (.if_icmp .ne 5, 3) := by decide +kernel
theorem dX5_gotOf_19 : dI cX5_gotOf 19 20 (.iconst (-1)) 1 := ⟨by decide +kernel, rfl⟩
theorem dX5_gotOf_20 : dI cX5_gotOf 20 21 (.ireturn) 1 := ⟨by decide +kernel, rfl⟩
theorem dX5_gotOf_21 : dI cX5_gotOf 21 22 (.aload_n 0) 1 := ⟨by decide +kernel, rfl⟩
theorem dX5_gotOf_22 : dI cX5_gotOf 22 24 (.iload 4) 2 := ⟨by decide +kernel, rfl⟩
theorem dX5_gotOf_24 : dI cX5_gotOf 24 25 (.iload_n 3) 1 := ⟨by decide +kernel, rfl⟩
theorem dX5_gotOf_25 : decode cX5_gotOf 25 = .ok (.invokevirtual 122, 3) := by decide +kernel
theorem dX5_gotOf_28 : dI cX5_gotOf 28 30 (.istore 5) 2 := ⟨by decide +kernel, rfl⟩
theorem dX5_gotOf_30 : dI cX5_gotOf 30 31 (.aload_n 0) 1 := ⟨by decide +kernel, rfl⟩
theorem dX5_gotOf_31 : decode cX5_gotOf 31 = .ok (.invokevirtual 88, 3) := by decide +kernel
theorem dX5_gotOf_34 : dI cX5_gotOf 34 35 (.aload_n 0) 1 := ⟨by decide +kernel, rfl⟩
theorem dX5_gotOf_35 : dI cX5_gotOf 35 38 (.getfield 43) 3 := ⟨by decide +kernel, rfl⟩
theorem dX5_gotOf_38 : dI cX5_gotOf 38 39 (.iload_n 3) 1 := ⟨by decide +kernel, rfl⟩
theorem dX5_gotOf_39 : dI cX5_gotOf 39 40 (.iaload) 1 := ⟨by decide +kernel, rfl⟩
theorem dX5_gotOf_40 : dI cX5_gotOf 40 41 (.iand) 1 := ⟨by decide +kernel, rfl⟩
theorem dX5_gotOf_41 : dI cX5_gotOf 41 42 (.aload_n 0) 1 := ⟨by decide +kernel, rfl⟩
theorem dX5_gotOf_42 : dI cX5_gotOf 42 45 (.getfield 43) 3 := ⟨by decide +kernel, rfl⟩
theorem dX5_gotOf_45 : dI cX5_gotOf 45 46 (.iload_n 2) 1 := ⟨by decide +kernel, rfl⟩
theorem dX5_gotOf_46 : dI cX5_gotOf 46 47 (.iaload) 1 := ⟨by decide +kernel, rfl⟩
theorem dX5_gotOf_47 : dI cX5_gotOf 47 48 (.iconst (-1)) 1 := ⟨by decide +kernel, rfl⟩
theorem dX5_gotOf_48 : dI cX5_gotOf 48 49 (.ixor) 1 := ⟨by decide +kernel, rfl⟩
theorem dX5_gotOf_49 : dI cX5_gotOf 49 50 (.iand) 1 := ⟨by decide +kernel, rfl⟩
theorem dX5_gotOf_50 : dI cX5_gotOf 50 52 (.istore 6) 2 := ⟨by decide +kernel, rfl⟩
theorem dX5_gotOf_52 : dI cX5_gotOf 52 53 (.aload_n 0) 1 := ⟨by decide +kernel, rfl⟩
theorem dX5_gotOf_53 : dI cX5_gotOf 53 55 (.iload 6) 2 := ⟨by decide +kernel, rfl⟩
theorem dX5_gotOf_55 : dI cX5_gotOf 55 56 (.iload_n 2) 1 := ⟨by decide +kernel, rfl⟩
theorem dX5_gotOf_56 : dI cX5_gotOf 56 57 (.iconst 1) 1 := ⟨by decide +kernel, rfl⟩
theorem dX5_gotOf_57 : dI cX5_gotOf 57 59 (.iload 5) 2 := ⟨by decide +kernel, rfl⟩
theorem dX5_gotOf_59 : decode cX5_gotOf 59 = .ok (.invokevirtual 129, 3) := by decide +kernel
theorem dX5_gotOf_62 : dI cX5_gotOf 62 63 (.ireturn) 1 := ⟨by decide +kernel, rfl⟩
def f_X5_gotOf_b30 (l0 : Nat) (l2 : Int32) (l3 : Int32) (l5 : Int32) (s : hS) : Option (Int32 × hS) :=
  (cV s l0 5 (f_X5_freshFacts s l0)).bind fun p1 =>
  (gR p1.2 l0 5 10).bind fun a2 =>
  (aI p1.2 a2 10 l3).bind fun x3 =>
  (gR p1.2 l0 5 10).bind fun a4 =>
  (aI p1.2 a4 10 l2).bind fun x5 =>
  nmv (((p1.1 &&& x3) &&& (x5 ^^^ (-1 : Int32)))) fun x6 =>
  (cV p1.2 l0 5 (f_X5_pick p1.2 l0 x6 l2 (1 : Int32) l5)).bind fun p7 =>
  some (p7.1, p7.2)
theorem b_X5_gotOf_30 (E : jE)  (s : hS) (l0 : Nat) (l2 : Int32) (l3 : Int32) (l5 : Int32)  : Jo E M_X5_gotOf cvI 30 [(0, .ref l0), (2, .int l2), (3, .int l3), (5, .int l5)] [] s (f_X5_gotOf_b30  l0 l2 l3 l5 s) := by
  unfold f_X5_gotOf_b30
  refine Jo_aloadn 0 dX5_gotOf_30 rfl rfl ?_
  refine Jo_callVi (a := l0) (rest := []) [] cc_5 yF_X5_freshFacts yV_X5_freshFacts w_250 rfl rfl ⟨Nat.le_of_ble_eq_true rfl, Nat.le_of_ble_eq_true rfl, Nat.le_of_ble_eq_true rfl⟩ dX5_gotOf_31 rfl (K_X5_freshFacts E s l0) (fun p1 => ?_)
  refine Jo_aloadn 0 dX5_gotOf_34 rfl rfl ?_
  refine Jo_getR fF_5_10 fR_5_10 dX5_gotOf_35 w_185 (fun a2 => ?_)
  refine Jo_iloadn 2 dX5_gotOf_38 rfl rfl ?_
  refine Jo_iaload dX5_gotOf_39 (fun x3 => ?_)
  refine Jo_iand dX5_gotOf_40 ?_
  refine Jo_aloadn 0 dX5_gotOf_41 rfl rfl ?_
  refine Jo_getR fF_5_10 fR_5_10 dX5_gotOf_42 w_185 (fun a4 => ?_)
  refine Jo_iloadn 1 dX5_gotOf_45 rfl rfl ?_
  refine Jo_iaload dX5_gotOf_46 (fun x5 => ?_)
  refine Jo_iconst (v := (-1 : Int32)) dX5_gotOf_47 (by decide) ?_
  refine Jo_ixor dX5_gotOf_48 ?_
  refine Jo_iand dX5_gotOf_49 ?_
  refine Jo_nm (fun x6 => ?_)
  refine Jo_istore (ls' := [(6, .int x6), (0, .ref l0), (2, .int l2), (3, .int l3), (5, .int l5)]) dX5_gotOf_50 (by decide) rfl ?_
  refine Jo_aloadn 1 dX5_gotOf_52 rfl rfl ?_
  refine Jo_iload 0 dX5_gotOf_53 rfl ?_
  refine Jo_iloadn 2 dX5_gotOf_55 rfl rfl ?_
  refine Jo_iconst (v := (1 : Int32)) dX5_gotOf_56 (by decide) ?_
  refine Jo_iload 4 dX5_gotOf_57 rfl ?_
  refine Jo_callVi (a := l0) (rest := []) [.int x6, .int l2, .int (1 : Int32), .int l5] cc_5 yF_X5_pick yV_X5_pick w_299 rfl rfl ⟨Nat.le_of_ble_eq_true rfl, Nat.le_of_ble_eq_true rfl, Nat.le_of_ble_eq_true rfl⟩ dX5_gotOf_59 rfl (K_X5_pick E p1.2 l0 x6 l2 (1 : Int32) l5) (fun p7 => ?_)
  exact Jo_iret rfl dX5_gotOf_62
def f_X5_gotOf (s : hS) (a0 : Nat) (i1 : Int32) (i2 : Int32) (i3 : Int32) (i4 : Int32) : Option (Int32 × hS) :=
  (f_X6_isOfKind s i1 (1 : Int32)).bind fun p1 =>
  if p1.1 = 0 then
    f_X5_gotOf_b30 a0 i2 i3 (999 : Int32) p1.2
  else
    if i4 = (-1 : Int32) then
      some ((-1 : Int32), p1.2)
    else
      (cV p1.2 a0 5 (f_X5_priceOf p1.2 a0 i4 i3)).bind fun p2 =>
      f_X5_gotOf_b30 a0 i2 i3 p2.1 p2.2
theorem b_X5_gotOf_in (E : jE)  (s : hS) (a0 : Nat) (i1 : Int32) (i2 : Int32) (i3 : Int32) (i4 : Int32)  : Jo E M_X5_gotOf cvI 0 [(0, .ref a0), (1, .int i1), (2, .int i2), (3, .int i3), (4, .int i4)] [] s (f_X5_gotOf s a0 i1 i2 i3 i4) := by
  unfold f_X5_gotOf
  refine Jo_sipush (v := (999 : Int32)) dX5_gotOf_0 (by decide) ?_
  refine Jo_istore (ls' := [(5, .int (999 : Int32)), (0, .ref a0), (1, .int i1), (2, .int i2), (3, .int i3), (4, .int i4)]) dX5_gotOf_3 (by decide) rfl ?_
  refine Jo_iloadn 2 dX5_gotOf_5 rfl rfl ?_
  refine Jo_iconst (v := (1 : Int32)) dX5_gotOf_6 (by decide) ?_
  refine Jo_callNi (rest := []) [.int i1, .int (1 : Int32)] yF_X6_isOfKind yS_X6_isOfKind nl_X6_isOfKind rfl rfl ⟨Nat.le_of_ble_eq_true rfl, Nat.le_of_ble_eq_true rfl, Nat.le_of_ble_eq_true rfl⟩ dX5_gotOf_7 rfl (K_X6_isOfKind E s i1 (1 : Int32)) (fun p1 => ?_)
  refine Jo_if_eq 30 dX5_gotOf_10 (by decide) rfl ?_ ?_
  · refine Jo_sub [1, 3, 4, 0] rfl ?_
    exact b_X5_gotOf_30 E p1.2 a0 i2 i3 (999 : Int32)
  · refine Jo_iload 5 dX5_gotOf_13 rfl ?_
    refine Jo_iconst (v := (-1 : Int32)) dX5_gotOf_15 (by decide) ?_
    refine Jo_icmp_ne 21 dX5_gotOf_16 (by decide) rfl ?_ ?_
    · refine Jo_iconst (v := (-1 : Int32)) dX5_gotOf_19 (by decide) ?_
      exact Jo_iret rfl dX5_gotOf_20
    · refine Jo_aloadn 1 dX5_gotOf_21 rfl rfl ?_
      refine Jo_iload 5 dX5_gotOf_22 rfl ?_
      refine Jo_iloadn 4 dX5_gotOf_24 rfl rfl ?_
      refine Jo_callVi (a := a0) (rest := []) [.int i4, .int i3] cc_5 yF_X5_priceOf yV_X5_priceOf w_292 rfl rfl ⟨Nat.le_of_ble_eq_true rfl, Nat.le_of_ble_eq_true rfl, Nat.le_of_ble_eq_true rfl⟩ dX5_gotOf_25 rfl (K_X5_priceOf E p1.2 a0 i4 i3) (fun p2 => ?_)
      refine Jo_istore (ls' := [(5, .int p2.1), (0, .ref a0), (1, .int i1), (2, .int i2), (3, .int i3), (4, .int i4)]) dX5_gotOf_28 (by decide) rfl ?_
      refine Jo_sub [1, 3, 4, 0] rfl ?_
      exact b_X5_gotOf_30 E p2.2 a0 i2 i3 p2.1
theorem K_X5_gotOf (E : jE) (s : hS) (a0 : Nat) (i1 : Int32) (i2 : Int32) (i3 : Int32) (i4 : Int32) : jK E yX5_gotOf M_X5_gotOf cvI [.ref a0, .int i1, .int i2, .int i3, .int i4] s (f_X5_gotOf s a0 i1 i2 i3 i4) := jK_of ⟨by decide, rfl, rfl⟩ (Nat.le_of_ble_eq_true rfl) (b_X5_gotOf_in E s a0 i1 i2 i3 i4)
/-! HeronTalk$Town.worthOf(III)I -/
abbrev M_X5_worthOf : jM := (RX5, cX5_worthOf, 8, (some .int), "worthOf", 5, 123)
theorem yF_X5_worthOf : yF yX5_worthOf M_X5_worthOf 3 := ⟨w_308, w_198, by decide +kernel⟩
theorem yV_X5_worthOf : Cond.instanceMethod yX5_worthOf ∈ tbG ∧ Cond.selects yX5_worthOf.cls yX5_worthOf yX5_worthOf ∈ tbG := ⟨w_309, w_310⟩
theorem dX5_worthOf_0 : dI cX5_worthOf 0 1 (.aload_n 0) 1 := ⟨by decide +kernel, rfl⟩
theorem dX5_worthOf_1 : dI cX5_worthOf 1 2 (.iload_n 1) 1 := ⟨by decide +kernel, rfl⟩
theorem dX5_worthOf_2 : dI cX5_worthOf 2 3 (.iload_n 2) 1 := ⟨by decide +kernel, rfl⟩
theorem dX5_worthOf_3 : dI cX5_worthOf 3 4 (.iload_n 3) 1 := ⟨by decide +kernel, rfl⟩
theorem dX5_worthOf_4 : decode cX5_worthOf 4 = .ok (.invokevirtual 133, 3) := by decide +kernel
theorem dX5_worthOf_7 : dI cX5_worthOf 7 9 (.istore 4) 2 := ⟨by decide +kernel, rfl⟩
theorem dX5_worthOf_9 : dI cX5_worthOf 9 10 (.aload_n 0) 1 := ⟨by decide +kernel, rfl⟩
theorem dX5_worthOf_10 : dI cX5_worthOf 10 11 (.iload_n 1) 1 := ⟨by decide +kernel, rfl⟩
theorem dX5_worthOf_11 : dI cX5_worthOf 11 12 (.iload_n 2) 1 := ⟨by decide +kernel, rfl⟩
theorem dX5_worthOf_12 : dI cX5_worthOf 12 13 (.iload_n 3) 1 := ⟨by decide +kernel, rfl⟩
theorem dX5_worthOf_13 : dI cX5_worthOf 13 15 (.iload 4) 2 := ⟨by decide +kernel, rfl⟩
theorem dX5_worthOf_15 : decode cX5_worthOf 15 = .ok (.invokevirtual 136, 3) := by decide +kernel
theorem dX5_worthOf_18 : dI cX5_worthOf 18 20 (.istore 5) 2 := ⟨by decide +kernel, rfl⟩
theorem dX5_worthOf_20 : dI cX5_worthOf 20 22 (.iload 5) 2 := ⟨by decide +kernel, rfl⟩
theorem dX5_worthOf_22 : dI cX5_worthOf 22 23 (.iconst (-1)) 1 := ⟨by decide +kernel, rfl⟩
theorem dX5_worthOf_23 : decode cX5_worthOf 23 = .ok (.if_icmp .ne 7, 3) := by decide +kernel
theorem dX5_worthOf_26 : dI cX5_worthOf 26 27 (.iconst 0) 1 := ⟨by decide +kernel, rfl⟩
theorem dX5_worthOf_27 : decode cX5_worthOf 27 = .ok (.goto 10, 3) := by decide +kernel
theorem dX5_worthOf_30 : dI cX5_worthOf 30 31 (.aload_n 0) 1 := ⟨by decide +kernel, rfl⟩
theorem dX5_worthOf_31 : dI cX5_worthOf 31 33 (.iload 5) 2 := ⟨by decide +kernel, rfl⟩
theorem dX5_worthOf_33 : dI cX5_worthOf 33 34 (.iload_n 2) 1 := ⟨by decide +kernel, rfl⟩
theorem dX5_worthOf_34 : decode cX5_worthOf 34 = .ok (.invokevirtual 122, 3) := by decide +kernel
theorem dX5_worthOf_37 : dI cX5_worthOf 37 39 (.istore 6) 2 := ⟨by decide +kernel, rfl⟩
theorem dX5_worthOf_39 : dI cX5_worthOf 39 41 (.iload 4) 2 := ⟨by decide +kernel, rfl⟩
theorem dX5_worthOf_41 : dI cX5_worthOf 41 42 (.iconst (-1)) 1 := ⟨by decide +kernel, rfl⟩
theorem dX5_worthOf_42 : decode cX5_worthOf 42 = .ok (.if_icmp .ne 7, 3) := by decide +kernel
theorem dX5_worthOf_45 : dI cX5_worthOf 45 46 (.iconst 0) 1 := ⟨by decide +kernel, rfl⟩
theorem dX5_worthOf_46 : decode cX5_worthOf 46 = .ok (.goto 10, 3) := by decide +kernel
theorem dX5_worthOf_49 : dI cX5_worthOf 49 50 (.aload_n 0) 1 := ⟨by decide +kernel, rfl⟩
theorem dX5_worthOf_50 : dI cX5_worthOf 50 52 (.iload 4) 2 := ⟨by decide +kernel, rfl⟩
theorem dX5_worthOf_52 : dI cX5_worthOf 52 53 (.iload_n 3) 1 := ⟨by decide +kernel, rfl⟩
theorem dX5_worthOf_53 : decode cX5_worthOf 53 = .ok (.invokevirtual 122, 3) := by decide +kernel
theorem dX5_worthOf_56 : dI cX5_worthOf 56 58 (.istore 7) 2 := ⟨by decide +kernel, rfl⟩
theorem dX5_worthOf_58 : dI cX5_worthOf 58 59 (.iload_n 1) 1 := ⟨by decide +kernel, rfl⟩
theorem dX5_worthOf_59 : decode cX5_worthOf 59 = .ok (.tableswitch 91 1 5 #[33, 53, 42, 61, 71], 33) := by decide +kernel
theorem dX5_worthOf_92 : dI cX5_worthOf 92 94 (.iload 6) 2 := ⟨by decide +kernel, rfl⟩
theorem dX5_worthOf_94 : dI cX5_worthOf 94 96 (.iload 7) 2 := ⟨by decide +kernel, rfl⟩
theorem dX5_worthOf_96 : dI cX5_worthOf 96 97 (.isub) 1 := ⟨by decide +kernel, rfl⟩
theorem dX5_worthOf_97 : dI cX5_worthOf 97 99 (.bipush 10) 2 := ⟨by decide +kernel, rfl⟩
theorem dX5_worthOf_99 : dI cX5_worthOf 99 100 (.iadd) 1 := ⟨by decide +kernel, rfl⟩
theorem dX5_worthOf_100 : dI cX5_worthOf 100 101 (.ireturn) 1 := ⟨by decide +kernel, rfl⟩
theorem dX5_worthOf_101 : dI cX5_worthOf 101 102 (.iconst 2) 1 := ⟨by decide +kernel, rfl⟩
theorem dX5_worthOf_102 : dI cX5_worthOf 102 104 (.iload 6) 2 := ⟨by decide +kernel, rfl⟩
theorem dX5_worthOf_104 : dI cX5_worthOf 104 106 (.iload 7) 2 := ⟨by decide +kernel, rfl⟩
theorem dX5_worthOf_106 : dI cX5_worthOf 106 107 (.isub) 1 := ⟨by decide +kernel, rfl⟩
theorem dX5_worthOf_107 : dI cX5_worthOf 107 109 (.bipush 10) 2 := ⟨by decide +kernel, rfl⟩
theorem dX5_worthOf_109 : dI cX5_worthOf 109 110 (.iadd) 1 := ⟨by decide +kernel, rfl⟩
theorem dX5_worthOf_110 : dI cX5_worthOf 110 111 (.imul) 1 := ⟨by decide +kernel, rfl⟩
theorem dX5_worthOf_111 : dI cX5_worthOf 111 112 (.ireturn) 1 := ⟨by decide +kernel, rfl⟩
theorem dX5_worthOf_112 : dI cX5_worthOf 112 114 (.iload 6) 2 := ⟨by decide +kernel, rfl⟩
theorem dX5_worthOf_114 : dI cX5_worthOf 114 116 (.iload 7) 2 := ⟨by decide +kernel, rfl⟩
theorem dX5_worthOf_116 : dI cX5_worthOf 116 117 (.isub) 1 := ⟨by decide +kernel, rfl⟩
theorem dX5_worthOf_117 : dI cX5_worthOf 117 118 (.iconst 5) 1 := ⟨by decide +kernel, rfl⟩
theorem dX5_worthOf_118 : dI cX5_worthOf 118 119 (.isub) 1 := ⟨by decide +kernel, rfl⟩
theorem dX5_worthOf_119 : dI cX5_worthOf 119 120 (.ireturn) 1 := ⟨by decide +kernel, rfl⟩
theorem dX5_worthOf_120 : dI cX5_worthOf 120 122 (.iload 6) 2 := ⟨by decide +kernel, rfl⟩
theorem dX5_worthOf_122 : dI cX5_worthOf 122 124 (.iload 7) 2 := ⟨by decide +kernel, rfl⟩
theorem dX5_worthOf_124 : dI cX5_worthOf 124 125 (.isub) 1 := ⟨by decide +kernel, rfl⟩
theorem dX5_worthOf_125 : dI cX5_worthOf 125 126 (.iconst 5) 1 := ⟨by decide +kernel, rfl⟩
theorem dX5_worthOf_126 : dI cX5_worthOf 126 127 (.isub) 1 := ⟨by decide +kernel, rfl⟩
theorem dX5_worthOf_127 : dI cX5_worthOf 127 128 (.iconst 3) 1 := ⟨by decide +kernel, rfl⟩
theorem dX5_worthOf_128 : dI cX5_worthOf 128 129 (.iadd) 1 := ⟨by decide +kernel, rfl⟩
theorem dX5_worthOf_129 : dI cX5_worthOf 129 130 (.ireturn) 1 := ⟨by decide +kernel, rfl⟩
theorem dX5_worthOf_130 : dI cX5_worthOf 130 131 (.aload_n 0) 1 := ⟨by decide +kernel, rfl⟩
theorem dX5_worthOf_131 : dI cX5_worthOf 131 134 (.getfield 43) 3 := ⟨by decide +kernel, rfl⟩
theorem dX5_worthOf_134 : dI cX5_worthOf 134 135 (.iload_n 2) 1 := ⟨by decide +kernel, rfl⟩
theorem dX5_worthOf_135 : dI cX5_worthOf 135 136 (.iaload) 1 := ⟨by decide +kernel, rfl⟩
theorem dX5_worthOf_136 : decode cX5_worthOf 136 = .ok (.invokestatic 82, 3) := by decide +kernel
theorem dX5_worthOf_139 : dI cX5_worthOf 139 140 (.aload_n 0) 1 := ⟨by decide +kernel, rfl⟩
theorem dX5_worthOf_140 : dI cX5_worthOf 140 143 (.getfield 43) 3 := ⟨by decide +kernel, rfl⟩
theorem dX5_worthOf_143 : dI cX5_worthOf 143 144 (.iload_n 3) 1 := ⟨by decide +kernel, rfl⟩
theorem dX5_worthOf_144 : dI cX5_worthOf 144 145 (.iaload) 1 := ⟨by decide +kernel, rfl⟩
theorem dX5_worthOf_145 : decode cX5_worthOf 145 = .ok (.invokestatic 82, 3) := by decide +kernel
theorem dX5_worthOf_148 : dI cX5_worthOf 148 149 (.iadd) 1 := ⟨by decide +kernel, rfl⟩
theorem dX5_worthOf_149 : dI cX5_worthOf 149 150 (.ireturn) 1 := ⟨by decide +kernel, rfl⟩
theorem dX5_worthOf_150 : dI cX5_worthOf 150 152 (.iload 6) 2 := ⟨by decide +kernel, rfl⟩
theorem dX5_worthOf_152 : dI cX5_worthOf 152 154 (.iload 7) 2 := ⟨by decide +kernel, rfl⟩
theorem dX5_worthOf_154 : dI cX5_worthOf 154 155 (.isub) 1 := ⟨by decide +kernel, rfl⟩
theorem dX5_worthOf_155 : dI cX5_worthOf 155 156 (.ireturn) 1 := ⟨by decide +kernel, rfl⟩
def f_X5_worthOf_b56 (l0 : Nat) (l1 : Int32) (l2 : Int32) (l3 : Int32) (l6 : Int32) (t0 : Int32) (s : hS) : Option (Int32 × hS) :=
  if l1 = (1 : Int32) then
    some (((l6 - t0) + (10 : Int32)), s)
  else
  if l1 = (2 : Int32) then
    some (((l6 - t0) - (5 : Int32)), s)
  else
  if l1 = (3 : Int32) then
    some (((2 : Int32) * ((l6 - t0) + (10 : Int32))), s)
  else
  if l1 = (4 : Int32) then
    some ((((l6 - t0) - (5 : Int32)) + (3 : Int32)), s)
  else
  if l1 = (5 : Int32) then
    (gR s l0 5 10).bind fun a6 =>
    (aI s a6 10 l2).bind fun x7 =>
    (f_J6_bitCount_0f7a4 s x7).bind fun p8 =>
    (gR p8.2 l0 5 10).bind fun a9 =>
    (aI p8.2 a9 10 l3).bind fun x10 =>
    (f_J6_bitCount_0f7a4 p8.2 x10).bind fun p11 =>
    some ((p8.1 + p11.1), p11.2)
  else
  some ((l6 - t0), s)
theorem b_X5_worthOf_56 (E : jE)  (s : hS) (l0 : Nat) (l1 : Int32) (l2 : Int32) (l3 : Int32) (l6 : Int32) (t0 : Int32) : Jo E M_X5_worthOf cvI 56 [(0, .ref l0), (1, .int l1), (2, .int l2), (3, .int l3), (6, .int l6)] [.int t0] s (f_X5_worthOf_b56  l0 l1 l2 l3 l6 t0 s) := by
  unfold f_X5_worthOf_b56
  refine Jo_istore (ls' := [(7, .int t0), (0, .ref l0), (1, .int l1), (2, .int l2), (3, .int l3), (6, .int l6)]) dX5_worthOf_56 (by decide) rfl ?_
  refine Jo_iloadn 2 dX5_worthOf_58 rfl rfl ?_
  refine Jo_case ?_ (fun g1 => ?_)
  · refine Jo_tabIn (off := 33) 92 dX5_worthOf_59 (by decide) (by decide) (by decide) (by decide) ?_
    refine Jo_iload 5 dX5_worthOf_92 rfl ?_
    refine Jo_iload 0 dX5_worthOf_94 rfl ?_
    refine Jo_isub dX5_worthOf_96 ?_
    refine Jo_bipush (v := (10 : Int32)) dX5_worthOf_97 (by decide) ?_
    refine Jo_iadd dX5_worthOf_99 ?_
    exact Jo_iret rfl dX5_worthOf_100
  refine Jo_case ?_ (fun g2 => ?_)
  · refine Jo_tabIn (off := 53) 112 dX5_worthOf_59 (by decide) (by decide) (by decide) (by decide) ?_
    refine Jo_iload 5 dX5_worthOf_112 rfl ?_
    refine Jo_iload 0 dX5_worthOf_114 rfl ?_
    refine Jo_isub dX5_worthOf_116 ?_
    refine Jo_iconst (v := (5 : Int32)) dX5_worthOf_117 (by decide) ?_
    refine Jo_isub dX5_worthOf_118 ?_
    exact Jo_iret rfl dX5_worthOf_119
  refine Jo_case ?_ (fun g3 => ?_)
  · refine Jo_tabIn (off := 42) 101 dX5_worthOf_59 (by decide) (by decide) (by decide) (by decide) ?_
    refine Jo_iconst (v := (2 : Int32)) dX5_worthOf_101 (by decide) ?_
    refine Jo_iload 5 dX5_worthOf_102 rfl ?_
    refine Jo_iload 0 dX5_worthOf_104 rfl ?_
    refine Jo_isub dX5_worthOf_106 ?_
    refine Jo_bipush (v := (10 : Int32)) dX5_worthOf_107 (by decide) ?_
    refine Jo_iadd dX5_worthOf_109 ?_
    refine Jo_imul dX5_worthOf_110 ?_
    exact Jo_iret rfl dX5_worthOf_111
  refine Jo_case ?_ (fun g4 => ?_)
  · refine Jo_tabIn (off := 61) 120 dX5_worthOf_59 (by decide) (by decide) (by decide) (by decide) ?_
    refine Jo_iload 5 dX5_worthOf_120 rfl ?_
    refine Jo_iload 0 dX5_worthOf_122 rfl ?_
    refine Jo_isub dX5_worthOf_124 ?_
    refine Jo_iconst (v := (5 : Int32)) dX5_worthOf_125 (by decide) ?_
    refine Jo_isub dX5_worthOf_126 ?_
    refine Jo_iconst (v := (3 : Int32)) dX5_worthOf_127 (by decide) ?_
    refine Jo_iadd dX5_worthOf_128 ?_
    exact Jo_iret rfl dX5_worthOf_129
  refine Jo_case ?_ (fun g5 => ?_)
  · refine Jo_tabIn (off := 71) 130 dX5_worthOf_59 (by decide) (by decide) (by decide) (by decide) ?_
    refine Jo_aloadn 1 dX5_worthOf_130 rfl rfl ?_
    refine Jo_getR fF_5_10 fR_5_10 dX5_worthOf_131 w_185 (fun a6 => ?_)
    refine Jo_iloadn 3 dX5_worthOf_134 rfl rfl ?_
    refine Jo_iaload dX5_worthOf_135 (fun x7 => ?_)
    refine Jo_callSi (rest := []) [.int x7] yF_J6_bitCount_0f7a4 yS_J6_bitCount_0f7a4 w_246 rfl rfl ⟨Nat.le_of_ble_eq_true rfl, Nat.le_of_ble_eq_true rfl, Nat.le_of_ble_eq_true rfl⟩ dX5_worthOf_136 rfl (K_J6_bitCount_0f7a4 E s x7) (fun p8 => ?_)
    refine Jo_aloadn 1 dX5_worthOf_139 rfl rfl ?_
    refine Jo_getR fF_5_10 fR_5_10 dX5_worthOf_140 w_185 (fun a9 => ?_)
    refine Jo_iloadn 4 dX5_worthOf_143 rfl rfl ?_
    refine Jo_iaload dX5_worthOf_144 (fun x10 => ?_)
    refine Jo_callSi (rest := [.int p8.1]) [.int x10] yF_J6_bitCount_0f7a4 yS_J6_bitCount_0f7a4 w_246 rfl rfl ⟨Nat.le_of_ble_eq_true rfl, Nat.le_of_ble_eq_true rfl, Nat.le_of_ble_eq_true rfl⟩ dX5_worthOf_145 rfl (K_J6_bitCount_0f7a4 E p8.2 x10) (fun p11 => ?_)
    refine Jo_iadd dX5_worthOf_148 ?_
    exact Jo_iret rfl dX5_worthOf_149
  refine Jo_tabOut 150 dX5_worthOf_59 (by have qg1 := i32ne 1 (by decide) g1; have qg2 := i32ne 2 (by decide) g2; have qg3 := i32ne 3 (by decide) g3; have qg4 := i32ne 4 (by decide) g4; have qg5 := i32ne 5 (by decide) g5; omega) (by decide) ?_
  refine Jo_iload 5 dX5_worthOf_150 rfl ?_
  refine Jo_iload 0 dX5_worthOf_152 rfl ?_
  refine Jo_isub dX5_worthOf_154 ?_
  exact Jo_iret rfl dX5_worthOf_155
def f_X5_worthOf_b37 (l0 : Nat) (l1 : Int32) (l2 : Int32) (l3 : Int32) (l4 : Int32) (t0 : Int32) (s : hS) : Option (Int32 × hS) :=
  if l4 = (-1 : Int32) then
    f_X5_worthOf_b56 l0 l1 l2 l3 t0 (0 : Int32) s
  else
    (cV s l0 5 (f_X5_priceOf s l0 l4 l3)).bind fun p1 =>
    f_X5_worthOf_b56 l0 l1 l2 l3 t0 p1.1 p1.2
theorem b_X5_worthOf_37 (E : jE)  (s : hS) (l0 : Nat) (l1 : Int32) (l2 : Int32) (l3 : Int32) (l4 : Int32) (t0 : Int32) : Jo E M_X5_worthOf cvI 37 [(0, .ref l0), (1, .int l1), (2, .int l2), (3, .int l3), (4, .int l4)] [.int t0] s (f_X5_worthOf_b37  l0 l1 l2 l3 l4 t0 s) := by
  unfold f_X5_worthOf_b37
  refine Jo_istore (ls' := [(6, .int t0), (0, .ref l0), (1, .int l1), (2, .int l2), (3, .int l3), (4, .int l4)]) dX5_worthOf_37 (by decide) rfl ?_
  refine Jo_iload 5 dX5_worthOf_39 rfl ?_
  refine Jo_iconst (v := (-1 : Int32)) dX5_worthOf_41 (by decide) ?_
  refine Jo_icmp_ne 49 dX5_worthOf_42 (by decide) rfl ?_ ?_
  · refine Jo_iconst (v := (0 : Int32)) dX5_worthOf_45 (by decide) ?_
    refine Jo_goto 56 dX5_worthOf_46 (by decide) ?_
    refine Jo_sub [1, 2, 3, 4, 0] rfl ?_
    exact b_X5_worthOf_56 E s l0 l1 l2 l3 t0 (0 : Int32)
  · refine Jo_aloadn 1 dX5_worthOf_49 rfl rfl ?_
    refine Jo_iload 5 dX5_worthOf_50 rfl ?_
    refine Jo_iloadn 4 dX5_worthOf_52 rfl rfl ?_
    refine Jo_callVi (a := l0) (rest := []) [.int l4, .int l3] cc_5 yF_X5_priceOf yV_X5_priceOf w_292 rfl rfl ⟨Nat.le_of_ble_eq_true rfl, Nat.le_of_ble_eq_true rfl, Nat.le_of_ble_eq_true rfl⟩ dX5_worthOf_53 rfl (K_X5_priceOf E s l0 l4 l3) (fun p1 => ?_)
    refine Jo_sub [1, 2, 3, 4, 0] rfl ?_
    exact b_X5_worthOf_56 E p1.2 l0 l1 l2 l3 t0 p1.1
def f_X5_worthOf (s : hS) (a0 : Nat) (i1 : Int32) (i2 : Int32) (i3 : Int32) : Option (Int32 × hS) :=
  (cV s a0 5 (f_X5_givenOf s a0 i1 i2 i3)).bind fun p1 =>
  (cV p1.2 a0 5 (f_X5_gotOf p1.2 a0 i1 i2 i3 p1.1)).bind fun p2 =>
  if p2.1 = (-1 : Int32) then
    f_X5_worthOf_b37 a0 i1 i2 i3 p1.1 (0 : Int32) p2.2
  else
    (cV p2.2 a0 5 (f_X5_priceOf p2.2 a0 p2.1 i2)).bind fun p3 =>
    f_X5_worthOf_b37 a0 i1 i2 i3 p1.1 p3.1 p3.2
theorem b_X5_worthOf_in (E : jE)  (s : hS) (a0 : Nat) (i1 : Int32) (i2 : Int32) (i3 : Int32)  : Jo E M_X5_worthOf cvI 0 [(0, .ref a0), (1, .int i1), (2, .int i2), (3, .int i3)] [] s (f_X5_worthOf s a0 i1 i2 i3) := by
  unfold f_X5_worthOf
  refine Jo_aloadn 0 dX5_worthOf_0 rfl rfl ?_
  refine Jo_iloadn 1 dX5_worthOf_1 rfl rfl ?_
  refine Jo_iloadn 2 dX5_worthOf_2 rfl rfl ?_
  refine Jo_iloadn 3 dX5_worthOf_3 rfl rfl ?_
  refine Jo_callVi (a := a0) (rest := []) [.int i1, .int i2, .int i3] cc_5 yF_X5_givenOf yV_X5_givenOf w_307 rfl rfl ⟨Nat.le_of_ble_eq_true rfl, Nat.le_of_ble_eq_true rfl, Nat.le_of_ble_eq_true rfl⟩ dX5_worthOf_4 rfl (K_X5_givenOf E s a0 i1 i2 i3) (fun p1 => ?_)
  refine Jo_istore (ls' := [(4, .int p1.1), (0, .ref a0), (1, .int i1), (2, .int i2), (3, .int i3)]) dX5_worthOf_7 (by decide) rfl ?_
  refine Jo_aloadn 1 dX5_worthOf_9 rfl rfl ?_
  refine Jo_iloadn 2 dX5_worthOf_10 rfl rfl ?_
  refine Jo_iloadn 3 dX5_worthOf_11 rfl rfl ?_
  refine Jo_iloadn 4 dX5_worthOf_12 rfl rfl ?_
  refine Jo_iload 0 dX5_worthOf_13 rfl ?_
  refine Jo_callVi (a := a0) (rest := []) [.int i1, .int i2, .int i3, .int p1.1] cc_5 yF_X5_gotOf yV_X5_gotOf w_306 rfl rfl ⟨Nat.le_of_ble_eq_true rfl, Nat.le_of_ble_eq_true rfl, Nat.le_of_ble_eq_true rfl⟩ dX5_worthOf_15 rfl (K_X5_gotOf E p1.2 a0 i1 i2 i3 p1.1) (fun p2 => ?_)
  refine Jo_istore (ls' := [(5, .int p2.1), (4, .int p1.1), (0, .ref a0), (1, .int i1), (2, .int i2), (3, .int i3)]) dX5_worthOf_18 (by decide) rfl ?_
  refine Jo_iload 0 dX5_worthOf_20 rfl ?_
  refine Jo_iconst (v := (-1 : Int32)) dX5_worthOf_22 (by decide) ?_
  refine Jo_icmp_ne 30 dX5_worthOf_23 (by decide) rfl ?_ ?_
  · refine Jo_iconst (v := (0 : Int32)) dX5_worthOf_26 (by decide) ?_
    refine Jo_goto 37 dX5_worthOf_27 (by decide) ?_
    refine Jo_sub [2, 3, 4, 5, 1] rfl ?_
    exact b_X5_worthOf_37 E p2.2 a0 i1 i2 i3 p1.1 (0 : Int32)
  · refine Jo_aloadn 2 dX5_worthOf_30 rfl rfl ?_
    refine Jo_iload 0 dX5_worthOf_31 rfl ?_
    refine Jo_iloadn 4 dX5_worthOf_33 rfl rfl ?_
    refine Jo_callVi (a := a0) (rest := []) [.int p2.1, .int i2] cc_5 yF_X5_priceOf yV_X5_priceOf w_292 rfl rfl ⟨Nat.le_of_ble_eq_true rfl, Nat.le_of_ble_eq_true rfl, Nat.le_of_ble_eq_true rfl⟩ dX5_worthOf_34 rfl (K_X5_priceOf E p2.2 a0 p2.1 i2) (fun p3 => ?_)
    refine Jo_sub [2, 3, 4, 5, 1] rfl ?_
    exact b_X5_worthOf_37 E p3.2 a0 i1 i2 i3 p1.1 p3.1
theorem K_X5_worthOf (E : jE) (s : hS) (a0 : Nat) (i1 : Int32) (i2 : Int32) (i3 : Int32) : jK E yX5_worthOf M_X5_worthOf cvI [.ref a0, .int i1, .int i2, .int i3] s (f_X5_worthOf s a0 i1 i2 i3) := jK_of ⟨by decide, rfl, rfl⟩ (Nat.le_of_ble_eq_true rfl) (b_X5_worthOf_in E s a0 i1 i2 i3)
/-! HeronTalk.goes(III)Z -/
abbrev M_X6_goes : jM := (RX6, cX6_goes, 3, (some .boolean), "goes", 1, 23)
theorem yF_X6_goes : yF yX6_goes M_X6_goes 3 := ⟨w_312, w_278, by decide +kernel⟩
theorem yS_X6_goes : Cond.static yX6_goes ∈ tbG := w_313
theorem dX6_goes_0 : dI cX6_goes 0 1 (.iload_n 2) 1 := ⟨by decide +kernel, rfl⟩
theorem dX6_goes_1 : dI cX6_goes 1 2 (.iconst (-1)) 1 := ⟨by decide +kernel, rfl⟩
theorem dX6_goes_2 : decode cX6_goes 2 = .ok (.if_icmp .eq 20, 3) := by decide +kernel
theorem dX6_goes_5 : dI cX6_goes 5 6 (.iload_n 1) 1 := ⟨by decide +kernel, rfl⟩
theorem dX6_goes_6 : dI cX6_goes 6 7 (.iconst (-1)) 1 := ⟨by decide +kernel, rfl⟩
theorem dX6_goes_7 : decode cX6_goes 7 = .ok (.if_icmp .ne 11, 3) := by decide +kernel
theorem dX6_goes_10 : dI cX6_goes 10 11 (.iload_n 0) 1 := ⟨by decide +kernel, rfl⟩
theorem dX6_goes_11 : dI cX6_goes 11 12 (.iconst 4) 1 := ⟨by decide +kernel, rfl⟩
theorem dX6_goes_12 : decode cX6_goes 12 = .ok (.invokestatic 180, 3) := by decide +kernel
theorem dX6_goes_15 : decode cX6_goes 15 = .ok (.ifCond .eq 7, 3) := by decide +kernel
theorem dX6_goes_18 : dI cX6_goes 18 19 (.iconst 1) 1 := ⟨by decide +kernel, rfl⟩
theorem dX6_goes_19 : decode cX6_goes 19 = .ok (.goto 4, 3) := by decide +kernel
theorem dX6_goes_22 : dI cX6_goes 22 23 (.iconst 0) 1 := ⟨by decide +kernel, rfl⟩
theorem dX6_goes_23 : dI cX6_goes 23 24 (.ireturn) 1 := ⟨by decide +kernel, rfl⟩
def f_X6_goes_b18 (s : hS) : Option (Int32 × hS) :=
  some ((1 : Int32), s)
theorem b_X6_goes_18 (E : jE)  (s : hS)   : Jo E M_X6_goes cvI 18 [] [] s (f_X6_goes_b18   s) := by
  unfold f_X6_goes_b18
  refine Jo_iconst (v := (1 : Int32)) dX6_goes_18 (by decide) ?_
  refine Jo_goto 23 dX6_goes_19 (by decide) ?_
  exact Jo_zret1 rfl dX6_goes_23
def f_X6_goes (s : hS) (i0 : Int32) (i1 : Int32) (i2 : Int32) : Option (Int32 × hS) :=
  if i2 = (-1 : Int32) then
    some ((0 : Int32), s)
  else
    if i1 = (-1 : Int32) then
      (f_X6_isOfKind s i0 (4 : Int32)).bind fun p1 =>
      if p1.1 = 0 then
        some ((0 : Int32), p1.2)
      else
        f_X6_goes_b18  p1.2
    else
      f_X6_goes_b18  s
theorem b_X6_goes_in (E : jE)  (s : hS) (i0 : Int32) (i1 : Int32) (i2 : Int32)  : Jo E M_X6_goes cvI 0 [(0, .int i0), (1, .int i1), (2, .int i2)] [] s (f_X6_goes s i0 i1 i2) := by
  unfold f_X6_goes
  refine Jo_iloadn 2 dX6_goes_0 rfl rfl ?_
  refine Jo_iconst (v := (-1 : Int32)) dX6_goes_1 (by decide) ?_
  refine Jo_icmp_eq 22 dX6_goes_2 (by decide) rfl ?_ ?_
  · refine Jo_iconst (v := (0 : Int32)) dX6_goes_22 (by decide) ?_
    exact Jo_zret0 rfl dX6_goes_23
  · refine Jo_iloadn 1 dX6_goes_5 rfl rfl ?_
    refine Jo_iconst (v := (-1 : Int32)) dX6_goes_6 (by decide) ?_
    refine Jo_icmp_ne 18 dX6_goes_7 (by decide) rfl ?_ ?_
    · refine Jo_iloadn 0 dX6_goes_10 rfl rfl ?_
      refine Jo_iconst (v := (4 : Int32)) dX6_goes_11 (by decide) ?_
      refine Jo_callSi (rest := []) [.int i0, .int (4 : Int32)] yF_X6_isOfKind yS_X6_isOfKind w_311 rfl rfl ⟨Nat.le_of_ble_eq_true rfl, Nat.le_of_ble_eq_true rfl, Nat.le_of_ble_eq_true rfl⟩ dX6_goes_12 rfl (K_X6_isOfKind E s i0 (4 : Int32)) (fun p1 => ?_)
      refine Jo_if_eq 22 dX6_goes_15 (by decide) rfl ?_ ?_
      · refine Jo_iconst (v := (0 : Int32)) dX6_goes_22 (by decide) ?_
        exact Jo_zret0 rfl dX6_goes_23
      · refine Jo_sub [] rfl ?_
        exact b_X6_goes_18 E p1.2 
    · refine Jo_sub [] rfl ?_
      exact b_X6_goes_18 E s 
theorem K_X6_goes (E : jE) (s : hS) (i0 : Int32) (i1 : Int32) (i2 : Int32) : jK E yX6_goes M_X6_goes cvI [.int i0, .int i1, .int i2] s (f_X6_goes s i0 i1 i2) := jK_of ⟨by decide, rfl, rfl⟩ (Nat.le_of_ble_eq_true rfl) (b_X6_goes_in E s i0 i1 i2)
/-! HeronTalk$Town.converse(III)Z -/
abbrev M_X5_converse : jM := (RX5, cX5_converse, 7, (some .boolean), "converse", 5, 123)
theorem yF_X5_converse : yF yX5_converse M_X5_converse 3 := ⟨w_314, w_198, by decide +kernel⟩
theorem yV_X5_converse : Cond.instanceMethod yX5_converse ∈ tbG ∧ Cond.selects yX5_converse.cls yX5_converse yX5_converse ∈ tbG := ⟨w_315, w_316⟩
theorem dX5_converse_0 : dI cX5_converse 0 1 (.aload_n 0) 1 := ⟨by decide +kernel, rfl⟩
theorem dX5_converse_1 : dI cX5_converse 1 2 (.iload_n 1) 1 := ⟨by decide +kernel, rfl⟩
theorem dX5_converse_2 : dI cX5_converse 2 3 (.iload_n 2) 1 := ⟨by decide +kernel, rfl⟩
theorem dX5_converse_3 : dI cX5_converse 3 4 (.iload_n 3) 1 := ⟨by decide +kernel, rfl⟩
theorem dX5_converse_4 : decode cX5_converse 4 = .ok (.invokevirtual 133, 3) := by decide +kernel
theorem dX5_converse_7 : dI cX5_converse 7 9 (.istore 4) 2 := ⟨by decide +kernel, rfl⟩
theorem dX5_converse_9 : dI cX5_converse 9 10 (.aload_n 0) 1 := ⟨by decide +kernel, rfl⟩
theorem dX5_converse_10 : dI cX5_converse 10 11 (.iload_n 1) 1 := ⟨by decide +kernel, rfl⟩
theorem dX5_converse_11 : dI cX5_converse 11 12 (.iload_n 2) 1 := ⟨by decide +kernel, rfl⟩
theorem dX5_converse_12 : dI cX5_converse 12 13 (.iload_n 3) 1 := ⟨by decide +kernel, rfl⟩
theorem dX5_converse_13 : dI cX5_converse 13 15 (.iload 4) 2 := ⟨by decide +kernel, rfl⟩
theorem dX5_converse_15 : decode cX5_converse 15 = .ok (.invokevirtual 136, 3) := by decide +kernel
theorem dX5_converse_18 : dI cX5_converse 18 20 (.istore 5) 2 := ⟨by decide +kernel, rfl⟩
theorem dX5_converse_20 : dI cX5_converse 20 21 (.iload_n 1) 1 := ⟨by decide +kernel, rfl⟩
theorem dX5_converse_21 : dI cX5_converse 21 23 (.iload 4) 2 := ⟨by decide +kernel, rfl⟩
theorem dX5_converse_23 : dI cX5_converse 23 25 (.iload 5) 2 := ⟨by decide +kernel, rfl⟩
theorem dX5_converse_25 : decode cX5_converse 25 = .ok (.invokestatic 140, 3) := by decide +kernel
theorem dX5_converse_28 : decode cX5_converse 28 = .ok (.ifCond .ne 5, 3) := by decide +kernel
theorem dX5_converse_31 : dI cX5_converse 31 32 (.iconst 0) 1 := ⟨by decide +kernel, rfl⟩
theorem dX5_converse_32 : dI cX5_converse 32 33 (.ireturn) 1 := ⟨by decide +kernel, rfl⟩
theorem dX5_converse_33 : dI cX5_converse 33 35 (.iload 4) 2 := ⟨by decide +kernel, rfl⟩
theorem dX5_converse_35 : dI cX5_converse 35 36 (.iconst (-1)) 1 := ⟨by decide +kernel, rfl⟩
theorem dX5_converse_36 : decode cX5_converse 36 = .ok (.if_icmp .ne 7, 3) := by decide +kernel
theorem dX5_converse_39 : dI cX5_converse 39 40 (.iconst 0) 1 := ⟨by decide +kernel, rfl⟩
theorem dX5_converse_40 : decode cX5_converse 40 = .ok (.goto 7, 3) := by decide +kernel
theorem dX5_converse_43 : dI cX5_converse 43 44 (.iconst 1) 1 := ⟨by decide +kernel, rfl⟩
theorem dX5_converse_44 : dI cX5_converse 44 46 (.iload 4) 2 := ⟨by decide +kernel, rfl⟩
theorem dX5_converse_46 : dI cX5_converse 46 47 (.ishl) 1 := ⟨by decide +kernel, rfl⟩
theorem dX5_converse_47 : dI cX5_converse 47 49 (.istore 6) 2 := ⟨by decide +kernel, rfl⟩
theorem dX5_converse_49 : dI cX5_converse 49 50 (.aload_n 0) 1 := ⟨by decide +kernel, rfl⟩
theorem dX5_converse_50 : dI cX5_converse 50 51 (.iload_n 3) 1 := ⟨by decide +kernel, rfl⟩
theorem dX5_converse_51 : dI cX5_converse 51 53 (.iload 6) 2 := ⟨by decide +kernel, rfl⟩
theorem dX5_converse_53 : decode cX5_converse 53 = .ok (.invokevirtual 70, 3) := by decide +kernel
theorem dX5_converse_56 : dI cX5_converse 56 57 (.aload_n 0) 1 := ⟨by decide +kernel, rfl⟩
theorem dX5_converse_57 : dI cX5_converse 57 58 (.iload_n 2) 1 := ⟨by decide +kernel, rfl⟩
theorem dX5_converse_58 : dI cX5_converse 58 59 (.iconst 1) 1 := ⟨by decide +kernel, rfl⟩
theorem dX5_converse_59 : dI cX5_converse 59 61 (.iload 5) 2 := ⟨by decide +kernel, rfl⟩
theorem dX5_converse_61 : dI cX5_converse 61 62 (.ishl) 1 := ⟨by decide +kernel, rfl⟩
theorem dX5_converse_62 : decode cX5_converse 62 = .ok (.invokevirtual 70, 3) := by decide +kernel
theorem dX5_converse_65 : dI cX5_converse 65 66 (.iload_n 1) 1 := ⟨by decide +kernel, rfl⟩
theorem dX5_converse_66 : dI cX5_converse 66 67 (.iconst 3) 1 := ⟨by decide +kernel, rfl⟩
theorem dX5_converse_67 : decode cX5_converse 67 = .ok (.invokestatic 126, 3) := by decide +kernel
theorem dX5_converse_70 : decode cX5_converse 70 = .ok (.ifCond .eq 26, 3) := by decide +kernel
theorem dX5_converse_73 : dI cX5_converse 73 74 (.aload_n 0) 1 := ⟨by decide +kernel, rfl⟩
theorem dX5_converse_74 : dI cX5_converse 74 75 (.iload_n 3) 1 := ⟨by decide +kernel, rfl⟩
theorem dX5_converse_75 : dI cX5_converse 75 76 (.iconst 1) 1 := ⟨by decide +kernel, rfl⟩
theorem dX5_converse_76 : dI cX5_converse 76 77 (.iadd) 1 := ⟨by decide +kernel, rfl⟩
theorem dX5_converse_77 : dI cX5_converse 77 78 (.aload_n 0) 1 := ⟨by decide +kernel, rfl⟩
theorem dX5_converse_78 : dI cX5_converse 78 81 (.getfield 15) 3 := ⟨by decide +kernel, rfl⟩
theorem dX5_converse_81 : decode cX5_converse 81 = .ok (.if_icmp .ge 9, 3) := by decide +kernel
theorem dX5_converse_84 : dI cX5_converse 84 85 (.iload_n 3) 1 := ⟨by decide +kernel, rfl⟩
theorem dX5_converse_85 : dI cX5_converse 85 86 (.iconst 1) 1 := ⟨by decide +kernel, rfl⟩
theorem dX5_converse_86 : dI cX5_converse 86 87 (.iadd) 1 := ⟨by decide +kernel, rfl⟩
theorem dX5_converse_87 : decode cX5_converse 87 = .ok (.goto 4, 3) := by decide +kernel
theorem dX5_converse_90 : dI cX5_converse 90 91 (.iconst 0) 1 := ⟨by decide +kernel, rfl⟩
theorem dX5_converse_91 : dI cX5_converse 91 93 (.iload 6) 2 := ⟨by decide +kernel, rfl⟩
theorem dX5_converse_93 : decode cX5_converse 93 = .ok (.invokevirtual 70, 3) := by decide +kernel
theorem dX5_converse_96 : dI cX5_converse 96 97 (.iload_n 1) 1 := ⟨by decide +kernel, rfl⟩
theorem dX5_converse_97 : dI cX5_converse 97 98 (.iconst 5) 1 := ⟨by decide +kernel, rfl⟩
theorem dX5_converse_98 : decode cX5_converse 98 = .ok (.invokestatic 126, 3) := by decide +kernel
theorem dX5_converse_101 : decode cX5_converse 101 = .ok (.ifCond .eq 25, 3) := by decide +kernel
theorem dX5_converse_104 : dI cX5_converse 104 105 (.aload_n 0) 1 := ⟨by decide +kernel, rfl⟩
theorem dX5_converse_105 : dI cX5_converse 105 106 (.iload_n 2) 1 := ⟨by decide +kernel, rfl⟩
theorem dX5_converse_106 : dI cX5_converse 106 107 (.aload_n 0) 1 := ⟨by decide +kernel, rfl⟩
theorem dX5_converse_107 : dI cX5_converse 107 110 (.getfield 43) 3 := ⟨by decide +kernel, rfl⟩
theorem dX5_converse_110 : dI cX5_converse 110 111 (.iload_n 3) 1 := ⟨by decide +kernel, rfl⟩
theorem dX5_converse_111 : dI cX5_converse 111 112 (.iaload) 1 := ⟨by decide +kernel, rfl⟩
theorem dX5_converse_112 : decode cX5_converse 112 = .ok (.invokevirtual 70, 3) := by decide +kernel
theorem dX5_converse_115 : dI cX5_converse 115 116 (.aload_n 0) 1 := ⟨by decide +kernel, rfl⟩
theorem dX5_converse_116 : dI cX5_converse 116 117 (.iload_n 3) 1 := ⟨by decide +kernel, rfl⟩
theorem dX5_converse_117 : dI cX5_converse 117 118 (.aload_n 0) 1 := ⟨by decide +kernel, rfl⟩
theorem dX5_converse_118 : dI cX5_converse 118 121 (.getfield 43) 3 := ⟨by decide +kernel, rfl⟩
theorem dX5_converse_121 : dI cX5_converse 121 122 (.iload_n 2) 1 := ⟨by decide +kernel, rfl⟩
theorem dX5_converse_122 : dI cX5_converse 122 123 (.iaload) 1 := ⟨by decide +kernel, rfl⟩
theorem dX5_converse_123 : decode cX5_converse 123 = .ok (.invokevirtual 70, 3) := by decide +kernel
theorem dX5_converse_126 : dI cX5_converse 126 127 (.aload_n 0) 1 := ⟨by decide +kernel, rfl⟩
theorem dX5_converse_127 : dI cX5_converse 127 128 (.dup) 1 := ⟨by decide +kernel, rfl⟩
theorem dX5_converse_128 : dI cX5_converse 128 131 (.getfield 30) 3 := ⟨by decide +kernel, rfl⟩
theorem dX5_converse_131 : dI cX5_converse 131 132 (.iconst 1) 1 := ⟨by decide +kernel, rfl⟩
theorem dX5_converse_132 : dI cX5_converse 132 133 (.iadd) 1 := ⟨by decide +kernel, rfl⟩
theorem dX5_converse_133 : dI cX5_converse 133 136 (.putfield 30) 3 := ⟨by decide +kernel, rfl⟩
theorem dX5_converse_136 : dI cX5_converse 136 137 (.iconst 1) 1 := ⟨by decide +kernel, rfl⟩
theorem dX5_converse_137 : dI cX5_converse 137 138 (.ireturn) 1 := ⟨by decide +kernel, rfl⟩
def f_X5_converse_b126 (l0 : Nat) (s : hS) : Option (Int32 × hS) :=
  (gI s l0 5 6).bind fun x1 =>
  (pI s l0 5 6 (x1 + (1 : Int32))).bind fun s2 =>
  some ((1 : Int32), s2)
theorem b_X5_converse_126 (E : jE)  (s : hS) (l0 : Nat)  : Jo E M_X5_converse cvI 126 [(0, .ref l0)] [] s (f_X5_converse_b126  l0 s) := by
  unfold f_X5_converse_b126
  refine Jo_aloadn 0 dX5_converse_126 rfl rfl ?_
  refine Jo_dup dX5_converse_127 rfl ?_
  refine Jo_getI fF_5_6 fI_5_6 dX5_converse_128 w_189 (fun x1 => ?_)
  refine Jo_iconst (v := (1 : Int32)) dX5_converse_131 (by decide) ?_
  refine Jo_iadd dX5_converse_132 ?_
  refine Jo_putI fF_5_6 fI_5_6 (Or.inl rfl) rfl dX5_converse_133 w_189 (fun s2 => ?_)
  refine Jo_iconst (v := (1 : Int32)) dX5_converse_136 (by decide) ?_
  exact Jo_zret1 rfl dX5_converse_137
def f_X5_converse_b96 (l0 : Nat) (l1 : Int32) (l2 : Int32) (l3 : Int32) (s : hS) : Option (Int32 × hS) :=
  (f_X6_isOfKind s l1 (5 : Int32)).bind fun p1 =>
  if p1.1 = 0 then
    f_X5_converse_b126 l0 p1.2
  else
    (gR p1.2 l0 5 10).bind fun a2 =>
    (aI p1.2 a2 10 l3).bind fun x3 =>
    (cV p1.2 l0 5 (f_X5_learn p1.2 l0 l2 x3)).bind fun p4 =>
    (gR p4.2 l0 5 10).bind fun a5 =>
    (aI p4.2 a5 10 l2).bind fun x6 =>
    (cV p4.2 l0 5 (f_X5_learn p4.2 l0 l3 x6)).bind fun p7 =>
    f_X5_converse_b126 l0 p7.2
theorem b_X5_converse_96 (E : jE)  (s : hS) (l0 : Nat) (l1 : Int32) (l2 : Int32) (l3 : Int32)  : Jo E M_X5_converse cvI 96 [(0, .ref l0), (1, .int l1), (2, .int l2), (3, .int l3)] [] s (f_X5_converse_b96  l0 l1 l2 l3 s) := by
  unfold f_X5_converse_b96
  refine Jo_iloadn 1 dX5_converse_96 rfl rfl ?_
  refine Jo_iconst (v := (5 : Int32)) dX5_converse_97 (by decide) ?_
  refine Jo_callNi (rest := []) [.int l1, .int (5 : Int32)] yF_X6_isOfKind yS_X6_isOfKind nl_X6_isOfKind rfl rfl ⟨Nat.le_of_ble_eq_true rfl, Nat.le_of_ble_eq_true rfl, Nat.le_of_ble_eq_true rfl⟩ dX5_converse_98 rfl (K_X6_isOfKind E s l1 (5 : Int32)) (fun p1 => ?_)
  refine Jo_if_eq 126 dX5_converse_101 (by decide) rfl ?_ ?_
  · refine Jo_sub [0] rfl ?_
    exact b_X5_converse_126 E p1.2 l0
  · refine Jo_aloadn 0 dX5_converse_104 rfl rfl ?_
    refine Jo_iloadn 2 dX5_converse_105 rfl rfl ?_
    refine Jo_aloadn 0 dX5_converse_106 rfl rfl ?_
    refine Jo_getR fF_5_10 fR_5_10 dX5_converse_107 w_185 (fun a2 => ?_)
    refine Jo_iloadn 3 dX5_converse_110 rfl rfl ?_
    refine Jo_iaload dX5_converse_111 (fun x3 => ?_)
    refine Jo_callVv (a := l0) (rest := []) [.int l2, .int x3] cc_5 yF_X5_learn yV_X5_learn w_216 rfl rfl ⟨Nat.le_of_ble_eq_true rfl, Nat.le_of_ble_eq_true rfl, Nat.le_of_ble_eq_true rfl⟩ dX5_converse_112 rfl (K_X5_learn E p1.2 l0 l2 x3) (fun p4 => ?_)
    refine Jo_aloadn 0 dX5_converse_115 rfl rfl ?_
    refine Jo_iloadn 3 dX5_converse_116 rfl rfl ?_
    refine Jo_aloadn 0 dX5_converse_117 rfl rfl ?_
    refine Jo_getR fF_5_10 fR_5_10 dX5_converse_118 w_185 (fun a5 => ?_)
    refine Jo_iloadn 2 dX5_converse_121 rfl rfl ?_
    refine Jo_iaload dX5_converse_122 (fun x6 => ?_)
    refine Jo_callVv (a := l0) (rest := []) [.int l3, .int x6] cc_5 yF_X5_learn yV_X5_learn w_216 rfl rfl ⟨Nat.le_of_ble_eq_true rfl, Nat.le_of_ble_eq_true rfl, Nat.le_of_ble_eq_true rfl⟩ dX5_converse_123 rfl (K_X5_learn E p4.2 l0 l3 x6) (fun p7 => ?_)
    refine Jo_sub [0] rfl ?_
    exact b_X5_converse_126 E p7.2 l0
def f_X5_converse_b91 (l0 : Nat) (l1 : Int32) (l2 : Int32) (l3 : Int32) (l6 : Int32) (t0 : Nat) (t1 : Int32) (s : hS) : Option (Int32 × hS) :=
  (cV s t0 5 (f_X5_learn s t0 t1 l6)).bind fun p1 =>
  f_X5_converse_b96 l0 l1 l2 l3 p1.2
theorem b_X5_converse_91 (E : jE)  (s : hS) (l0 : Nat) (l1 : Int32) (l2 : Int32) (l3 : Int32) (l6 : Int32) (t0 : Nat) (t1 : Int32) : Jo E M_X5_converse cvI 91 [(0, .ref l0), (1, .int l1), (2, .int l2), (3, .int l3), (6, .int l6)] [.int t1, .ref t0] s (f_X5_converse_b91  l0 l1 l2 l3 l6 t0 t1 s) := by
  unfold f_X5_converse_b91
  refine Jo_iload 4 dX5_converse_91 rfl ?_
  refine Jo_callVv (a := t0) (rest := []) [.int t1, .int l6] cc_5 yF_X5_learn yV_X5_learn w_216 rfl rfl ⟨Nat.le_of_ble_eq_true rfl, Nat.le_of_ble_eq_true rfl, Nat.le_of_ble_eq_true rfl⟩ dX5_converse_93 rfl (K_X5_learn E s t0 t1 l6) (fun p1 => ?_)
  refine Jo_sub [0, 1, 2, 3] rfl ?_
  exact b_X5_converse_96 E p1.2 l0 l1 l2 l3
def f_X5_converse_b47 (l0 : Nat) (l1 : Int32) (l2 : Int32) (l3 : Int32) (l5 : Int32) (t0 : Int32) (s : hS) : Option (Int32 × hS) :=
  (cV s l0 5 (f_X5_learn s l0 l3 t0)).bind fun p1 =>
  (cV p1.2 l0 5 (f_X5_learn p1.2 l0 l2 ((1 : Int32) <<< (l5 &&& 31)))).bind fun p2 =>
  (f_X6_isOfKind p2.2 l1 (3 : Int32)).bind fun p3 =>
  if p3.1 = 0 then
    f_X5_converse_b96 l0 l1 l2 l3 p3.2
  else
    (gI p3.2 l0 5 1).bind fun x4 =>
    if x4 ≤ (l3 + (1 : Int32)) then
      f_X5_converse_b91 l0 l1 l2 l3 t0 l0 (0 : Int32) p3.2
    else
      f_X5_converse_b91 l0 l1 l2 l3 t0 l0 (l3 + (1 : Int32)) p3.2
theorem b_X5_converse_47 (E : jE)  (s : hS) (l0 : Nat) (l1 : Int32) (l2 : Int32) (l3 : Int32) (l5 : Int32) (t0 : Int32) : Jo E M_X5_converse cvI 47 [(0, .ref l0), (1, .int l1), (2, .int l2), (3, .int l3), (5, .int l5)] [.int t0] s (f_X5_converse_b47  l0 l1 l2 l3 l5 t0 s) := by
  unfold f_X5_converse_b47
  refine Jo_istore (ls' := [(6, .int t0), (0, .ref l0), (1, .int l1), (2, .int l2), (3, .int l3), (5, .int l5)]) dX5_converse_47 (by decide) rfl ?_
  refine Jo_aloadn 1 dX5_converse_49 rfl rfl ?_
  refine Jo_iloadn 4 dX5_converse_50 rfl rfl ?_
  refine Jo_iload 0 dX5_converse_51 rfl ?_
  refine Jo_callVv (a := l0) (rest := []) [.int l3, .int t0] cc_5 yF_X5_learn yV_X5_learn w_216 rfl rfl ⟨Nat.le_of_ble_eq_true rfl, Nat.le_of_ble_eq_true rfl, Nat.le_of_ble_eq_true rfl⟩ dX5_converse_53 rfl (K_X5_learn E s l0 l3 t0) (fun p1 => ?_)
  refine Jo_aloadn 1 dX5_converse_56 rfl rfl ?_
  refine Jo_iloadn 3 dX5_converse_57 rfl rfl ?_
  refine Jo_iconst (v := (1 : Int32)) dX5_converse_58 (by decide) ?_
  refine Jo_iload 5 dX5_converse_59 rfl ?_
  refine Jo_ishl dX5_converse_61 ?_
  refine Jo_callVv (a := l0) (rest := []) [.int l2, .int ((1 : Int32) <<< (l5 &&& 31))] cc_5 yF_X5_learn yV_X5_learn w_216 rfl rfl ⟨Nat.le_of_ble_eq_true rfl, Nat.le_of_ble_eq_true rfl, Nat.le_of_ble_eq_true rfl⟩ dX5_converse_62 rfl (K_X5_learn E p1.2 l0 l2 ((1 : Int32) <<< (l5 &&& 31))) (fun p2 => ?_)
  refine Jo_iloadn 2 dX5_converse_65 rfl rfl ?_
  refine Jo_iconst (v := (3 : Int32)) dX5_converse_66 (by decide) ?_
  refine Jo_callNi (rest := []) [.int l1, .int (3 : Int32)] yF_X6_isOfKind yS_X6_isOfKind nl_X6_isOfKind rfl rfl ⟨Nat.le_of_ble_eq_true rfl, Nat.le_of_ble_eq_true rfl, Nat.le_of_ble_eq_true rfl⟩ dX5_converse_67 rfl (K_X6_isOfKind E p2.2 l1 (3 : Int32)) (fun p3 => ?_)
  refine Jo_if_eq 96 dX5_converse_70 (by decide) rfl ?_ ?_
  · refine Jo_sub [1, 2, 3, 4] rfl ?_
    exact b_X5_converse_96 E p3.2 l0 l1 l2 l3
  · refine Jo_aloadn 1 dX5_converse_73 rfl rfl ?_
    refine Jo_iloadn 4 dX5_converse_74 rfl rfl ?_
    refine Jo_iconst (v := (1 : Int32)) dX5_converse_75 (by decide) ?_
    refine Jo_iadd dX5_converse_76 ?_
    refine Jo_aloadn 1 dX5_converse_77 rfl rfl ?_
    refine Jo_getI fF_5_1 fI_5_1 dX5_converse_78 w_194 (fun x4 => ?_)
    refine Jo_icmp_ge 90 dX5_converse_81 (by decide) rfl ?_ ?_
    · refine Jo_iconst (v := (0 : Int32)) dX5_converse_90 (by decide) ?_
      refine Jo_sub [1, 2, 3, 4, 0] rfl ?_
      exact b_X5_converse_91 E p3.2 l0 l1 l2 l3 t0 l0 (0 : Int32)
    · refine Jo_iloadn 4 dX5_converse_84 rfl rfl ?_
      refine Jo_iconst (v := (1 : Int32)) dX5_converse_85 (by decide) ?_
      refine Jo_iadd dX5_converse_86 ?_
      refine Jo_goto 91 dX5_converse_87 (by decide) ?_
      refine Jo_sub [1, 2, 3, 4, 0] rfl ?_
      exact b_X5_converse_91 E p3.2 l0 l1 l2 l3 t0 l0 (l3 + (1 : Int32))
def f_X5_converse (s : hS) (a0 : Nat) (i1 : Int32) (i2 : Int32) (i3 : Int32) : Option (Int32 × hS) :=
  (cV s a0 5 (f_X5_givenOf s a0 i1 i2 i3)).bind fun p1 =>
  (cV p1.2 a0 5 (f_X5_gotOf p1.2 a0 i1 i2 i3 p1.1)).bind fun p2 =>
  (f_X6_goes p2.2 i1 p1.1 p2.1).bind fun p3 =>
  if p3.1 = 0 then
    some ((0 : Int32), p3.2)
  else
    if p1.1 = (-1 : Int32) then
      f_X5_converse_b47 a0 i1 i2 i3 p2.1 (0 : Int32) p3.2
    else
      f_X5_converse_b47 a0 i1 i2 i3 p2.1 ((1 : Int32) <<< (p1.1 &&& 31)) p3.2
theorem b_X5_converse_in (E : jE)  (s : hS) (a0 : Nat) (i1 : Int32) (i2 : Int32) (i3 : Int32)  : Jo E M_X5_converse cvI 0 [(0, .ref a0), (1, .int i1), (2, .int i2), (3, .int i3)] [] s (f_X5_converse s a0 i1 i2 i3) := by
  unfold f_X5_converse
  refine Jo_aloadn 0 dX5_converse_0 rfl rfl ?_
  refine Jo_iloadn 1 dX5_converse_1 rfl rfl ?_
  refine Jo_iloadn 2 dX5_converse_2 rfl rfl ?_
  refine Jo_iloadn 3 dX5_converse_3 rfl rfl ?_
  refine Jo_callVi (a := a0) (rest := []) [.int i1, .int i2, .int i3] cc_5 yF_X5_givenOf yV_X5_givenOf w_307 rfl rfl ⟨Nat.le_of_ble_eq_true rfl, Nat.le_of_ble_eq_true rfl, Nat.le_of_ble_eq_true rfl⟩ dX5_converse_4 rfl (K_X5_givenOf E s a0 i1 i2 i3) (fun p1 => ?_)
  refine Jo_istore (ls' := [(4, .int p1.1), (0, .ref a0), (1, .int i1), (2, .int i2), (3, .int i3)]) dX5_converse_7 (by decide) rfl ?_
  refine Jo_aloadn 1 dX5_converse_9 rfl rfl ?_
  refine Jo_iloadn 2 dX5_converse_10 rfl rfl ?_
  refine Jo_iloadn 3 dX5_converse_11 rfl rfl ?_
  refine Jo_iloadn 4 dX5_converse_12 rfl rfl ?_
  refine Jo_iload 0 dX5_converse_13 rfl ?_
  refine Jo_callVi (a := a0) (rest := []) [.int i1, .int i2, .int i3, .int p1.1] cc_5 yF_X5_gotOf yV_X5_gotOf w_306 rfl rfl ⟨Nat.le_of_ble_eq_true rfl, Nat.le_of_ble_eq_true rfl, Nat.le_of_ble_eq_true rfl⟩ dX5_converse_15 rfl (K_X5_gotOf E p1.2 a0 i1 i2 i3 p1.1) (fun p2 => ?_)
  refine Jo_istore (ls' := [(5, .int p2.1), (4, .int p1.1), (0, .ref a0), (1, .int i1), (2, .int i2), (3, .int i3)]) dX5_converse_18 (by decide) rfl ?_
  refine Jo_iloadn 3 dX5_converse_20 rfl rfl ?_
  refine Jo_iload 1 dX5_converse_21 rfl ?_
  refine Jo_iload 0 dX5_converse_23 rfl ?_
  refine Jo_callNi (rest := []) [.int i1, .int p1.1, .int p2.1] yF_X6_goes yS_X6_goes nl_X6_goes rfl rfl ⟨Nat.le_of_ble_eq_true rfl, Nat.le_of_ble_eq_true rfl, Nat.le_of_ble_eq_true rfl⟩ dX5_converse_25 rfl (K_X6_goes E p2.2 i1 p1.1 p2.1) (fun p3 => ?_)
  refine Jo_if_ne 33 dX5_converse_28 (by decide) rfl ?_ ?_
  · refine Jo_iconst (v := (0 : Int32)) dX5_converse_31 (by decide) ?_
    exact Jo_zret0 rfl dX5_converse_32
  · refine Jo_iload 1 dX5_converse_33 rfl ?_
    refine Jo_iconst (v := (-1 : Int32)) dX5_converse_35 (by decide) ?_
    refine Jo_icmp_ne 43 dX5_converse_36 (by decide) rfl ?_ ?_
    · refine Jo_iconst (v := (0 : Int32)) dX5_converse_39 (by decide) ?_
      refine Jo_goto 47 dX5_converse_40 (by decide) ?_
      refine Jo_sub [2, 3, 4, 5, 0] rfl ?_
      exact b_X5_converse_47 E p3.2 a0 i1 i2 i3 p2.1 (0 : Int32)
    · refine Jo_iconst (v := (1 : Int32)) dX5_converse_43 (by decide) ?_
      refine Jo_iload 1 dX5_converse_44 rfl ?_
      refine Jo_ishl dX5_converse_46 ?_
      refine Jo_sub [2, 3, 4, 5, 0] rfl ?_
      exact b_X5_converse_47 E p3.2 a0 i1 i2 i3 p2.1 ((1 : Int32) <<< (p1.1 &&& 31))
theorem K_X5_converse (E : jE) (s : hS) (a0 : Nat) (i1 : Int32) (i2 : Int32) (i3 : Int32) : jK E yX5_converse M_X5_converse cvI [.ref a0, .int i1, .int i2, .int i3] s (f_X5_converse s a0 i1 i2 i3) := jK_of ⟨by decide, rfl, rfl⟩ (Nat.le_of_ble_eq_true rfl) (b_X5_converse_in E s a0 i1 i2 i3)
