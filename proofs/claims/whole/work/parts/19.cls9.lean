/-! HeronTalk$Town.goRound()I -/
abbrev M_X5_goRound : jM := (RX5, cX5_goRound, 3, (some .int), "goRound", 6, 149)
theorem yF_X5_goRound : yF yX5_goRound M_X5_goRound 0 := ⟨w_318, w_198, by decide +kernel⟩
theorem yV_X5_goRound : Cond.instanceMethod yX5_goRound ∈ tbG ∧ Cond.selects yX5_goRound.cls yX5_goRound yX5_goRound ∈ tbG := ⟨w_319, w_320⟩
theorem dX5_goRound_0 : dI cX5_goRound 0 1 (.iconst 0) 1 := ⟨by decide +kernel, rfl⟩
theorem dX5_goRound_1 : dI cX5_goRound 1 2 (.istore_n 1) 1 := ⟨by decide +kernel, rfl⟩
theorem dX5_goRound_2 : dI cX5_goRound 2 3 (.iconst 0) 1 := ⟨by decide +kernel, rfl⟩
theorem dX5_goRound_3 : dI cX5_goRound 3 4 (.istore_n 2) 1 := ⟨by decide +kernel, rfl⟩
theorem dX5_goRound_4 : dI cX5_goRound 4 5 (.iload_n 2) 1 := ⟨by decide +kernel, rfl⟩
theorem dX5_goRound_5 : dI cX5_goRound 5 6 (.aload_n 0) 1 := ⟨by decide +kernel, rfl⟩
theorem dX5_goRound_6 : dI cX5_goRound 6 9 (.getfield 21) 3 := ⟨by decide +kernel, rfl⟩
theorem dX5_goRound_9 : decode cX5_goRound 9 = .ok (.if_icmp .ge 37, 3) := by decide +kernel
theorem dX5_goRound_12 : dI cX5_goRound 12 13 (.aload_n 0) 1 := ⟨by decide +kernel, rfl⟩
theorem dX5_goRound_13 : dI cX5_goRound 13 14 (.aload_n 0) 1 := ⟨by decide +kernel, rfl⟩
theorem dX5_goRound_14 : dI cX5_goRound 14 17 (.getfield 55) 3 := ⟨by decide +kernel, rfl⟩
theorem dX5_goRound_17 : dI cX5_goRound 17 18 (.iload_n 2) 1 := ⟨by decide +kernel, rfl⟩
theorem dX5_goRound_18 : dI cX5_goRound 18 19 (.iaload) 1 := ⟨by decide +kernel, rfl⟩
theorem dX5_goRound_19 : dI cX5_goRound 19 20 (.aload_n 0) 1 := ⟨by decide +kernel, rfl⟩
theorem dX5_goRound_20 : dI cX5_goRound 20 23 (.getfield 58) 3 := ⟨by decide +kernel, rfl⟩
theorem dX5_goRound_23 : dI cX5_goRound 23 24 (.iload_n 2) 1 := ⟨by decide +kernel, rfl⟩
theorem dX5_goRound_24 : dI cX5_goRound 24 25 (.iaload) 1 := ⟨by decide +kernel, rfl⟩
theorem dX5_goRound_25 : dI cX5_goRound 25 26 (.aload_n 0) 1 := ⟨by decide +kernel, rfl⟩
theorem dX5_goRound_26 : dI cX5_goRound 26 29 (.getfield 61) 3 := ⟨by decide +kernel, rfl⟩
theorem dX5_goRound_29 : dI cX5_goRound 29 30 (.iload_n 2) 1 := ⟨by decide +kernel, rfl⟩
theorem dX5_goRound_30 : dI cX5_goRound 30 31 (.iaload) 1 := ⟨by decide +kernel, rfl⟩
theorem dX5_goRound_31 : decode cX5_goRound 31 = .ok (.invokevirtual 144, 3) := by decide +kernel
theorem dX5_goRound_34 : decode cX5_goRound 34 = .ok (.ifCond .eq 6, 3) := by decide +kernel
theorem dX5_goRound_37 : dI cX5_goRound 37 40 (.iinc 1 1) 3 := ⟨by decide +kernel, rfl⟩
theorem dX5_goRound_40 : dI cX5_goRound 40 43 (.iinc 2 1) 3 := ⟨by decide +kernel, rfl⟩
theorem dX5_goRound_43 : decode cX5_goRound 43 = .ok (.goto (-39), 3) := by decide +kernel
theorem dX5_goRound_46 : dI cX5_goRound 46 47 (.aload_n 0) 1 := ⟨by decide +kernel, rfl⟩
theorem dX5_goRound_47 : dI cX5_goRound 47 48 (.dup) 1 := ⟨by decide +kernel, rfl⟩
theorem dX5_goRound_48 : dI cX5_goRound 48 51 (.getfield 27) 3 := ⟨by decide +kernel, rfl⟩
theorem dX5_goRound_51 : dI cX5_goRound 51 52 (.iconst 1) 1 := ⟨by decide +kernel, rfl⟩
theorem dX5_goRound_52 : dI cX5_goRound 52 53 (.iadd) 1 := ⟨by decide +kernel, rfl⟩
theorem dX5_goRound_53 : dI cX5_goRound 53 56 (.putfield 27) 3 := ⟨by decide +kernel, rfl⟩
theorem dX5_goRound_56 : dI cX5_goRound 56 57 (.iload_n 1) 1 := ⟨by decide +kernel, rfl⟩
theorem dX5_goRound_57 : dI cX5_goRound 57 58 (.ireturn) 1 := ⟨by decide +kernel, rfl⟩
def f_X5_goRound_b40 (k4 : Nat → Int32 → Int32 → hS → Option (Int32 × hS)) (l0 : Nat) (l1 : Int32) (l2 : Int32) (s : hS) : Option (Int32 × hS) :=
  k4 l0 l1 (l2 + (1 : Int32)) s
theorem b_X5_goRound_40 (E : jE) (k4 : Nat → Int32 → Int32 → hS → Option (Int32 × hS)) (h4 : ∀ (s : hS) (l0 : Nat) (l1 : Int32) (l2 : Int32) , Jo E M_X5_goRound cvI 4 [(0, .ref l0), (1, .int l1), (2, .int l2)] [] s (k4 l0 l1 l2 s)) (s : hS) (l0 : Nat) (l1 : Int32) (l2 : Int32)  : Jo E M_X5_goRound cvI 40 [(0, .ref l0), (1, .int l1), (2, .int l2)] [] s (f_X5_goRound_b40 k4 l0 l1 l2 s) := by
  unfold f_X5_goRound_b40
  refine Jo_iinc (v := (l2 + (1 : Int32))) (ls' := [(2, .int (l2 + (1 : Int32))), (0, .ref l0), (1, .int l1)]) 2 dX5_goRound_40 rfl rfl (by decide) rfl ?_
  refine Jo_goto 4 dX5_goRound_43 (by decide) ?_
  refine Jo_sub [1, 2, 0] rfl ?_
  exact h4 s l0 l1 (l2 + (1 : Int32))
def f_X5_goRound_b4 (k4 : Nat → Int32 → Int32 → hS → Option (Int32 × hS)) (l0 : Nat) (l1 : Int32) (l2 : Int32) (s : hS) : Option (Int32 × hS) :=
  (gI s l0 5 3).bind fun x1 =>
  if x1 ≤ l2 then
    (gI s l0 5 5).bind fun x2 =>
    (pI s l0 5 5 (x2 + (1 : Int32))).bind fun s3 =>
    some (l1, s3)
  else
    (gR s l0 5 14).bind fun a4 =>
    (aI s a4 10 l2).bind fun x5 =>
    (gR s l0 5 15).bind fun a6 =>
    (aI s a6 10 l2).bind fun x7 =>
    (gR s l0 5 16).bind fun a8 =>
    (aI s a8 10 l2).bind fun x9 =>
    (cV s l0 5 (f_X5_converse s l0 x5 x7 x9)).bind fun p10 =>
    if p10.1 = 0 then
      f_X5_goRound_b40 k4 l0 l1 l2 p10.2
    else
      f_X5_goRound_b40 k4 l0 (l1 + (1 : Int32)) l2 p10.2
theorem b_X5_goRound_4 (E : jE) (k4 : Nat → Int32 → Int32 → hS → Option (Int32 × hS)) (h4 : ∀ (s : hS) (l0 : Nat) (l1 : Int32) (l2 : Int32) , Jo E M_X5_goRound cvI 4 [(0, .ref l0), (1, .int l1), (2, .int l2)] [] s (k4 l0 l1 l2 s)) (s : hS) (l0 : Nat) (l1 : Int32) (l2 : Int32)  : Jo E M_X5_goRound cvI 4 [(0, .ref l0), (1, .int l1), (2, .int l2)] [] s (f_X5_goRound_b4 k4 l0 l1 l2 s) := by
  unfold f_X5_goRound_b4
  refine Jo_iloadn 2 dX5_goRound_4 rfl rfl ?_
  refine Jo_aloadn 0 dX5_goRound_5 rfl rfl ?_
  refine Jo_getI fF_5_3 fI_5_3 dX5_goRound_6 w_192 (fun x1 => ?_)
  refine Jo_icmp_ge 46 dX5_goRound_9 (by decide) rfl ?_ ?_
  · refine Jo_aloadn 0 dX5_goRound_46 rfl rfl ?_
    refine Jo_dup dX5_goRound_47 rfl ?_
    refine Jo_getI fF_5_5 fI_5_5 dX5_goRound_48 w_190 (fun x2 => ?_)
    refine Jo_iconst (v := (1 : Int32)) dX5_goRound_51 (by decide) ?_
    refine Jo_iadd dX5_goRound_52 ?_
    refine Jo_putI fF_5_5 fI_5_5 (Or.inl rfl) rfl dX5_goRound_53 w_190 (fun s3 => ?_)
    refine Jo_iloadn 1 dX5_goRound_56 rfl rfl ?_
    exact Jo_iret rfl dX5_goRound_57
  · refine Jo_aloadn 0 dX5_goRound_12 rfl rfl ?_
    refine Jo_aloadn 0 dX5_goRound_13 rfl rfl ?_
    refine Jo_getR fF_5_14 fR_5_14 dX5_goRound_14 w_181 (fun a4 => ?_)
    refine Jo_iloadn 2 dX5_goRound_17 rfl rfl ?_
    refine Jo_iaload dX5_goRound_18 (fun x5 => ?_)
    refine Jo_aloadn 0 dX5_goRound_19 rfl rfl ?_
    refine Jo_getR fF_5_15 fR_5_15 dX5_goRound_20 w_180 (fun a6 => ?_)
    refine Jo_iloadn 2 dX5_goRound_23 rfl rfl ?_
    refine Jo_iaload dX5_goRound_24 (fun x7 => ?_)
    refine Jo_aloadn 0 dX5_goRound_25 rfl rfl ?_
    refine Jo_getR fF_5_16 fR_5_16 dX5_goRound_26 w_179 (fun a8 => ?_)
    refine Jo_iloadn 2 dX5_goRound_29 rfl rfl ?_
    refine Jo_iaload dX5_goRound_30 (fun x9 => ?_)
    refine Jo_callVi (a := l0) (rest := []) [.int x5, .int x7, .int x9] cc_5 yF_X5_converse yV_X5_converse w_317 rfl rfl ⟨Nat.le_of_ble_eq_true rfl, Nat.le_of_ble_eq_true rfl, Nat.le_of_ble_eq_true rfl⟩ dX5_goRound_31 rfl (K_X5_converse E s l0 x5 x7 x9) (fun p10 => ?_)
    refine Jo_if_eq 40 dX5_goRound_34 (by decide) rfl ?_ ?_
    · exact b_X5_goRound_40 E k4 h4 p10.2 l0 l1 l2
    · refine Jo_iinc (v := (l1 + (1 : Int32))) (ls' := [(1, .int (l1 + (1 : Int32))), (0, .ref l0), (2, .int l2)]) 1 dX5_goRound_37 rfl rfl (by decide) rfl ?_
      refine Jo_sub [1, 0, 2] rfl ?_
      exact b_X5_goRound_40 E k4 h4 p10.2 l0 (l1 + (1 : Int32)) l2
theorem e_X5_goRound_4 (E : jE)  (n : Nat) : ∀ (s : hS) (l0 : Nat) (l1 : Int32) (l2 : Int32) , Jo E M_X5_goRound cvI 4 [(0, .ref l0), (1, .int l1), (2, .int l2)] [] s ((jL f_X5_goRound_b4 (fun _ _ _ _ => none) n) l0 l1 l2 s) :=
  jL_ind (P := fun f => ∀ (s : hS) (l0 : Nat) (l1 : Int32) (l2 : Int32) , Jo E M_X5_goRound cvI 4 [(0, .ref l0), (1, .int l1), (2, .int l2)] [] s (f l0 l1 l2 s)) (fun _ _ _ _ => Jo_none) (fun b hb s l0 l1 l2 => b_X5_goRound_4 E  b hb s l0 l1 l2) n
def f_X5_goRound (s : hS) (a0 : Nat) : Option (Int32 × hS) :=
  jL f_X5_goRound_b4 (fun _ _ _ _ => none) jF a0 (0 : Int32) (0 : Int32) s
theorem b_X5_goRound_in (E : jE)  (s : hS) (a0 : Nat)  : Jo E M_X5_goRound cvI 0 [(0, .ref a0)] [] s (f_X5_goRound s a0) := by
  unfold f_X5_goRound
  refine Jo_iconst (v := (0 : Int32)) dX5_goRound_0 (by decide) ?_
  refine Jo_istoren (ls' := [(1, .int (0 : Int32)), (0, .ref a0)]) dX5_goRound_1 rfl (by decide) rfl ?_
  refine Jo_iconst (v := (0 : Int32)) dX5_goRound_2 (by decide) ?_
  refine Jo_istoren (ls' := [(2, .int (0 : Int32)), (1, .int (0 : Int32)), (0, .ref a0)]) dX5_goRound_3 rfl (by decide) rfl ?_
  refine Jo_sub [2, 1, 0] rfl ?_
  exact e_X5_goRound_4 E jF s a0 (0 : Int32) (0 : Int32)
theorem K_X5_goRound (E : jE) (s : hS) (a0 : Nat) : jK E yX5_goRound M_X5_goRound cvI [.ref a0] s (f_X5_goRound s a0) := jK_of ⟨by decide, rfl, rfl⟩ (Nat.le_of_ble_eq_true rfl) (b_X5_goRound_in E s a0)
/-! HeronTalk$Town.pricesForOthers(I)I -/
abbrev M_X5_pricesForOthers : jM := (RX5, cX5_pricesForOthers, 4, (some .int), "pricesForOthers", 3, 68)
theorem yF_X5_pricesForOthers : yF yX5_pricesForOthers M_X5_pricesForOthers 1 := ⟨w_321, w_198, by decide +kernel⟩
theorem yV_X5_pricesForOthers : Cond.instanceMethod yX5_pricesForOthers ∈ tbG ∧ Cond.selects yX5_pricesForOthers.cls yX5_pricesForOthers yX5_pricesForOthers ∈ tbG := ⟨w_322, w_323⟩
theorem dX5_pricesForOthers_0 : dI cX5_pricesForOthers 0 1 (.iconst 0) 1 := ⟨by decide +kernel, rfl⟩
theorem dX5_pricesForOthers_1 : dI cX5_pricesForOthers 1 2 (.istore_n 2) 1 := ⟨by decide +kernel, rfl⟩
theorem dX5_pricesForOthers_2 : dI cX5_pricesForOthers 2 3 (.iconst 0) 1 := ⟨by decide +kernel, rfl⟩
theorem dX5_pricesForOthers_3 : dI cX5_pricesForOthers 3 4 (.istore_n 3) 1 := ⟨by decide +kernel, rfl⟩
theorem dX5_pricesForOthers_4 : dI cX5_pricesForOthers 4 5 (.iload_n 3) 1 := ⟨by decide +kernel, rfl⟩
theorem dX5_pricesForOthers_5 : dI cX5_pricesForOthers 5 6 (.aload_n 0) 1 := ⟨by decide +kernel, rfl⟩
theorem dX5_pricesForOthers_6 : dI cX5_pricesForOthers 6 9 (.getfield 15) 3 := ⟨by decide +kernel, rfl⟩
theorem dX5_pricesForOthers_9 : decode cX5_pricesForOthers 9 = .ok (.if_icmp .ge 27, 3) := by decide +kernel
theorem dX5_pricesForOthers_12 : dI cX5_pricesForOthers 12 13 (.aload_n 0) 1 := ⟨by decide +kernel, rfl⟩
theorem dX5_pricesForOthers_13 : dI cX5_pricesForOthers 13 14 (.iload_n 3) 1 := ⟨by decide +kernel, rfl⟩
theorem dX5_pricesForOthers_14 : dI cX5_pricesForOthers 14 15 (.iload_n 1) 1 := ⟨by decide +kernel, rfl⟩
theorem dX5_pricesForOthers_15 : decode cX5_pricesForOthers 15 = .ok (.invokevirtual 78, 3) := by decide +kernel
theorem dX5_pricesForOthers_18 : decode cX5_pricesForOthers 18 = .ok (.ifCond .ne 12, 3) := by decide +kernel
theorem dX5_pricesForOthers_21 : dI cX5_pricesForOthers 21 22 (.iload_n 2) 1 := ⟨by decide +kernel, rfl⟩
theorem dX5_pricesForOthers_22 : dI cX5_pricesForOthers 22 23 (.aload_n 0) 1 := ⟨by decide +kernel, rfl⟩
theorem dX5_pricesForOthers_23 : dI cX5_pricesForOthers 23 24 (.iload_n 1) 1 := ⟨by decide +kernel, rfl⟩
theorem dX5_pricesForOthers_24 : dI cX5_pricesForOthers 24 25 (.iload_n 3) 1 := ⟨by decide +kernel, rfl⟩
theorem dX5_pricesForOthers_25 : decode cX5_pricesForOthers 25 = .ok (.invokevirtual 122, 3) := by decide +kernel
theorem dX5_pricesForOthers_28 : dI cX5_pricesForOthers 28 29 (.iadd) 1 := ⟨by decide +kernel, rfl⟩
theorem dX5_pricesForOthers_29 : dI cX5_pricesForOthers 29 30 (.istore_n 2) 1 := ⟨by decide +kernel, rfl⟩
theorem dX5_pricesForOthers_30 : dI cX5_pricesForOthers 30 33 (.iinc 3 1) 3 := ⟨by decide +kernel, rfl⟩
theorem dX5_pricesForOthers_33 : decode cX5_pricesForOthers 33 = .ok (.goto (-29), 3) := by decide +kernel
theorem dX5_pricesForOthers_36 : dI cX5_pricesForOthers 36 37 (.iload_n 2) 1 := ⟨by decide +kernel, rfl⟩
theorem dX5_pricesForOthers_37 : dI cX5_pricesForOthers 37 38 (.ireturn) 1 := ⟨by decide +kernel, rfl⟩
def f_X5_pricesForOthers_b30 (k4 : Nat → Int32 → Int32 → Int32 → hS → Option (Int32 × hS)) (l0 : Nat) (l1 : Int32) (l2 : Int32) (l3 : Int32) (s : hS) : Option (Int32 × hS) :=
  k4 l0 l1 l2 (l3 + (1 : Int32)) s
theorem b_X5_pricesForOthers_30 (E : jE) (k4 : Nat → Int32 → Int32 → Int32 → hS → Option (Int32 × hS)) (h4 : ∀ (s : hS) (l0 : Nat) (l1 : Int32) (l2 : Int32) (l3 : Int32) , Jo E M_X5_pricesForOthers cvI 4 [(0, .ref l0), (1, .int l1), (2, .int l2), (3, .int l3)] [] s (k4 l0 l1 l2 l3 s)) (s : hS) (l0 : Nat) (l1 : Int32) (l2 : Int32) (l3 : Int32)  : Jo E M_X5_pricesForOthers cvI 30 [(0, .ref l0), (1, .int l1), (2, .int l2), (3, .int l3)] [] s (f_X5_pricesForOthers_b30 k4 l0 l1 l2 l3 s) := by
  unfold f_X5_pricesForOthers_b30
  refine Jo_iinc (v := (l3 + (1 : Int32))) (ls' := [(3, .int (l3 + (1 : Int32))), (0, .ref l0), (1, .int l1), (2, .int l2)]) 3 dX5_pricesForOthers_30 rfl rfl (by decide) rfl ?_
  refine Jo_goto 4 dX5_pricesForOthers_33 (by decide) ?_
  refine Jo_sub [1, 2, 3, 0] rfl ?_
  exact h4 s l0 l1 l2 (l3 + (1 : Int32))
def f_X5_pricesForOthers_b4 (k4 : Nat → Int32 → Int32 → Int32 → hS → Option (Int32 × hS)) (l0 : Nat) (l1 : Int32) (l2 : Int32) (l3 : Int32) (s : hS) : Option (Int32 × hS) :=
  (gI s l0 5 1).bind fun x1 =>
  if x1 ≤ l3 then
    some (l2, s)
  else
    (cV s l0 5 (f_X5_isKnown s l0 l3 l1)).bind fun p2 =>
    if p2.1 = 0 then
      (cV p2.2 l0 5 (f_X5_priceOf p2.2 l0 l1 l3)).bind fun p3 =>
      nmv ((l2 + p3.1)) fun x4 =>
      f_X5_pricesForOthers_b30 k4 l0 l1 x4 l3 p3.2
    else
      f_X5_pricesForOthers_b30 k4 l0 l1 l2 l3 p2.2
theorem b_X5_pricesForOthers_4 (E : jE) (k4 : Nat → Int32 → Int32 → Int32 → hS → Option (Int32 × hS)) (h4 : ∀ (s : hS) (l0 : Nat) (l1 : Int32) (l2 : Int32) (l3 : Int32) , Jo E M_X5_pricesForOthers cvI 4 [(0, .ref l0), (1, .int l1), (2, .int l2), (3, .int l3)] [] s (k4 l0 l1 l2 l3 s)) (s : hS) (l0 : Nat) (l1 : Int32) (l2 : Int32) (l3 : Int32)  : Jo E M_X5_pricesForOthers cvI 4 [(0, .ref l0), (1, .int l1), (2, .int l2), (3, .int l3)] [] s (f_X5_pricesForOthers_b4 k4 l0 l1 l2 l3 s) := by
  unfold f_X5_pricesForOthers_b4
  refine Jo_iloadn 3 dX5_pricesForOthers_4 rfl rfl ?_
  refine Jo_aloadn 0 dX5_pricesForOthers_5 rfl rfl ?_
  refine Jo_getI fF_5_1 fI_5_1 dX5_pricesForOthers_6 w_194 (fun x1 => ?_)
  refine Jo_icmp_ge 36 dX5_pricesForOthers_9 (by decide) rfl ?_ ?_
  · refine Jo_iloadn 2 dX5_pricesForOthers_36 rfl rfl ?_
    exact Jo_iret rfl dX5_pricesForOthers_37
  · refine Jo_aloadn 0 dX5_pricesForOthers_12 rfl rfl ?_
    refine Jo_iloadn 3 dX5_pricesForOthers_13 rfl rfl ?_
    refine Jo_iloadn 1 dX5_pricesForOthers_14 rfl rfl ?_
    refine Jo_callVi (a := l0) (rest := []) [.int l3, .int l1] cc_5 yF_X5_isKnown yV_X5_isKnown w_239 rfl rfl ⟨Nat.le_of_ble_eq_true rfl, Nat.le_of_ble_eq_true rfl, Nat.le_of_ble_eq_true rfl⟩ dX5_pricesForOthers_15 rfl (K_X5_isKnown E s l0 l3 l1) (fun p2 => ?_)
    refine Jo_if_ne 30 dX5_pricesForOthers_18 (by decide) rfl ?_ ?_
    · refine Jo_iloadn 2 dX5_pricesForOthers_21 rfl rfl ?_
      refine Jo_aloadn 0 dX5_pricesForOthers_22 rfl rfl ?_
      refine Jo_iloadn 1 dX5_pricesForOthers_23 rfl rfl ?_
      refine Jo_iloadn 3 dX5_pricesForOthers_24 rfl rfl ?_
      refine Jo_callVi (a := l0) (rest := [.int l2]) [.int l1, .int l3] cc_5 yF_X5_priceOf yV_X5_priceOf w_292 rfl rfl ⟨Nat.le_of_ble_eq_true rfl, Nat.le_of_ble_eq_true rfl, Nat.le_of_ble_eq_true rfl⟩ dX5_pricesForOthers_25 rfl (K_X5_priceOf E p2.2 l0 l1 l3) (fun p3 => ?_)
      refine Jo_iadd dX5_pricesForOthers_28 ?_
      refine Jo_nm (fun x4 => ?_)
      refine Jo_istoren (ls' := [(2, .int x4), (0, .ref l0), (1, .int l1), (3, .int l3)]) dX5_pricesForOthers_29 rfl (by decide) rfl ?_
      refine Jo_sub [1, 2, 0, 3] rfl ?_
      exact b_X5_pricesForOthers_30 E k4 h4 p3.2 l0 l1 x4 l3
    · exact b_X5_pricesForOthers_30 E k4 h4 p2.2 l0 l1 l2 l3
theorem e_X5_pricesForOthers_4 (E : jE)  (n : Nat) : ∀ (s : hS) (l0 : Nat) (l1 : Int32) (l2 : Int32) (l3 : Int32) , Jo E M_X5_pricesForOthers cvI 4 [(0, .ref l0), (1, .int l1), (2, .int l2), (3, .int l3)] [] s ((jL f_X5_pricesForOthers_b4 (fun _ _ _ _ _ => none) n) l0 l1 l2 l3 s) :=
  jL_ind (P := fun f => ∀ (s : hS) (l0 : Nat) (l1 : Int32) (l2 : Int32) (l3 : Int32) , Jo E M_X5_pricesForOthers cvI 4 [(0, .ref l0), (1, .int l1), (2, .int l2), (3, .int l3)] [] s (f l0 l1 l2 l3 s)) (fun _ _ _ _ _ => Jo_none) (fun b hb s l0 l1 l2 l3 => b_X5_pricesForOthers_4 E  b hb s l0 l1 l2 l3) n
def f_X5_pricesForOthers (s : hS) (a0 : Nat) (i1 : Int32) : Option (Int32 × hS) :=
  jL f_X5_pricesForOthers_b4 (fun _ _ _ _ _ => none) jF a0 i1 (0 : Int32) (0 : Int32) s
theorem b_X5_pricesForOthers_in (E : jE)  (s : hS) (a0 : Nat) (i1 : Int32)  : Jo E M_X5_pricesForOthers cvI 0 [(0, .ref a0), (1, .int i1)] [] s (f_X5_pricesForOthers s a0 i1) := by
  unfold f_X5_pricesForOthers
  refine Jo_iconst (v := (0 : Int32)) dX5_pricesForOthers_0 (by decide) ?_
  refine Jo_istoren (ls' := [(2, .int (0 : Int32)), (0, .ref a0), (1, .int i1)]) dX5_pricesForOthers_1 rfl (by decide) rfl ?_
  refine Jo_iconst (v := (0 : Int32)) dX5_pricesForOthers_2 (by decide) ?_
  refine Jo_istoren (ls' := [(3, .int (0 : Int32)), (2, .int (0 : Int32)), (0, .ref a0), (1, .int i1)]) dX5_pricesForOthers_3 rfl (by decide) rfl ?_
  refine Jo_sub [2, 3, 1, 0] rfl ?_
  exact e_X5_pricesForOthers_4 E jF s a0 i1 (0 : Int32) (0 : Int32)
theorem K_X5_pricesForOthers (E : jE) (s : hS) (a0 : Nat) (i1 : Int32) : jK E yX5_pricesForOthers M_X5_pricesForOthers cvI [.ref a0, .int i1] s (f_X5_pricesForOthers s a0 i1) := jK_of ⟨by decide, rfl, rfl⟩ (Nat.le_of_ble_eq_true rfl) (b_X5_pricesForOthers_in E s a0 i1)
/-! HeronTalk$Town.bestToKeep(I)I -/
abbrev M_X5_bestToKeep : jM := (RX5, cX5_bestToKeep, 7, (some .int), "bestToKeep", 4, 91)
theorem yF_X5_bestToKeep : yF yX5_bestToKeep M_X5_bestToKeep 1 := ⟨w_325, w_198, by decide +kernel⟩
theorem yV_X5_bestToKeep : Cond.instanceMethod yX5_bestToKeep ∈ tbG ∧ Cond.selects yX5_bestToKeep.cls yX5_bestToKeep yX5_bestToKeep ∈ tbG := ⟨w_326, w_327⟩
theorem dX5_bestToKeep_0 : dI cX5_bestToKeep 0 1 (.iconst (-1)) 1 := ⟨by decide +kernel, rfl⟩
theorem dX5_bestToKeep_1 : dI cX5_bestToKeep 1 2 (.istore_n 2) 1 := ⟨by decide +kernel, rfl⟩
theorem dX5_bestToKeep_2 : dI cX5_bestToKeep 2 3 (.iconst 0) 1 := ⟨by decide +kernel, rfl⟩
theorem dX5_bestToKeep_3 : dI cX5_bestToKeep 3 4 (.istore_n 3) 1 := ⟨by decide +kernel, rfl⟩
theorem dX5_bestToKeep_4 : dI cX5_bestToKeep 4 5 (.aload_n 0) 1 := ⟨by decide +kernel, rfl⟩
theorem dX5_bestToKeep_5 : decode cX5_bestToKeep 5 = .ok (.invokevirtual 88, 3) := by decide +kernel
theorem dX5_bestToKeep_8 : dI cX5_bestToKeep 8 9 (.aload_n 0) 1 := ⟨by decide +kernel, rfl⟩
theorem dX5_bestToKeep_9 : dI cX5_bestToKeep 9 12 (.getfield 43) 3 := ⟨by decide +kernel, rfl⟩
theorem dX5_bestToKeep_12 : dI cX5_bestToKeep 12 13 (.iload_n 1) 1 := ⟨by decide +kernel, rfl⟩
theorem dX5_bestToKeep_13 : dI cX5_bestToKeep 13 14 (.iaload) 1 := ⟨by decide +kernel, rfl⟩
theorem dX5_bestToKeep_14 : dI cX5_bestToKeep 14 15 (.iand) 1 := ⟨by decide +kernel, rfl⟩
theorem dX5_bestToKeep_15 : dI cX5_bestToKeep 15 17 (.istore 4) 2 := ⟨by decide +kernel, rfl⟩
theorem dX5_bestToKeep_17 : dI cX5_bestToKeep 17 18 (.iconst 0) 1 := ⟨by decide +kernel, rfl⟩
theorem dX5_bestToKeep_18 : dI cX5_bestToKeep 18 20 (.istore 5) 2 := ⟨by decide +kernel, rfl⟩
theorem dX5_bestToKeep_20 : dI cX5_bestToKeep 20 22 (.iload 5) 2 := ⟨by decide +kernel, rfl⟩
theorem dX5_bestToKeep_22 : dI cX5_bestToKeep 22 23 (.aload_n 0) 1 := ⟨by decide +kernel, rfl⟩
theorem dX5_bestToKeep_23 : dI cX5_bestToKeep 23 26 (.getfield 9) 3 := ⟨by decide +kernel, rfl⟩
theorem dX5_bestToKeep_26 : decode cX5_bestToKeep 26 = .ok (.if_icmp .ge 47, 3) := by decide +kernel
theorem dX5_bestToKeep_29 : dI cX5_bestToKeep 29 31 (.iload 4) 2 := ⟨by decide +kernel, rfl⟩
theorem dX5_bestToKeep_31 : dI cX5_bestToKeep 31 33 (.iload 5) 2 := ⟨by decide +kernel, rfl⟩
theorem dX5_bestToKeep_33 : dI cX5_bestToKeep 33 34 (.ishr) 1 := ⟨by decide +kernel, rfl⟩
theorem dX5_bestToKeep_34 : dI cX5_bestToKeep 34 35 (.iconst 1) 1 := ⟨by decide +kernel, rfl⟩
theorem dX5_bestToKeep_35 : dI cX5_bestToKeep 35 36 (.iand) 1 := ⟨by decide +kernel, rfl⟩
theorem dX5_bestToKeep_36 : decode cX5_bestToKeep 36 = .ok (.ifCond .ne 6, 3) := by decide +kernel
theorem dX5_bestToKeep_39 : decode cX5_bestToKeep 39 = .ok (.goto 28, 3) := by decide +kernel
theorem dX5_bestToKeep_42 : dI cX5_bestToKeep 42 43 (.aload_n 0) 1 := ⟨by decide +kernel, rfl⟩
theorem dX5_bestToKeep_43 : dI cX5_bestToKeep 43 45 (.iload 5) 2 := ⟨by decide +kernel, rfl⟩
theorem dX5_bestToKeep_45 : decode cX5_bestToKeep 45 = .ok (.invokevirtual 147, 3) := by decide +kernel
theorem dX5_bestToKeep_48 : dI cX5_bestToKeep 48 50 (.istore 6) 2 := ⟨by decide +kernel, rfl⟩
theorem dX5_bestToKeep_50 : dI cX5_bestToKeep 50 51 (.iload_n 2) 1 := ⟨by decide +kernel, rfl⟩
theorem dX5_bestToKeep_51 : dI cX5_bestToKeep 51 52 (.iconst (-1)) 1 := ⟨by decide +kernel, rfl⟩
theorem dX5_bestToKeep_52 : decode cX5_bestToKeep 52 = .ok (.if_icmp .eq 9, 3) := by decide +kernel
theorem dX5_bestToKeep_55 : dI cX5_bestToKeep 55 57 (.iload 6) 2 := ⟨by decide +kernel, rfl⟩
theorem dX5_bestToKeep_57 : dI cX5_bestToKeep 57 58 (.iload_n 3) 1 := ⟨by decide +kernel, rfl⟩
theorem dX5_bestToKeep_58 : decode cX5_bestToKeep 58 = .ok (.if_icmp .le 9, 3) := by decide +kernel
theorem dX5_bestToKeep_61 : dI cX5_bestToKeep 61 63 (.iload 5) 2 := ⟨by decide +kernel, rfl⟩
theorem dX5_bestToKeep_63 : dI cX5_bestToKeep 63 64 (.istore_n 2) 1 := ⟨by decide +kernel, rfl⟩
theorem dX5_bestToKeep_64 : dI cX5_bestToKeep 64 66 (.iload 6) 2 := ⟨by decide +kernel, rfl⟩
theorem dX5_bestToKeep_66 : dI cX5_bestToKeep 66 67 (.istore_n 3) 1 := ⟨by decide +kernel, rfl⟩
theorem dX5_bestToKeep_67 : dI cX5_bestToKeep 67 70 (.iinc 5 1) 3 := ⟨by decide +kernel, rfl⟩
theorem dX5_bestToKeep_70 : decode cX5_bestToKeep 70 = .ok (.goto (-50), 3) := by decide +kernel
theorem dX5_bestToKeep_73 : dI cX5_bestToKeep 73 74 (.iload_n 2) 1 := ⟨by decide +kernel, rfl⟩
theorem dX5_bestToKeep_74 : dI cX5_bestToKeep 74 75 (.ireturn) 1 := ⟨by decide +kernel, rfl⟩
def f_X5_bestToKeep_b67 (k20 : Nat → Int32 → Int32 → Int32 → Int32 → hS → Option (Int32 × hS)) (l0 : Nat) (l2 : Int32) (l3 : Int32) (l4 : Int32) (l5 : Int32) (s : hS) : Option (Int32 × hS) :=
  k20 l0 l2 l3 l4 (l5 + (1 : Int32)) s
theorem b_X5_bestToKeep_67 (E : jE) (k20 : Nat → Int32 → Int32 → Int32 → Int32 → hS → Option (Int32 × hS)) (h20 : ∀ (s : hS) (l0 : Nat) (l2 : Int32) (l3 : Int32) (l4 : Int32) (l5 : Int32) , Jo E M_X5_bestToKeep cvI 20 [(0, .ref l0), (2, .int l2), (3, .int l3), (4, .int l4), (5, .int l5)] [] s (k20 l0 l2 l3 l4 l5 s)) (s : hS) (l0 : Nat) (l2 : Int32) (l3 : Int32) (l4 : Int32) (l5 : Int32)  : Jo E M_X5_bestToKeep cvI 67 [(0, .ref l0), (2, .int l2), (3, .int l3), (4, .int l4), (5, .int l5)] [] s (f_X5_bestToKeep_b67 k20 l0 l2 l3 l4 l5 s) := by
  unfold f_X5_bestToKeep_b67
  refine Jo_iinc (v := (l5 + (1 : Int32))) (ls' := [(5, .int (l5 + (1 : Int32))), (0, .ref l0), (2, .int l2), (3, .int l3), (4, .int l4)]) 4 dX5_bestToKeep_67 rfl rfl (by decide) rfl ?_
  refine Jo_goto 20 dX5_bestToKeep_70 (by decide) ?_
  refine Jo_sub [1, 2, 3, 4, 0] rfl ?_
  exact h20 s l0 l2 l3 l4 (l5 + (1 : Int32))
def f_X5_bestToKeep_b61 (k20 : Nat → Int32 → Int32 → Int32 → Int32 → hS → Option (Int32 × hS)) (l0 : Nat) (l4 : Int32) (l5 : Int32) (l6 : Int32) (s : hS) : Option (Int32 × hS) :=
  f_X5_bestToKeep_b67 k20 l0 l5 l6 l4 l5 s
theorem b_X5_bestToKeep_61 (E : jE) (k20 : Nat → Int32 → Int32 → Int32 → Int32 → hS → Option (Int32 × hS)) (h20 : ∀ (s : hS) (l0 : Nat) (l2 : Int32) (l3 : Int32) (l4 : Int32) (l5 : Int32) , Jo E M_X5_bestToKeep cvI 20 [(0, .ref l0), (2, .int l2), (3, .int l3), (4, .int l4), (5, .int l5)] [] s (k20 l0 l2 l3 l4 l5 s)) (s : hS) (l0 : Nat) (l4 : Int32) (l5 : Int32) (l6 : Int32)  : Jo E M_X5_bestToKeep cvI 61 [(0, .ref l0), (4, .int l4), (5, .int l5), (6, .int l6)] [] s (f_X5_bestToKeep_b61 k20 l0 l4 l5 l6 s) := by
  unfold f_X5_bestToKeep_b61
  refine Jo_iload 2 dX5_bestToKeep_61 rfl ?_
  refine Jo_istoren (ls' := [(2, .int l5), (0, .ref l0), (4, .int l4), (5, .int l5), (6, .int l6)]) dX5_bestToKeep_63 rfl (by decide) rfl ?_
  refine Jo_iload 4 dX5_bestToKeep_64 rfl ?_
  refine Jo_istoren (ls' := [(3, .int l6), (2, .int l5), (0, .ref l0), (4, .int l4), (5, .int l5), (6, .int l6)]) dX5_bestToKeep_66 rfl (by decide) rfl ?_
  refine Jo_sub [2, 1, 0, 3, 4] rfl ?_
  exact b_X5_bestToKeep_67 E k20 h20 s l0 l5 l6 l4 l5
def f_X5_bestToKeep_b20 (k20 : Nat → Int32 → Int32 → Int32 → Int32 → hS → Option (Int32 × hS)) (l0 : Nat) (l2 : Int32) (l3 : Int32) (l4 : Int32) (l5 : Int32) (s : hS) : Option (Int32 × hS) :=
  (gI s l0 5 0).bind fun x1 =>
  if x1 ≤ l5 then
    some (l2, s)
  else
    if ((l4 >>> (l5 &&& 31)) &&& (1 : Int32)) = 0 then
      f_X5_bestToKeep_b67 k20 l0 l2 l3 l4 l5 s
    else
      (cV s l0 5 (f_X5_pricesForOthers s l0 l5)).bind fun p2 =>
      if l2 = (-1 : Int32) then
        f_X5_bestToKeep_b61 k20 l0 l4 l5 p2.1 p2.2
      else
        if p2.1 ≤ l3 then
          f_X5_bestToKeep_b67 k20 l0 l2 l3 l4 l5 p2.2
        else
          f_X5_bestToKeep_b61 k20 l0 l4 l5 p2.1 p2.2
theorem b_X5_bestToKeep_20 (E : jE) (k20 : Nat → Int32 → Int32 → Int32 → Int32 → hS → Option (Int32 × hS)) (h20 : ∀ (s : hS) (l0 : Nat) (l2 : Int32) (l3 : Int32) (l4 : Int32) (l5 : Int32) , Jo E M_X5_bestToKeep cvI 20 [(0, .ref l0), (2, .int l2), (3, .int l3), (4, .int l4), (5, .int l5)] [] s (k20 l0 l2 l3 l4 l5 s)) (s : hS) (l0 : Nat) (l2 : Int32) (l3 : Int32) (l4 : Int32) (l5 : Int32)  : Jo E M_X5_bestToKeep cvI 20 [(0, .ref l0), (2, .int l2), (3, .int l3), (4, .int l4), (5, .int l5)] [] s (f_X5_bestToKeep_b20 k20 l0 l2 l3 l4 l5 s) := by
  unfold f_X5_bestToKeep_b20
  refine Jo_iload 4 dX5_bestToKeep_20 rfl ?_
  refine Jo_aloadn 0 dX5_bestToKeep_22 rfl rfl ?_
  refine Jo_getI fF_5_0 fI_5_0 dX5_bestToKeep_23 w_195 (fun x1 => ?_)
  refine Jo_icmp_ge 73 dX5_bestToKeep_26 (by decide) rfl ?_ ?_
  · refine Jo_iloadn 1 dX5_bestToKeep_73 rfl rfl ?_
    exact Jo_iret rfl dX5_bestToKeep_74
  · refine Jo_iload 3 dX5_bestToKeep_29 rfl ?_
    refine Jo_iload 4 dX5_bestToKeep_31 rfl ?_
    refine Jo_ishr dX5_bestToKeep_33 ?_
    refine Jo_iconst (v := (1 : Int32)) dX5_bestToKeep_34 (by decide) ?_
    refine Jo_iand dX5_bestToKeep_35 ?_
    refine Jo_if_ne 42 dX5_bestToKeep_36 (by decide) rfl ?_ ?_
    · refine Jo_goto 67 dX5_bestToKeep_39 (by decide) ?_
      exact b_X5_bestToKeep_67 E k20 h20 s l0 l2 l3 l4 l5
    · refine Jo_aloadn 0 dX5_bestToKeep_42 rfl rfl ?_
      refine Jo_iload 4 dX5_bestToKeep_43 rfl ?_
      refine Jo_callVi (a := l0) (rest := []) [.int l5] cc_5 yF_X5_pricesForOthers yV_X5_pricesForOthers w_324 rfl rfl ⟨Nat.le_of_ble_eq_true rfl, Nat.le_of_ble_eq_true rfl, Nat.le_of_ble_eq_true rfl⟩ dX5_bestToKeep_45 rfl (K_X5_pricesForOthers E s l0 l5) (fun p2 => ?_)
      refine Jo_istore (ls' := [(6, .int p2.1), (0, .ref l0), (2, .int l2), (3, .int l3), (4, .int l4), (5, .int l5)]) dX5_bestToKeep_48 (by decide) rfl ?_
      refine Jo_iloadn 2 dX5_bestToKeep_50 rfl rfl ?_
      refine Jo_iconst (v := (-1 : Int32)) dX5_bestToKeep_51 (by decide) ?_
      refine Jo_icmp_eq 61 dX5_bestToKeep_52 (by decide) rfl ?_ ?_
      · refine Jo_sub [1, 4, 5, 0] rfl ?_
        exact b_X5_bestToKeep_61 E k20 h20 p2.2 l0 l4 l5 p2.1
      · refine Jo_iload 0 dX5_bestToKeep_55 rfl ?_
        refine Jo_iloadn 3 dX5_bestToKeep_57 rfl rfl ?_
        refine Jo_icmp_le 67 dX5_bestToKeep_58 (by decide) rfl ?_ ?_
        · refine Jo_sub [1, 2, 3, 4, 5] rfl ?_
          exact b_X5_bestToKeep_67 E k20 h20 p2.2 l0 l2 l3 l4 l5
        · refine Jo_sub [1, 4, 5, 0] rfl ?_
          exact b_X5_bestToKeep_61 E k20 h20 p2.2 l0 l4 l5 p2.1
theorem e_X5_bestToKeep_20 (E : jE)  (n : Nat) : ∀ (s : hS) (l0 : Nat) (l2 : Int32) (l3 : Int32) (l4 : Int32) (l5 : Int32) , Jo E M_X5_bestToKeep cvI 20 [(0, .ref l0), (2, .int l2), (3, .int l3), (4, .int l4), (5, .int l5)] [] s ((jL f_X5_bestToKeep_b20 (fun _ _ _ _ _ _ => none) n) l0 l2 l3 l4 l5 s) :=
  jL_ind (P := fun f => ∀ (s : hS) (l0 : Nat) (l2 : Int32) (l3 : Int32) (l4 : Int32) (l5 : Int32) , Jo E M_X5_bestToKeep cvI 20 [(0, .ref l0), (2, .int l2), (3, .int l3), (4, .int l4), (5, .int l5)] [] s (f l0 l2 l3 l4 l5 s)) (fun _ _ _ _ _ _ => Jo_none) (fun b hb s l0 l2 l3 l4 l5 => b_X5_bestToKeep_20 E  b hb s l0 l2 l3 l4 l5) n
def f_X5_bestToKeep (s : hS) (a0 : Nat) (i1 : Int32) : Option (Int32 × hS) :=
  (cV s a0 5 (f_X5_freshFacts s a0)).bind fun p1 =>
  (gR p1.2 a0 5 10).bind fun a2 =>
  (aI p1.2 a2 10 i1).bind fun x3 =>
  nmv ((p1.1 &&& x3)) fun x4 =>
  jL f_X5_bestToKeep_b20 (fun _ _ _ _ _ _ => none) jF a0 (-1 : Int32) (0 : Int32) x4 (0 : Int32) p1.2
theorem b_X5_bestToKeep_in (E : jE)  (s : hS) (a0 : Nat) (i1 : Int32)  : Jo E M_X5_bestToKeep cvI 0 [(0, .ref a0), (1, .int i1)] [] s (f_X5_bestToKeep s a0 i1) := by
  unfold f_X5_bestToKeep
  refine Jo_iconst (v := (-1 : Int32)) dX5_bestToKeep_0 (by decide) ?_
  refine Jo_istoren (ls' := [(2, .int (-1 : Int32)), (0, .ref a0), (1, .int i1)]) dX5_bestToKeep_1 rfl (by decide) rfl ?_
  refine Jo_iconst (v := (0 : Int32)) dX5_bestToKeep_2 (by decide) ?_
  refine Jo_istoren (ls' := [(3, .int (0 : Int32)), (2, .int (-1 : Int32)), (0, .ref a0), (1, .int i1)]) dX5_bestToKeep_3 rfl (by decide) rfl ?_
  refine Jo_aloadn 2 dX5_bestToKeep_4 rfl rfl ?_
  refine Jo_callVi (a := a0) (rest := []) [] cc_5 yF_X5_freshFacts yV_X5_freshFacts w_250 rfl rfl ⟨Nat.le_of_ble_eq_true rfl, Nat.le_of_ble_eq_true rfl, Nat.le_of_ble_eq_true rfl⟩ dX5_bestToKeep_5 rfl (K_X5_freshFacts E s a0) (fun p1 => ?_)
  refine Jo_aloadn 2 dX5_bestToKeep_8 rfl rfl ?_
  refine Jo_getR fF_5_10 fR_5_10 dX5_bestToKeep_9 w_185 (fun a2 => ?_)
  refine Jo_iloadn 3 dX5_bestToKeep_12 rfl rfl ?_
  refine Jo_iaload dX5_bestToKeep_13 (fun x3 => ?_)
  refine Jo_iand dX5_bestToKeep_14 ?_
  refine Jo_nm (fun x4 => ?_)
  refine Jo_istore (ls' := [(4, .int x4), (3, .int (0 : Int32)), (2, .int (-1 : Int32)), (0, .ref a0), (1, .int i1)]) dX5_bestToKeep_15 (by decide) rfl ?_
  refine Jo_iconst (v := (0 : Int32)) dX5_bestToKeep_17 (by decide) ?_
  refine Jo_istore (ls' := [(5, .int (0 : Int32)), (4, .int x4), (3, .int (0 : Int32)), (2, .int (-1 : Int32)), (0, .ref a0), (1, .int i1)]) dX5_bestToKeep_18 (by decide) rfl ?_
  refine Jo_sub [4, 3, 2, 1, 0] rfl ?_
  exact e_X5_bestToKeep_20 E jF p1.2 a0 (-1 : Int32) (0 : Int32) x4 (0 : Int32)
theorem K_X5_bestToKeep (E : jE) (s : hS) (a0 : Nat) (i1 : Int32) : jK E yX5_bestToKeep M_X5_bestToKeep cvI [.ref a0, .int i1] s (f_X5_bestToKeep s a0 i1) := jK_of ⟨by decide, rfl, rfl⟩ (Nat.le_of_ble_eq_true rfl) (b_X5_bestToKeep_in E s a0 i1)
/-! HeronTalk$Town.takeWorths(LHeronTalk$Sheet;)I -/
abbrev M_X5_takeWorths : jM := (RX5, cX5_takeWorths, 6, (some .int), "takeWorths", 2, 43)
theorem yF_X5_takeWorths : yF yX5_takeWorths M_X5_takeWorths 1 := ⟨w_331, w_198, by decide +kernel⟩
theorem yV_X5_takeWorths : Cond.instanceMethod yX5_takeWorths ∈ tbG ∧ Cond.selects yX5_takeWorths.cls yX5_takeWorths yX5_takeWorths ∈ tbG := ⟨w_332, w_333⟩
theorem dX5_takeWorths_0 : dI cX5_takeWorths 0 1 (.iconst 0) 1 := ⟨by decide +kernel, rfl⟩
theorem dX5_takeWorths_1 : dI cX5_takeWorths 1 2 (.istore_n 2) 1 := ⟨by decide +kernel, rfl⟩
theorem dX5_takeWorths_2 : dI cX5_takeWorths 2 3 (.iconst 0) 1 := ⟨by decide +kernel, rfl⟩
theorem dX5_takeWorths_3 : dI cX5_takeWorths 3 4 (.istore_n 3) 1 := ⟨by decide +kernel, rfl⟩
theorem dX5_takeWorths_4 : dI cX5_takeWorths 4 5 (.iload_n 3) 1 := ⟨by decide +kernel, rfl⟩
theorem dX5_takeWorths_5 : dI cX5_takeWorths 5 6 (.aload_n 0) 1 := ⟨by decide +kernel, rfl⟩
theorem dX5_takeWorths_6 : dI cX5_takeWorths 6 9 (.getfield 9) 3 := ⟨by decide +kernel, rfl⟩
theorem dX5_takeWorths_9 : decode cX5_takeWorths 9 = .ok (.if_icmp .ge 67, 3) := by decide +kernel
theorem dX5_takeWorths_12 : dI cX5_takeWorths 12 13 (.iload_n 3) 1 := ⟨by decide +kernel, rfl⟩
theorem dX5_takeWorths_13 : dI cX5_takeWorths 13 14 (.aload_n 1) 1 := ⟨by decide +kernel, rfl⟩
theorem dX5_takeWorths_14 : dI cX5_takeWorths 14 17 (.getfield 150) 3 := ⟨by decide +kernel, rfl⟩
theorem dX5_takeWorths_17 : decode cX5_takeWorths 17 = .ok (.if_icmp .ge 59, 3) := by decide +kernel
theorem dX5_takeWorths_20 : dI cX5_takeWorths 20 21 (.aload_n 1) 1 := ⟨by decide +kernel, rfl⟩
theorem dX5_takeWorths_21 : dI cX5_takeWorths 21 24 (.getfield 155) 3 := ⟨by decide +kernel, rfl⟩
theorem dX5_takeWorths_24 : dI cX5_takeWorths 24 25 (.iload_n 3) 1 := ⟨by decide +kernel, rfl⟩
theorem dX5_takeWorths_25 : dI cX5_takeWorths 25 26 (.iaload) 1 := ⟨by decide +kernel, rfl⟩
theorem dX5_takeWorths_26 : dI cX5_takeWorths 26 28 (.istore 4) 2 := ⟨by decide +kernel, rfl⟩
theorem dX5_takeWorths_28 : dI cX5_takeWorths 28 30 (.iload 4) 2 := ⟨by decide +kernel, rfl⟩
theorem dX5_takeWorths_30 : dI cX5_takeWorths 30 32 (.ldc 158) 2 := ⟨by decide +kernel, rfl⟩
theorem dX5_takeWorths_32 : decode cX5_takeWorths 32 = .ok (.if_icmp .ne 6, 3) := by decide +kernel
theorem dX5_takeWorths_35 : decode cX5_takeWorths 35 = .ok (.goto 35, 3) := by decide +kernel
theorem dX5_takeWorths_38 : dI cX5_takeWorths 38 40 (.iload 4) 2 := ⟨by decide +kernel, rfl⟩
theorem dX5_takeWorths_40 : dI cX5_takeWorths 40 41 (.iconst 0) 1 := ⟨by decide +kernel, rfl⟩
theorem dX5_takeWorths_41 : dI cX5_takeWorths 41 43 (.bipush 99) 2 := ⟨by decide +kernel, rfl⟩
theorem dX5_takeWorths_43 : decode cX5_takeWorths 43 = .ok (.invokestatic 119, 3) := by decide +kernel
theorem dX5_takeWorths_46 : dI cX5_takeWorths 46 48 (.istore 5) 2 := ⟨by decide +kernel, rfl⟩
theorem dX5_takeWorths_48 : dI cX5_takeWorths 48 50 (.iload 5) 2 := ⟨by decide +kernel, rfl⟩
theorem dX5_takeWorths_50 : dI cX5_takeWorths 50 51 (.aload_n 0) 1 := ⟨by decide +kernel, rfl⟩
theorem dX5_takeWorths_51 : dI cX5_takeWorths 51 54 (.getfield 36) 3 := ⟨by decide +kernel, rfl⟩
theorem dX5_takeWorths_54 : dI cX5_takeWorths 54 55 (.iload_n 3) 1 := ⟨by decide +kernel, rfl⟩
theorem dX5_takeWorths_55 : dI cX5_takeWorths 55 56 (.iaload) 1 := ⟨by decide +kernel, rfl⟩
theorem dX5_takeWorths_56 : decode cX5_takeWorths 56 = .ok (.if_icmp .eq 14, 3) := by decide +kernel
theorem dX5_takeWorths_59 : dI cX5_takeWorths 59 60 (.aload_n 0) 1 := ⟨by decide +kernel, rfl⟩
theorem dX5_takeWorths_60 : dI cX5_takeWorths 60 63 (.getfield 36) 3 := ⟨by decide +kernel, rfl⟩
theorem dX5_takeWorths_63 : dI cX5_takeWorths 63 64 (.iload_n 3) 1 := ⟨by decide +kernel, rfl⟩
theorem dX5_takeWorths_64 : dI cX5_takeWorths 64 66 (.iload 5) 2 := ⟨by decide +kernel, rfl⟩
theorem dX5_takeWorths_66 : dI cX5_takeWorths 66 67 (.iastore) 1 := ⟨by decide +kernel, rfl⟩
theorem dX5_takeWorths_67 : dI cX5_takeWorths 67 70 (.iinc 2 1) 3 := ⟨by decide +kernel, rfl⟩
theorem dX5_takeWorths_70 : dI cX5_takeWorths 70 73 (.iinc 3 1) 3 := ⟨by decide +kernel, rfl⟩
theorem dX5_takeWorths_73 : decode cX5_takeWorths 73 = .ok (.goto (-69), 3) := by decide +kernel
theorem dX5_takeWorths_76 : dI cX5_takeWorths 76 77 (.iload_n 2) 1 := ⟨by decide +kernel, rfl⟩
theorem dX5_takeWorths_77 : dI cX5_takeWorths 77 78 (.ireturn) 1 := ⟨by decide +kernel, rfl⟩
def f_X5_takeWorths_b70 (k4 : Nat → Nat → Int32 → Int32 → hS → Option (Int32 × hS)) (l0 : Nat) (l1 : Nat) (l2 : Int32) (l3 : Int32) (s : hS) : Option (Int32 × hS) :=
  k4 l0 l1 l2 (l3 + (1 : Int32)) s
theorem b_X5_takeWorths_70 (E : jE) (k4 : Nat → Nat → Int32 → Int32 → hS → Option (Int32 × hS)) (h4 : ∀ (s : hS) (l0 : Nat) (l1 : Nat) (l2 : Int32) (l3 : Int32) , Jo E M_X5_takeWorths cvI 4 [(0, .ref l0), (1, .ref l1), (2, .int l2), (3, .int l3)] [] s (k4 l0 l1 l2 l3 s)) (s : hS) (l0 : Nat) (l1 : Nat) (l2 : Int32) (l3 : Int32)  : Jo E M_X5_takeWorths cvI 70 [(0, .ref l0), (1, .ref l1), (2, .int l2), (3, .int l3)] [] s (f_X5_takeWorths_b70 k4 l0 l1 l2 l3 s) := by
  unfold f_X5_takeWorths_b70
  refine Jo_iinc (v := (l3 + (1 : Int32))) (ls' := [(3, .int (l3 + (1 : Int32))), (0, .ref l0), (1, .ref l1), (2, .int l2)]) 3 dX5_takeWorths_70 rfl rfl (by decide) rfl ?_
  refine Jo_goto 4 dX5_takeWorths_73 (by decide) ?_
  refine Jo_sub [1, 2, 3, 0] rfl ?_
  exact h4 s l0 l1 l2 (l3 + (1 : Int32))
def f_X5_takeWorths_b4 (k4 : Nat → Nat → Int32 → Int32 → hS → Option (Int32 × hS)) (l0 : Nat) (l1 : Nat) (l2 : Int32) (l3 : Int32) (s : hS) : Option (Int32 × hS) :=
  (gI s l0 5 0).bind fun x1 =>
  if x1 ≤ l3 then
    some (l2, s)
  else
    (gI s l1 1 1).bind fun x2 =>
    if x2 ≤ l3 then
      some (l2, s)
    else
      (gR s l1 1 2).bind fun a3 =>
      (aI s a3 10 l3).bind fun x4 =>
      if x4 = (-1000000005 : Int32) then
        f_X5_takeWorths_b70 k4 l0 l1 l2 l3 s
      else
        (f_X6_held s x4 (0 : Int32) (99 : Int32)).bind fun p5 =>
        (gR p5.2 l0 5 8).bind fun a6 =>
        (aI p5.2 a6 10 l3).bind fun x7 =>
        if p5.1 = x7 then
          f_X5_takeWorths_b70 k4 l0 l1 l2 l3 p5.2
        else
          (gR p5.2 l0 5 8).bind fun a8 =>
          (sI p5.2 a8 10 l3 p5.1).bind fun s9 =>
          f_X5_takeWorths_b70 k4 l0 l1 (l2 + (1 : Int32)) l3 s9
theorem b_X5_takeWorths_4 (E : jE) (k4 : Nat → Nat → Int32 → Int32 → hS → Option (Int32 × hS)) (h4 : ∀ (s : hS) (l0 : Nat) (l1 : Nat) (l2 : Int32) (l3 : Int32) , Jo E M_X5_takeWorths cvI 4 [(0, .ref l0), (1, .ref l1), (2, .int l2), (3, .int l3)] [] s (k4 l0 l1 l2 l3 s)) (s : hS) (l0 : Nat) (l1 : Nat) (l2 : Int32) (l3 : Int32)  : Jo E M_X5_takeWorths cvI 4 [(0, .ref l0), (1, .ref l1), (2, .int l2), (3, .int l3)] [] s (f_X5_takeWorths_b4 k4 l0 l1 l2 l3 s) := by
  unfold f_X5_takeWorths_b4
  refine Jo_iloadn 3 dX5_takeWorths_4 rfl rfl ?_
  refine Jo_aloadn 0 dX5_takeWorths_5 rfl rfl ?_
  refine Jo_getI fF_5_0 fI_5_0 dX5_takeWorths_6 w_195 (fun x1 => ?_)
  refine Jo_icmp_ge 76 dX5_takeWorths_9 (by decide) rfl ?_ ?_
  · refine Jo_iloadn 2 dX5_takeWorths_76 rfl rfl ?_
    exact Jo_iret rfl dX5_takeWorths_77
  · refine Jo_iloadn 3 dX5_takeWorths_12 rfl rfl ?_
    refine Jo_aloadn 1 dX5_takeWorths_13 rfl rfl ?_
    refine Jo_getI fF_1_1 fI_1_1 dX5_takeWorths_14 w_330 (fun x2 => ?_)
    refine Jo_icmp_ge 76 dX5_takeWorths_17 (by decide) rfl ?_ ?_
    · refine Jo_iloadn 2 dX5_takeWorths_76 rfl rfl ?_
      exact Jo_iret rfl dX5_takeWorths_77
    · refine Jo_aloadn 1 dX5_takeWorths_20 rfl rfl ?_
      refine Jo_getR fF_1_2 fR_1_2 dX5_takeWorths_21 w_329 (fun a3 => ?_)
      refine Jo_iloadn 3 dX5_takeWorths_24 rfl rfl ?_
      refine Jo_iaload dX5_takeWorths_25 (fun x4 => ?_)
      refine Jo_istore (ls' := [(4, .int x4), (0, .ref l0), (1, .ref l1), (2, .int l2), (3, .int l3)]) dX5_takeWorths_26 (by decide) rfl ?_
      refine Jo_iload 0 dX5_takeWorths_28 rfl ?_
      refine Jo_ldc dX5_takeWorths_30 w_328 ?_
      refine Jo_icmp_ne 38 dX5_takeWorths_32 (by decide) rfl ?_ ?_
      · refine Jo_goto 70 dX5_takeWorths_35 (by decide) ?_
        refine Jo_sub [1, 2, 3, 4] rfl ?_
        exact b_X5_takeWorths_70 E k4 h4 s l0 l1 l2 l3
      · refine Jo_iload 0 dX5_takeWorths_38 rfl ?_
        refine Jo_iconst (v := (0 : Int32)) dX5_takeWorths_40 (by decide) ?_
        refine Jo_bipush (v := (99 : Int32)) dX5_takeWorths_41 (by decide) ?_
        refine Jo_callNi (rest := []) [.int x4, .int (0 : Int32), .int (99 : Int32)] yF_X6_held yS_X6_held nl_X6_held rfl rfl ⟨Nat.le_of_ble_eq_true rfl, Nat.le_of_ble_eq_true rfl, Nat.le_of_ble_eq_true rfl⟩ dX5_takeWorths_43 rfl (K_X6_held E s x4 (0 : Int32) (99 : Int32)) (fun p5 => ?_)
        refine Jo_istore (ls' := [(5, .int p5.1), (4, .int x4), (0, .ref l0), (1, .ref l1), (2, .int l2), (3, .int l3)]) dX5_takeWorths_46 (by decide) rfl ?_
        refine Jo_iload 0 dX5_takeWorths_48 rfl ?_
        refine Jo_aloadn 2 dX5_takeWorths_50 rfl rfl ?_
        refine Jo_getR fF_5_8 fR_5_8 dX5_takeWorths_51 w_187 (fun a6 => ?_)
        refine Jo_iloadn 5 dX5_takeWorths_54 rfl rfl ?_
        refine Jo_iaload dX5_takeWorths_55 (fun x7 => ?_)
        refine Jo_icmp_eq 70 dX5_takeWorths_56 (by decide) rfl ?_ ?_
        · refine Jo_sub [2, 3, 4, 5] rfl ?_
          exact b_X5_takeWorths_70 E k4 h4 p5.2 l0 l1 l2 l3
        · refine Jo_aloadn 2 dX5_takeWorths_59 rfl rfl ?_
          refine Jo_getR fF_5_8 fR_5_8 dX5_takeWorths_60 w_187 (fun a8 => ?_)
          refine Jo_iloadn 5 dX5_takeWorths_63 rfl rfl ?_
          refine Jo_iload 0 dX5_takeWorths_64 rfl ?_
          refine Jo_iastore dX5_takeWorths_66 (fun s9 => ?_)
          refine Jo_iinc (v := (l2 + (1 : Int32))) (ls' := [(2, .int (l2 + (1 : Int32))), (5, .int p5.1), (4, .int x4), (0, .ref l0), (1, .ref l1), (3, .int l3)]) 4 dX5_takeWorths_67 rfl rfl (by decide) rfl ?_
          refine Jo_sub [3, 4, 0, 5] rfl ?_
          exact b_X5_takeWorths_70 E k4 h4 s9 l0 l1 (l2 + (1 : Int32)) l3
theorem e_X5_takeWorths_4 (E : jE)  (n : Nat) : ∀ (s : hS) (l0 : Nat) (l1 : Nat) (l2 : Int32) (l3 : Int32) , Jo E M_X5_takeWorths cvI 4 [(0, .ref l0), (1, .ref l1), (2, .int l2), (3, .int l3)] [] s ((jL f_X5_takeWorths_b4 (fun _ _ _ _ _ => none) n) l0 l1 l2 l3 s) :=
  jL_ind (P := fun f => ∀ (s : hS) (l0 : Nat) (l1 : Nat) (l2 : Int32) (l3 : Int32) , Jo E M_X5_takeWorths cvI 4 [(0, .ref l0), (1, .ref l1), (2, .int l2), (3, .int l3)] [] s (f l0 l1 l2 l3 s)) (fun _ _ _ _ _ => Jo_none) (fun b hb s l0 l1 l2 l3 => b_X5_takeWorths_4 E  b hb s l0 l1 l2 l3) n
def f_X5_takeWorths (s : hS) (a0 : Nat) (a1 : Nat) : Option (Int32 × hS) :=
  jL f_X5_takeWorths_b4 (fun _ _ _ _ _ => none) jF a0 a1 (0 : Int32) (0 : Int32) s
theorem b_X5_takeWorths_in (E : jE)  (s : hS) (a0 : Nat) (a1 : Nat)  : Jo E M_X5_takeWorths cvI 0 [(0, .ref a0), (1, .ref a1)] [] s (f_X5_takeWorths s a0 a1) := by
  unfold f_X5_takeWorths
  refine Jo_iconst (v := (0 : Int32)) dX5_takeWorths_0 (by decide) ?_
  refine Jo_istoren (ls' := [(2, .int (0 : Int32)), (0, .ref a0), (1, .ref a1)]) dX5_takeWorths_1 rfl (by decide) rfl ?_
  refine Jo_iconst (v := (0 : Int32)) dX5_takeWorths_2 (by decide) ?_
  refine Jo_istoren (ls' := [(3, .int (0 : Int32)), (2, .int (0 : Int32)), (0, .ref a0), (1, .ref a1)]) dX5_takeWorths_3 rfl (by decide) rfl ?_
  refine Jo_sub [2, 3, 1, 0] rfl ?_
  exact e_X5_takeWorths_4 E jF s a0 a1 (0 : Int32) (0 : Int32)
theorem K_X5_takeWorths (E : jE) (s : hS) (a0 : Nat) (a1 : Nat) : jK E yX5_takeWorths M_X5_takeWorths cvI [.ref a0, .ref a1] s (f_X5_takeWorths s a0 a1) := jK_of ⟨by decide, rfl, rfl⟩ (Nat.le_of_ble_eq_true rfl) (b_X5_takeWorths_in E s a0 a1)
/-! HeronTalk$Town.firstOtherwise(LHeronTalk$Sheet;)I -/
abbrev M_X5_firstOtherwise : jM := (RX5, cX5_firstOtherwise, 4, (some .int), "firstOtherwise", 1, 20)
theorem yF_X5_firstOtherwise : yF yX5_firstOtherwise M_X5_firstOtherwise 1 := ⟨w_334, w_198, by decide +kernel⟩
theorem yV_X5_firstOtherwise : Cond.instanceMethod yX5_firstOtherwise ∈ tbG ∧ Cond.selects yX5_firstOtherwise.cls yX5_firstOtherwise yX5_firstOtherwise ∈ tbG := ⟨w_335, w_336⟩
theorem dX5_firstOtherwise_0 : dI cX5_firstOtherwise 0 1 (.iconst 0) 1 := ⟨by decide +kernel, rfl⟩
theorem dX5_firstOtherwise_1 : dI cX5_firstOtherwise 1 2 (.istore_n 2) 1 := ⟨by decide +kernel, rfl⟩
theorem dX5_firstOtherwise_2 : dI cX5_firstOtherwise 2 3 (.iload_n 2) 1 := ⟨by decide +kernel, rfl⟩
theorem dX5_firstOtherwise_3 : dI cX5_firstOtherwise 3 4 (.aload_n 1) 1 := ⟨by decide +kernel, rfl⟩
theorem dX5_firstOtherwise_4 : dI cX5_firstOtherwise 4 7 (.getfield 150) 3 := ⟨by decide +kernel, rfl⟩
theorem dX5_firstOtherwise_7 : decode cX5_firstOtherwise 7 = .ok (.if_icmp .ge 45, 3) := by decide +kernel
theorem dX5_firstOtherwise_10 : dI cX5_firstOtherwise 10 11 (.aload_n 1) 1 := ⟨by decide +kernel, rfl⟩
theorem dX5_firstOtherwise_11 : dI cX5_firstOtherwise 11 14 (.getfield 155) 3 := ⟨by decide +kernel, rfl⟩
theorem dX5_firstOtherwise_14 : dI cX5_firstOtherwise 14 15 (.iload_n 2) 1 := ⟨by decide +kernel, rfl⟩
theorem dX5_firstOtherwise_15 : dI cX5_firstOtherwise 15 16 (.iaload) 1 := ⟨by decide +kernel, rfl⟩
theorem dX5_firstOtherwise_16 : dI cX5_firstOtherwise 16 17 (.istore_n 3) 1 := ⟨by decide +kernel, rfl⟩
theorem dX5_firstOtherwise_17 : dI cX5_firstOtherwise 17 18 (.iload_n 3) 1 := ⟨by decide +kernel, rfl⟩
theorem dX5_firstOtherwise_18 : dI cX5_firstOtherwise 18 20 (.ldc 158) 2 := ⟨by decide +kernel, rfl⟩
theorem dX5_firstOtherwise_20 : decode cX5_firstOtherwise 20 = .ok (.if_icmp .eq 26, 3) := by decide +kernel
theorem dX5_firstOtherwise_23 : dI cX5_firstOtherwise 23 24 (.iload_n 2) 1 := ⟨by decide +kernel, rfl⟩
theorem dX5_firstOtherwise_24 : dI cX5_firstOtherwise 24 25 (.aload_n 0) 1 := ⟨by decide +kernel, rfl⟩
theorem dX5_firstOtherwise_25 : dI cX5_firstOtherwise 25 28 (.getfield 15) 3 := ⟨by decide +kernel, rfl⟩
theorem dX5_firstOtherwise_28 : decode cX5_firstOtherwise 28 = .ok (.if_icmp .ge 16, 3) := by decide +kernel
theorem dX5_firstOtherwise_31 : dI cX5_firstOtherwise 31 32 (.iload_n 3) 1 := ⟨by decide +kernel, rfl⟩
theorem dX5_firstOtherwise_32 : dI cX5_firstOtherwise 32 33 (.aload_n 0) 1 := ⟨by decide +kernel, rfl⟩
theorem dX5_firstOtherwise_33 : dI cX5_firstOtherwise 33 36 (.getfield 43) 3 := ⟨by decide +kernel, rfl⟩
theorem dX5_firstOtherwise_36 : dI cX5_firstOtherwise 36 37 (.iload_n 2) 1 := ⟨by decide +kernel, rfl⟩
theorem dX5_firstOtherwise_37 : dI cX5_firstOtherwise 37 38 (.iaload) 1 := ⟨by decide +kernel, rfl⟩
theorem dX5_firstOtherwise_38 : decode cX5_firstOtherwise 38 = .ok (.invokestatic 82, 3) := by decide +kernel
theorem dX5_firstOtherwise_41 : decode cX5_firstOtherwise 41 = .ok (.if_icmp .eq 5, 3) := by decide +kernel
theorem dX5_firstOtherwise_44 : dI cX5_firstOtherwise 44 45 (.iload_n 2) 1 := ⟨by decide +kernel, rfl⟩
theorem dX5_firstOtherwise_45 : dI cX5_firstOtherwise 45 46 (.ireturn) 1 := ⟨by decide +kernel, rfl⟩
theorem dX5_firstOtherwise_46 : dI cX5_firstOtherwise 46 49 (.iinc 2 1) 3 := ⟨by decide +kernel, rfl⟩
theorem dX5_firstOtherwise_49 : decode cX5_firstOtherwise 49 = .ok (.goto (-47), 3) := by decide +kernel
theorem dX5_firstOtherwise_52 : dI cX5_firstOtherwise 52 53 (.iconst (-1)) 1 := ⟨by decide +kernel, rfl⟩
theorem dX5_firstOtherwise_53 : dI cX5_firstOtherwise 53 54 (.ireturn) 1 := ⟨by decide +kernel, rfl⟩
def f_X5_firstOtherwise_b46 (k2 : Nat → Nat → Int32 → hS → Option (Int32 × hS)) (l0 : Nat) (l1 : Nat) (l2 : Int32) (s : hS) : Option (Int32 × hS) :=
  k2 l0 l1 (l2 + (1 : Int32)) s
theorem b_X5_firstOtherwise_46 (E : jE) (k2 : Nat → Nat → Int32 → hS → Option (Int32 × hS)) (h2 : ∀ (s : hS) (l0 : Nat) (l1 : Nat) (l2 : Int32) , Jo E M_X5_firstOtherwise cvI 2 [(0, .ref l0), (1, .ref l1), (2, .int l2)] [] s (k2 l0 l1 l2 s)) (s : hS) (l0 : Nat) (l1 : Nat) (l2 : Int32)  : Jo E M_X5_firstOtherwise cvI 46 [(0, .ref l0), (1, .ref l1), (2, .int l2)] [] s (f_X5_firstOtherwise_b46 k2 l0 l1 l2 s) := by
  unfold f_X5_firstOtherwise_b46
  refine Jo_iinc (v := (l2 + (1 : Int32))) (ls' := [(2, .int (l2 + (1 : Int32))), (0, .ref l0), (1, .ref l1)]) 2 dX5_firstOtherwise_46 rfl rfl (by decide) rfl ?_
  refine Jo_goto 2 dX5_firstOtherwise_49 (by decide) ?_
  refine Jo_sub [1, 2, 0] rfl ?_
  exact h2 s l0 l1 (l2 + (1 : Int32))
def f_X5_firstOtherwise_b2 (k2 : Nat → Nat → Int32 → hS → Option (Int32 × hS)) (l0 : Nat) (l1 : Nat) (l2 : Int32) (s : hS) : Option (Int32 × hS) :=
  (gI s l1 1 1).bind fun x1 =>
  if x1 ≤ l2 then
    some ((-1 : Int32), s)
  else
    (gR s l1 1 2).bind fun a2 =>
    (aI s a2 10 l2).bind fun x3 =>
    if x3 = (-1000000005 : Int32) then
      f_X5_firstOtherwise_b46 k2 l0 l1 l2 s
    else
      (gI s l0 5 1).bind fun x4 =>
      if x4 ≤ l2 then
        some (l2, s)
      else
        (gR s l0 5 10).bind fun a5 =>
        (aI s a5 10 l2).bind fun x6 =>
        (f_J6_bitCount_0f7a4 s x6).bind fun p7 =>
        if x3 = p7.1 then
          f_X5_firstOtherwise_b46 k2 l0 l1 l2 p7.2
        else
          some (l2, p7.2)
theorem b_X5_firstOtherwise_2 (E : jE) (k2 : Nat → Nat → Int32 → hS → Option (Int32 × hS)) (h2 : ∀ (s : hS) (l0 : Nat) (l1 : Nat) (l2 : Int32) , Jo E M_X5_firstOtherwise cvI 2 [(0, .ref l0), (1, .ref l1), (2, .int l2)] [] s (k2 l0 l1 l2 s)) (s : hS) (l0 : Nat) (l1 : Nat) (l2 : Int32)  : Jo E M_X5_firstOtherwise cvI 2 [(0, .ref l0), (1, .ref l1), (2, .int l2)] [] s (f_X5_firstOtherwise_b2 k2 l0 l1 l2 s) := by
  unfold f_X5_firstOtherwise_b2
  refine Jo_iloadn 2 dX5_firstOtherwise_2 rfl rfl ?_
  refine Jo_aloadn 1 dX5_firstOtherwise_3 rfl rfl ?_
  refine Jo_getI fF_1_1 fI_1_1 dX5_firstOtherwise_4 w_330 (fun x1 => ?_)
  refine Jo_icmp_ge 52 dX5_firstOtherwise_7 (by decide) rfl ?_ ?_
  · refine Jo_iconst (v := (-1 : Int32)) dX5_firstOtherwise_52 (by decide) ?_
    exact Jo_iret rfl dX5_firstOtherwise_53
  · refine Jo_aloadn 1 dX5_firstOtherwise_10 rfl rfl ?_
    refine Jo_getR fF_1_2 fR_1_2 dX5_firstOtherwise_11 w_329 (fun a2 => ?_)
    refine Jo_iloadn 2 dX5_firstOtherwise_14 rfl rfl ?_
    refine Jo_iaload dX5_firstOtherwise_15 (fun x3 => ?_)
    refine Jo_istoren (ls' := [(3, .int x3), (0, .ref l0), (1, .ref l1), (2, .int l2)]) dX5_firstOtherwise_16 rfl (by decide) rfl ?_
    refine Jo_iloadn 0 dX5_firstOtherwise_17 rfl rfl ?_
    refine Jo_ldc dX5_firstOtherwise_18 w_328 ?_
    refine Jo_icmp_eq 46 dX5_firstOtherwise_20 (by decide) rfl ?_ ?_
    · refine Jo_sub [1, 2, 3] rfl ?_
      exact b_X5_firstOtherwise_46 E k2 h2 s l0 l1 l2
    · refine Jo_iloadn 3 dX5_firstOtherwise_23 rfl rfl ?_
      refine Jo_aloadn 1 dX5_firstOtherwise_24 rfl rfl ?_
      refine Jo_getI fF_5_1 fI_5_1 dX5_firstOtherwise_25 w_194 (fun x4 => ?_)
      refine Jo_icmp_ge 44 dX5_firstOtherwise_28 (by decide) rfl ?_ ?_
      · refine Jo_iloadn 3 dX5_firstOtherwise_44 rfl rfl ?_
        exact Jo_iret rfl dX5_firstOtherwise_45
      · refine Jo_iloadn 0 dX5_firstOtherwise_31 rfl rfl ?_
        refine Jo_aloadn 1 dX5_firstOtherwise_32 rfl rfl ?_
        refine Jo_getR fF_5_10 fR_5_10 dX5_firstOtherwise_33 w_185 (fun a5 => ?_)
        refine Jo_iloadn 3 dX5_firstOtherwise_36 rfl rfl ?_
        refine Jo_iaload dX5_firstOtherwise_37 (fun x6 => ?_)
        refine Jo_callSi (rest := [.int x3]) [.int x6] yF_J6_bitCount_0f7a4 yS_J6_bitCount_0f7a4 w_246 rfl rfl ⟨Nat.le_of_ble_eq_true rfl, Nat.le_of_ble_eq_true rfl, Nat.le_of_ble_eq_true rfl⟩ dX5_firstOtherwise_38 rfl (K_J6_bitCount_0f7a4 E s x6) (fun p7 => ?_)
        refine Jo_icmp_eq 46 dX5_firstOtherwise_41 (by decide) rfl ?_ ?_
        · refine Jo_sub [1, 2, 3] rfl ?_
          exact b_X5_firstOtherwise_46 E k2 h2 p7.2 l0 l1 l2
        · refine Jo_iloadn 3 dX5_firstOtherwise_44 rfl rfl ?_
          exact Jo_iret rfl dX5_firstOtherwise_45
theorem e_X5_firstOtherwise_2 (E : jE)  (n : Nat) : ∀ (s : hS) (l0 : Nat) (l1 : Nat) (l2 : Int32) , Jo E M_X5_firstOtherwise cvI 2 [(0, .ref l0), (1, .ref l1), (2, .int l2)] [] s ((jL f_X5_firstOtherwise_b2 (fun _ _ _ _ => none) n) l0 l1 l2 s) :=
  jL_ind (P := fun f => ∀ (s : hS) (l0 : Nat) (l1 : Nat) (l2 : Int32) , Jo E M_X5_firstOtherwise cvI 2 [(0, .ref l0), (1, .ref l1), (2, .int l2)] [] s (f l0 l1 l2 s)) (fun _ _ _ _ => Jo_none) (fun b hb s l0 l1 l2 => b_X5_firstOtherwise_2 E  b hb s l0 l1 l2) n
def f_X5_firstOtherwise (s : hS) (a0 : Nat) (a1 : Nat) : Option (Int32 × hS) :=
  jL f_X5_firstOtherwise_b2 (fun _ _ _ _ => none) jF a0 a1 (0 : Int32) s
theorem b_X5_firstOtherwise_in (E : jE)  (s : hS) (a0 : Nat) (a1 : Nat)  : Jo E M_X5_firstOtherwise cvI 0 [(0, .ref a0), (1, .ref a1)] [] s (f_X5_firstOtherwise s a0 a1) := by
  unfold f_X5_firstOtherwise
  refine Jo_iconst (v := (0 : Int32)) dX5_firstOtherwise_0 (by decide) ?_
  refine Jo_istoren (ls' := [(2, .int (0 : Int32)), (0, .ref a0), (1, .ref a1)]) dX5_firstOtherwise_1 rfl (by decide) rfl ?_
  refine Jo_sub [1, 2, 0] rfl ?_
  exact e_X5_firstOtherwise_2 E jF s a0 a1 (0 : Int32)
theorem K_X5_firstOtherwise (E : jE) (s : hS) (a0 : Nat) (a1 : Nat) : jK E yX5_firstOtherwise M_X5_firstOtherwise cvI [.ref a0, .ref a1] s (f_X5_firstOtherwise s a0 a1) := jK_of ⟨by decide, rfl, rfl⟩ (Nat.le_of_ble_eq_true rfl) (b_X5_firstOtherwise_in E s a0 a1)
/-! HeronTalk.<init>()V -/
abbrev M_X6_init : jM := (RX6, cX6_init, 2, (none : Option Jvm.ClassFile.FieldType), "<init>", 3, 60)
theorem yF_X6_init : yF yX6_init M_X6_init 0 := ⟨w_361, w_278, by decide +kernel⟩
theorem yV_X6_init : Cond.instanceMethod yX6_init ∈ tbG ∧ yX6_init.name = "<init>" := ⟨w_362, rfl⟩
theorem dX6_init_0 : dI cX6_init 0 1 (.aload_n 0) 1 := ⟨by decide +kernel, rfl⟩
theorem dX6_init_1 : dI cX6_init 1 4 (.invokespecial 1) 3 := ⟨by decide +kernel, rfl⟩
theorem dX6_init_4 : dI cX6_init 4 5 (.aload_n 0) 1 := ⟨by decide +kernel, rfl⟩
theorem dX6_init_5 : dI cX6_init 5 8 (.new 7) 3 := ⟨by decide +kernel, rfl⟩
theorem dX6_init_8 : dI cX6_init 8 9 (.dup) 1 := ⟨by decide +kernel, rfl⟩
theorem dX6_init_9 : decode cX6_init 9 = .ok (.invokespecial 9, 3) := by decide +kernel
theorem dX6_init_12 : dI cX6_init 12 15 (.putfield 10) 3 := ⟨by decide +kernel, rfl⟩
theorem dX6_init_15 : dI cX6_init 15 16 (.aload_n 0) 1 := ⟨by decide +kernel, rfl⟩
theorem dX6_init_16 : dI cX6_init 16 19 (.new 7) 3 := ⟨by decide +kernel, rfl⟩
theorem dX6_init_19 : dI cX6_init 19 20 (.dup) 1 := ⟨by decide +kernel, rfl⟩
theorem dX6_init_20 : decode cX6_init 20 = .ok (.invokespecial 9, 3) := by decide +kernel
theorem dX6_init_23 : dI cX6_init 23 26 (.putfield 16) 3 := ⟨by decide +kernel, rfl⟩
theorem dX6_init_26 : dI cX6_init 26 27 (.aload_n 0) 1 := ⟨by decide +kernel, rfl⟩
theorem dX6_init_27 : dI cX6_init 27 30 (.new 7) 3 := ⟨by decide +kernel, rfl⟩
theorem dX6_init_30 : dI cX6_init 30 31 (.dup) 1 := ⟨by decide +kernel, rfl⟩
theorem dX6_init_31 : decode cX6_init 31 = .ok (.invokespecial 9, 3) := by decide +kernel
theorem dX6_init_34 : dI cX6_init 34 37 (.putfield 19) 3 := ⟨by decide +kernel, rfl⟩
theorem dX6_init_37 : dI cX6_init 37 38 (.aload_n 0) 1 := ⟨by decide +kernel, rfl⟩
theorem dX6_init_38 : dI cX6_init 38 39 (.iconst 0) 1 := ⟨by decide +kernel, rfl⟩
theorem dX6_init_39 : dI cX6_init 39 42 (.putfield 22) 3 := ⟨by decide +kernel, rfl⟩
theorem dX6_init_42 : dI cX6_init 42 43 (.aload_n 0) 1 := ⟨by decide +kernel, rfl⟩
theorem dX6_init_43 : dI cX6_init 43 46 (.new 26) 3 := ⟨by decide +kernel, rfl⟩
theorem dX6_init_46 : dI cX6_init 46 47 (.dup) 1 := ⟨by decide +kernel, rfl⟩
theorem dX6_init_47 : decode cX6_init 47 = .ok (.invokespecial 28, 3) := by decide +kernel
theorem dX6_init_50 : dI cX6_init 50 53 (.putfield 29) 3 := ⟨by decide +kernel, rfl⟩
theorem dX6_init_53 : dI cX6_init 53 54 (.aload_n 0) 1 := ⟨by decide +kernel, rfl⟩
theorem dX6_init_54 : dI cX6_init 54 55 (.aload_n 0) 1 := ⟨by decide +kernel, rfl⟩
theorem dX6_init_55 : dI cX6_init 55 58 (.getfield 29) 3 := ⟨by decide +kernel, rfl⟩
theorem dX6_init_58 : dI cX6_init 58 61 (.getfield 33) 3 := ⟨by decide +kernel, rfl⟩
theorem dX6_init_61 : dI cX6_init 61 64 (.putfield 37) 3 := ⟨by decide +kernel, rfl⟩
theorem dX6_init_64 : dI cX6_init 64 65 (.aload_n 0) 1 := ⟨by decide +kernel, rfl⟩
theorem dX6_init_65 : dI cX6_init 65 66 (.iconst 4) 1 := ⟨by decide +kernel, rfl⟩
theorem dX6_init_66 : dI cX6_init 66 69 (.anewarray 38) 3 := ⟨by decide +kernel, rfl⟩
theorem dX6_init_69 : dI cX6_init 69 72 (.putfield 40) 3 := ⟨by decide +kernel, rfl⟩
theorem dX6_init_72 : dI cX6_init 72 73 (.iconst 0) 1 := ⟨by decide +kernel, rfl⟩
theorem dX6_init_73 : dI cX6_init 73 74 (.istore_n 1) 1 := ⟨by decide +kernel, rfl⟩
theorem dX6_init_74 : dI cX6_init 74 75 (.iload_n 1) 1 := ⟨by decide +kernel, rfl⟩
theorem dX6_init_75 : dI cX6_init 75 76 (.iconst 4) 1 := ⟨by decide +kernel, rfl⟩
theorem dX6_init_76 : decode cX6_init 76 = .ok (.if_icmp .ge 22, 3) := by decide +kernel
theorem dX6_init_79 : dI cX6_init 79 80 (.aload_n 0) 1 := ⟨by decide +kernel, rfl⟩
theorem dX6_init_80 : dI cX6_init 80 83 (.getfield 40) 3 := ⟨by decide +kernel, rfl⟩
theorem dX6_init_83 : dI cX6_init 83 84 (.iload_n 1) 1 := ⟨by decide +kernel, rfl⟩
theorem dX6_init_84 : dI cX6_init 84 87 (.new 38) 3 := ⟨by decide +kernel, rfl⟩
theorem dX6_init_87 : dI cX6_init 87 88 (.dup) 1 := ⟨by decide +kernel, rfl⟩
theorem dX6_init_88 : decode cX6_init 88 = .ok (.invokespecial 44, 3) := by decide +kernel
theorem dX6_init_91 : dI cX6_init 91 92 (.aastore) 1 := ⟨by decide +kernel, rfl⟩
theorem dX6_init_92 : dI cX6_init 92 95 (.iinc 1 1) 3 := ⟨by decide +kernel, rfl⟩
theorem dX6_init_95 : decode cX6_init 95 = .ok (.goto (-21), 3) := by decide +kernel
theorem dX6_init_98 : dI cX6_init 98 99 (.aload_n 0) 1 := ⟨by decide +kernel, rfl⟩
theorem dX6_init_99 : dI cX6_init 99 100 (.iconst 5) 1 := ⟨by decide +kernel, rfl⟩
theorem dX6_init_100 : dI cX6_init 100 103 (.anewarray 45) 3 := ⟨by decide +kernel, rfl⟩
theorem dX6_init_103 : dI cX6_init 103 106 (.putfield 47) 3 := ⟨by decide +kernel, rfl⟩
theorem dX6_init_106 : dI cX6_init 106 107 (.iconst 0) 1 := ⟨by decide +kernel, rfl⟩
theorem dX6_init_107 : dI cX6_init 107 108 (.istore_n 1) 1 := ⟨by decide +kernel, rfl⟩
theorem dX6_init_108 : dI cX6_init 108 109 (.iload_n 1) 1 := ⟨by decide +kernel, rfl⟩
theorem dX6_init_109 : dI cX6_init 109 110 (.iconst 5) 1 := ⟨by decide +kernel, rfl⟩
theorem dX6_init_110 : decode cX6_init 110 = .ok (.if_icmp .ge 22, 3) := by decide +kernel
theorem dX6_init_113 : dI cX6_init 113 114 (.aload_n 0) 1 := ⟨by decide +kernel, rfl⟩
theorem dX6_init_114 : dI cX6_init 114 117 (.getfield 47) 3 := ⟨by decide +kernel, rfl⟩
theorem dX6_init_117 : dI cX6_init 117 118 (.iload_n 1) 1 := ⟨by decide +kernel, rfl⟩
theorem dX6_init_118 : dI cX6_init 118 121 (.new 45) 3 := ⟨by decide +kernel, rfl⟩
theorem dX6_init_121 : dI cX6_init 121 122 (.dup) 1 := ⟨by decide +kernel, rfl⟩
theorem dX6_init_122 : decode cX6_init 122 = .ok (.invokespecial 51, 3) := by decide +kernel
theorem dX6_init_125 : dI cX6_init 125 126 (.aastore) 1 := ⟨by decide +kernel, rfl⟩
theorem dX6_init_126 : dI cX6_init 126 129 (.iinc 1 1) 3 := ⟨by decide +kernel, rfl⟩
theorem dX6_init_129 : decode cX6_init 129 = .ok (.goto (-21), 3) := by decide +kernel
theorem dX6_init_132 : dI cX6_init 132 133 (.aload_n 0) 1 := ⟨by decide +kernel, rfl⟩
theorem dX6_init_133 : dI cX6_init 133 135 (.bipush 60) 2 := ⟨by decide +kernel, rfl⟩
theorem dX6_init_135 : dI cX6_init 135 137 (.newarray .int) 2 := ⟨by decide +kernel, rfl⟩
theorem dX6_init_137 : dI cX6_init 137 140 (.putfield 52) 3 := ⟨by decide +kernel, rfl⟩
theorem dX6_init_140 : dI cX6_init 140 141 (.aload_n 0) 1 := ⟨by decide +kernel, rfl⟩
theorem dX6_init_141 : dI cX6_init 141 142 (.iconst 0) 1 := ⟨by decide +kernel, rfl⟩
theorem dX6_init_142 : dI cX6_init 142 145 (.putfield 56) 3 := ⟨by decide +kernel, rfl⟩
theorem dX6_init_145 : dI cX6_init 145 146 (.aload_n 0) 1 := ⟨by decide +kernel, rfl⟩
theorem dX6_init_146 : dI cX6_init 146 147 (.iconst 3) 1 := ⟨by decide +kernel, rfl⟩
theorem dX6_init_147 : dI cX6_init 147 149 (.newarray .int) 2 := ⟨by decide +kernel, rfl⟩
theorem dX6_init_149 : dI cX6_init 149 152 (.putfield 60) 3 := ⟨by decide +kernel, rfl⟩
theorem dX6_init_152 : dI cX6_init 152 153 (.return_) 1 := ⟨by decide +kernel, rfl⟩
def f_X6_init_b108 (k108 : Nat → Int32 → hS → Option (Unit × hS)) (l0 : Nat) (l1 : Int32) (s : hS) : Option (Unit × hS) :=
  if (5 : Int32) ≤ l1 then
    (nA s 10 (60 : Int32)).bind fun s1 =>
    (pR s1 l0 6 8 s.1).bind fun s2 =>
    (pI s2 l0 6 9 (0 : Int32)).bind fun s3 =>
    (nA s3 10 (3 : Int32)).bind fun s4 =>
    (pR s4 l0 6 10 s3.1).bind fun s5 =>
    some ((), s5)
  else
    (gR s l0 6 7).bind fun a6 =>
    (nB s 2 6).bind fun s7 =>
    (f_X2_init s7 s.1).bind fun p8 =>
    (sR p8.2 a6 13 l1 s.1 2).bind fun s9 =>
    k108 l0 (l1 + (1 : Int32)) s9
theorem b_X6_init_108 (E : jE) (k108 : Nat → Int32 → hS → Option (Unit × hS)) (h108 : ∀ (s : hS) (l0 : Nat) (l1 : Int32) , Jo E M_X6_init cvV 108 [(0, .ref l0), (1, .int l1)] [] s (k108 l0 l1 s)) (s : hS) (l0 : Nat) (l1 : Int32)  : Jo E M_X6_init cvV 108 [(0, .ref l0), (1, .int l1)] [] s (f_X6_init_b108 k108 l0 l1 s) := by
  unfold f_X6_init_b108
  refine Jo_iloadn 1 dX6_init_108 rfl rfl ?_
  refine Jo_iconst (v := (5 : Int32)) dX6_init_109 (by decide) ?_
  refine Jo_icmp_ge 132 dX6_init_110 (by decide) rfl ?_ ?_
  · refine Jo_aloadn 0 dX6_init_132 rfl rfl ?_
    refine Jo_bipush (v := (60 : Int32)) dX6_init_133 (by decide) ?_
    refine Jo_newarr htn_10 nty_10 w_24 dX6_init_135 (fun s1 => ?_)
    refine Jo_putR fF_6_8 fR_6_8 (Or.inr ⟨rfl, rfl, rfl⟩) ⟨rfl, rfl⟩ dX6_init_137 w_339 (fun s2 => ?_)
    refine Jo_aloadn 0 dX6_init_140 rfl rfl ?_
    refine Jo_iconst (v := (0 : Int32)) dX6_init_141 (by decide) ?_
    refine Jo_putI fF_6_9 fI_6_9 (Or.inl rfl) rfl dX6_init_142 w_338 (fun s3 => ?_)
    refine Jo_aloadn 0 dX6_init_145 rfl rfl ?_
    refine Jo_iconst (v := (3 : Int32)) dX6_init_146 (by decide) ?_
    refine Jo_newarr htn_10 nty_10 w_24 dX6_init_147 (fun s4 => ?_)
    refine Jo_putR fF_6_10 fR_6_10 (Or.inr ⟨rfl, rfl, rfl⟩) ⟨rfl, rfl⟩ dX6_init_149 w_337 (fun s5 => ?_)
    exact Jo_vret rfl dX6_init_152
  · refine Jo_aloadn 0 dX6_init_113 rfl rfl ?_
    refine Jo_getR fF_6_7 fR_6_7 dX6_init_114 w_343 (fun a6 => ?_)
    refine Jo_iloadn 1 dX6_init_117 rfl rfl ?_
    refine Jo_newB nf_2 ⟨w_341, w_342, w_163⟩ n0_2 dX6_init_118 (fun s7 => ?_)
    refine Jo_dup dX6_init_121 rfl ?_
    refine Jo_callCv (a := s.1) (rest := [.ref s.1, .int l1, .ref a6]) [] rfl yF_X2_init yV_X2_init w_340 rfl rfl ⟨Nat.le_of_ble_eq_true rfl, Nat.le_of_ble_eq_true rfl, Nat.le_of_ble_eq_true rfl⟩ dX6_init_122 rfl (K_X2_init E s7 s.1) (fun p8 => ?_)
    refine Jo_aastore hts_13 dX6_init_125 (fun s9 => ?_)
    refine Jo_iinc (v := (l1 + (1 : Int32))) (ls' := [(1, .int (l1 + (1 : Int32))), (0, .ref l0)]) 1 dX6_init_126 rfl rfl (by decide) rfl ?_
    refine Jo_goto 108 dX6_init_129 (by decide) ?_
    refine Jo_sub [1, 0] rfl ?_
    exact h108 s9 l0 (l1 + (1 : Int32))
theorem e_X6_init_108 (E : jE)  (n : Nat) : ∀ (s : hS) (l0 : Nat) (l1 : Int32) , Jo E M_X6_init cvV 108 [(0, .ref l0), (1, .int l1)] [] s ((jL f_X6_init_b108 (fun _ _ _ => none) n) l0 l1 s) :=
  jL_ind (P := fun f => ∀ (s : hS) (l0 : Nat) (l1 : Int32) , Jo E M_X6_init cvV 108 [(0, .ref l0), (1, .int l1)] [] s (f l0 l1 s)) (fun _ _ _ => Jo_none) (fun b hb s l0 l1 => b_X6_init_108 E  b hb s l0 l1) n
def f_X6_init_b74 (k74 : Nat → Int32 → hS → Option (Unit × hS)) (l0 : Nat) (l1 : Int32) (s : hS) : Option (Unit × hS) :=
  if (4 : Int32) ≤ l1 then
    (nA s 13 (5 : Int32)).bind fun s1 =>
    (pR s1 l0 6 7 s.1).bind fun s2 =>
    jL f_X6_init_b108 (fun _ _ _ => none) jF l0 (0 : Int32) s2
  else
    (gR s l0 6 6).bind fun a3 =>
    (nB s 1 3).bind fun s4 =>
    (f_X1_init s4 s.1).bind fun p5 =>
    (sR p5.2 a3 12 l1 s.1 1).bind fun s6 =>
    k74 l0 (l1 + (1 : Int32)) s6
theorem b_X6_init_74 (E : jE) (k74 : Nat → Int32 → hS → Option (Unit × hS)) (h74 : ∀ (s : hS) (l0 : Nat) (l1 : Int32) , Jo E M_X6_init cvV 74 [(0, .ref l0), (1, .int l1)] [] s (k74 l0 l1 s)) (s : hS) (l0 : Nat) (l1 : Int32)  : Jo E M_X6_init cvV 74 [(0, .ref l0), (1, .int l1)] [] s (f_X6_init_b74 k74 l0 l1 s) := by
  unfold f_X6_init_b74
  refine Jo_iloadn 1 dX6_init_74 rfl rfl ?_
  refine Jo_iconst (v := (4 : Int32)) dX6_init_75 (by decide) ?_
  refine Jo_icmp_ge 98 dX6_init_76 (by decide) rfl ?_ ?_
  · refine Jo_aloadn 0 dX6_init_98 rfl rfl ?_
    refine Jo_iconst (v := (5 : Int32)) dX6_init_99 (by decide) ?_
    refine Jo_anewarr hta_13 w_341 hao_13 dX6_init_100 (fun s1 => ?_)
    refine Jo_putR fF_6_7 fR_6_7 (Or.inr ⟨rfl, rfl, rfl⟩) ⟨rfl, rfl⟩ dX6_init_103 w_343 (fun s2 => ?_)
    refine Jo_iconst (v := (0 : Int32)) dX6_init_106 (by decide) ?_
    refine Jo_istoren (ls' := [(1, .int (0 : Int32)), (0, .ref l0)]) dX6_init_107 rfl (by decide) rfl ?_
    refine Jo_sub [1, 0] rfl ?_
    exact e_X6_init_108 E jF s2 l0 (0 : Int32)
  · refine Jo_aloadn 0 dX6_init_79 rfl rfl ?_
    refine Jo_getR fF_6_6 fR_6_6 dX6_init_80 w_346 (fun a3 => ?_)
    refine Jo_iloadn 1 dX6_init_83 rfl rfl ?_
    refine Jo_newB nf_1 ⟨w_345, w_159, w_142⟩ n0_1 dX6_init_84 (fun s4 => ?_)
    refine Jo_dup dX6_init_87 rfl ?_
    refine Jo_callCv (a := s.1) (rest := [.ref s.1, .int l1, .ref a3]) [] rfl yF_X1_init yV_X1_init w_344 rfl rfl ⟨Nat.le_of_ble_eq_true rfl, Nat.le_of_ble_eq_true rfl, Nat.le_of_ble_eq_true rfl⟩ dX6_init_88 rfl (K_X1_init E s4 s.1) (fun p5 => ?_)
    refine Jo_aastore hts_12 dX6_init_91 (fun s6 => ?_)
    refine Jo_iinc (v := (l1 + (1 : Int32))) (ls' := [(1, .int (l1 + (1 : Int32))), (0, .ref l0)]) 1 dX6_init_92 rfl rfl (by decide) rfl ?_
    refine Jo_goto 74 dX6_init_95 (by decide) ?_
    refine Jo_sub [1, 0] rfl ?_
    exact h74 s6 l0 (l1 + (1 : Int32))
theorem e_X6_init_74 (E : jE)  (n : Nat) : ∀ (s : hS) (l0 : Nat) (l1 : Int32) , Jo E M_X6_init cvV 74 [(0, .ref l0), (1, .int l1)] [] s ((jL f_X6_init_b74 (fun _ _ _ => none) n) l0 l1 s) :=
  jL_ind (P := fun f => ∀ (s : hS) (l0 : Nat) (l1 : Int32) , Jo E M_X6_init cvV 74 [(0, .ref l0), (1, .int l1)] [] s (f l0 l1 s)) (fun _ _ _ => Jo_none) (fun b hb s l0 l1 => b_X6_init_74 E  b hb s l0 l1) n
def f_X6_init (s : hS) (a0 : Nat) : Option (Unit × hS) :=
  (nB s 5 18).bind fun s1 =>
  (f_X5_init s1 s.1).bind fun p2 =>
  (pR p2.2 a0 6 0 s.1).bind fun s3 =>
  (nB s3 5 18).bind fun s4 =>
  (f_X5_init s4 s3.1).bind fun p5 =>
  (pR p5.2 a0 6 1 s3.1).bind fun s6 =>
  (nB s6 5 18).bind fun s7 =>
  (f_X5_init s7 s6.1).bind fun p8 =>
  (pR p8.2 a0 6 2 s6.1).bind fun s9 =>
  (pZ s9 a0 6 3 (0 : Int32)).bind fun s10 =>
  (nB s10 0 10).bind fun s11 =>
  (f_X0_init s11 s10.1).bind fun p12 =>
  (pR p12.2 a0 6 5 s10.1).bind fun s13 =>
  (gR s13 a0 6 5).bind fun a14 =>
  (gR s13 a14 0 0).bind fun a15 =>
  (pR s13 a0 6 4 a15).bind fun s16 =>
  (nA s16 12 (4 : Int32)).bind fun s17 =>
  (pR s17 a0 6 6 s16.1).bind fun s18 =>
  jL f_X6_init_b74 (fun _ _ _ => none) jF a0 (0 : Int32) s18
theorem b_X6_init_in (E : jE)  (s : hS) (a0 : Nat)  : Jo E M_X6_init cvV 0 [(0, .ref a0)] [] s (f_X6_init s a0) := by
  unfold f_X6_init
  refine Jo_aloadn 0 dX6_init_0 rfl rfl ?_
  refine Jo_objInit dX6_init_1 ⟨w_360, w_oi1, w_oi2⟩ ⟨by decide, Nat.le_of_ble_eq_true rfl⟩ ?_
  refine Jo_aloadn 0 dX6_init_4 rfl rfl ?_
  refine Jo_newB nf_5 ⟨w_356, w_357, w_198⟩ n0_5 dX6_init_5 (fun s1 => ?_)
  refine Jo_dup dX6_init_8 rfl ?_
  refine Jo_callCv (a := s.1) (rest := [.ref s.1, .ref a0]) [] rfl yF_X5_init yV_X5_init w_355 rfl rfl ⟨Nat.le_of_ble_eq_true rfl, Nat.le_of_ble_eq_true rfl, Nat.le_of_ble_eq_true rfl⟩ dX6_init_9 rfl (K_X5_init E s1 s.1) (fun p2 => ?_)
  refine Jo_putR fF_6_0 fR_6_0 (Or.inr ⟨rfl, rfl, rfl⟩) ⟨rfl, rfl⟩ dX6_init_12 w_359 (fun s3 => ?_)
  refine Jo_aloadn 0 dX6_init_15 rfl rfl ?_
  refine Jo_newB nf_5 ⟨w_356, w_357, w_198⟩ n0_5 dX6_init_16 (fun s4 => ?_)
  refine Jo_dup dX6_init_19 rfl ?_
  refine Jo_callCv (a := s3.1) (rest := [.ref s3.1, .ref a0]) [] rfl yF_X5_init yV_X5_init w_355 rfl rfl ⟨Nat.le_of_ble_eq_true rfl, Nat.le_of_ble_eq_true rfl, Nat.le_of_ble_eq_true rfl⟩ dX6_init_20 rfl (K_X5_init E s4 s3.1) (fun p5 => ?_)
  refine Jo_putR fF_6_1 fR_6_1 (Or.inr ⟨rfl, rfl, rfl⟩) ⟨rfl, rfl⟩ dX6_init_23 w_358 (fun s6 => ?_)
  refine Jo_aloadn 0 dX6_init_26 rfl rfl ?_
  refine Jo_newB nf_5 ⟨w_356, w_357, w_198⟩ n0_5 dX6_init_27 (fun s7 => ?_)
  refine Jo_dup dX6_init_30 rfl ?_
  refine Jo_callCv (a := s6.1) (rest := [.ref s6.1, .ref a0]) [] rfl yF_X5_init yV_X5_init w_355 rfl rfl ⟨Nat.le_of_ble_eq_true rfl, Nat.le_of_ble_eq_true rfl, Nat.le_of_ble_eq_true rfl⟩ dX6_init_31 rfl (K_X5_init E s7 s6.1) (fun p8 => ?_)
  refine Jo_putR fF_6_2 fR_6_2 (Or.inr ⟨rfl, rfl, rfl⟩) ⟨rfl, rfl⟩ dX6_init_34 w_354 (fun s9 => ?_)
  refine Jo_aloadn 0 dX6_init_37 rfl rfl ?_
  refine Jo_iconst (v := (0 : Int32)) dX6_init_38 (by decide) ?_
  refine Jo_putZ fF_6_3 fI_6_3 (Or.inl rfl) rfl dX6_init_39 w_353 (fun s10 => ?_)
  refine Jo_aloadn 0 dX6_init_42 rfl rfl ?_
  refine Jo_newB nf_0 ⟨w_351, w_352, w_32⟩ n0_0 dX6_init_43 (fun s11 => ?_)
  refine Jo_dup dX6_init_46 rfl ?_
  refine Jo_callCv (a := s10.1) (rest := [.ref s10.1, .ref a0]) [] rfl yF_X0_init yV_X0_init w_350 rfl rfl ⟨Nat.le_of_ble_eq_true rfl, Nat.le_of_ble_eq_true rfl, Nat.le_of_ble_eq_true rfl⟩ dX6_init_47 rfl (K_X0_init E s11 s10.1) (fun p12 => ?_)
  refine Jo_putR fF_6_5 fR_6_5 (Or.inr ⟨rfl, rfl, rfl⟩) ⟨rfl, rfl⟩ dX6_init_50 w_349 (fun s13 => ?_)
  refine Jo_aloadn 0 dX6_init_53 rfl rfl ?_
  refine Jo_aloadn 0 dX6_init_54 rfl rfl ?_
  refine Jo_getR fF_6_5 fR_6_5 dX6_init_55 w_349 (fun a14 => ?_)
  refine Jo_getR fF_0_0 fR_0_0 dX6_init_58 w_348 (fun a15 => ?_)
  refine Jo_putR fF_6_4 fR_6_4 (Or.inr ⟨rfl, rfl, rfl⟩) ⟨rfl, rfl⟩ dX6_init_61 w_347 (fun s16 => ?_)
  refine Jo_aloadn 0 dX6_init_64 rfl rfl ?_
  refine Jo_iconst (v := (4 : Int32)) dX6_init_65 (by decide) ?_
  refine Jo_anewarr hta_12 w_345 hao_12 dX6_init_66 (fun s17 => ?_)
  refine Jo_putR fF_6_6 fR_6_6 (Or.inr ⟨rfl, rfl, rfl⟩) ⟨rfl, rfl⟩ dX6_init_69 w_346 (fun s18 => ?_)
  refine Jo_iconst (v := (0 : Int32)) dX6_init_72 (by decide) ?_
  refine Jo_istoren (ls' := [(1, .int (0 : Int32)), (0, .ref a0)]) dX6_init_73 rfl (by decide) rfl ?_
  refine Jo_sub [1, 0] rfl ?_
  exact e_X6_init_74 E jF s18 a0 (0 : Int32)
theorem K_X6_init (E : jE) (s : hS) (a0 : Nat) : jK E yX6_init M_X6_init cvV [.ref a0] s (f_X6_init s a0) := jK_of ⟨by decide, rfl, rfl⟩ (Nat.le_of_ble_eq_true rfl) (b_X6_init_in E s a0)
/-! HeronTalk.isOutside(III)Z -/
abbrev M_X6_isOutside : jM := (RX6, cX6_isOutside, 3, (some .boolean), "isOutside", 0, 0)
theorem yF_X6_isOutside : yF yX6_isOutside M_X6_isOutside 3 := ⟨w_363, w_278, by decide +kernel⟩
theorem yS_X6_isOutside : Cond.static yX6_isOutside ∈ tbG := w_364
theorem dX6_isOutside_0 : dI cX6_isOutside 0 1 (.iload_n 0) 1 := ⟨by decide +kernel, rfl⟩
theorem dX6_isOutside_1 : dI cX6_isOutside 1 2 (.iload_n 1) 1 := ⟨by decide +kernel, rfl⟩
theorem dX6_isOutside_2 : decode cX6_isOutside 2 = .ok (.if_icmp .lt 8, 3) := by decide +kernel
theorem dX6_isOutside_5 : dI cX6_isOutside 5 6 (.iload_n 0) 1 := ⟨by decide +kernel, rfl⟩
theorem dX6_isOutside_6 : dI cX6_isOutside 6 7 (.iload_n 2) 1 := ⟨by decide +kernel, rfl⟩
theorem dX6_isOutside_7 : decode cX6_isOutside 7 = .ok (.if_icmp .le 7, 3) := by decide +kernel
theorem dX6_isOutside_10 : dI cX6_isOutside 10 11 (.iconst 1) 1 := ⟨by decide +kernel, rfl⟩
theorem dX6_isOutside_11 : decode cX6_isOutside 11 = .ok (.goto 4, 3) := by decide +kernel
theorem dX6_isOutside_14 : dI cX6_isOutside 14 15 (.iconst 0) 1 := ⟨by decide +kernel, rfl⟩
theorem dX6_isOutside_15 : dI cX6_isOutside 15 16 (.ireturn) 1 := ⟨by decide +kernel, rfl⟩
def f_X6_isOutside_b10 (s : hS) : Option (Int32 × hS) :=
  some ((1 : Int32), s)
theorem b_X6_isOutside_10 (E : jE)  (s : hS)   : Jo E M_X6_isOutside cvI 10 [] [] s (f_X6_isOutside_b10   s) := by
  unfold f_X6_isOutside_b10
  refine Jo_iconst (v := (1 : Int32)) dX6_isOutside_10 (by decide) ?_
  refine Jo_goto 15 dX6_isOutside_11 (by decide) ?_
  exact Jo_zret1 rfl dX6_isOutside_15
def f_X6_isOutside (s : hS) (i0 : Int32) (i1 : Int32) (i2 : Int32) : Option (Int32 × hS) :=
  if i0 < i1 then
    f_X6_isOutside_b10  s
  else
    if i0 ≤ i2 then
      some ((0 : Int32), s)
    else
      f_X6_isOutside_b10  s
theorem b_X6_isOutside_in (E : jE)  (s : hS) (i0 : Int32) (i1 : Int32) (i2 : Int32)  : Jo E M_X6_isOutside cvI 0 [(0, .int i0), (1, .int i1), (2, .int i2)] [] s (f_X6_isOutside s i0 i1 i2) := by
  unfold f_X6_isOutside
  refine Jo_iloadn 0 dX6_isOutside_0 rfl rfl ?_
  refine Jo_iloadn 1 dX6_isOutside_1 rfl rfl ?_
  refine Jo_icmp_lt 10 dX6_isOutside_2 (by decide) rfl ?_ ?_
  · refine Jo_sub [] rfl ?_
    exact b_X6_isOutside_10 E s 
  · refine Jo_iloadn 0 dX6_isOutside_5 rfl rfl ?_
    refine Jo_iloadn 2 dX6_isOutside_6 rfl rfl ?_
    refine Jo_icmp_le 14 dX6_isOutside_7 (by decide) rfl ?_ ?_
    · refine Jo_iconst (v := (0 : Int32)) dX6_isOutside_14 (by decide) ?_
      exact Jo_zret0 rfl dX6_isOutside_15
    · refine Jo_sub [] rfl ?_
      exact b_X6_isOutside_10 E s 
theorem K_X6_isOutside (E : jE) (s : hS) (i0 : Int32) (i1 : Int32) (i2 : Int32) : jK E yX6_isOutside M_X6_isOutside cvI [.int i0, .int i1, .int i2] s (f_X6_isOutside s i0 i1 i2) := jK_of ⟨by decide, rfl, rfl⟩ (Nat.le_of_ble_eq_true rfl) (b_X6_isOutside_in E s i0 i1 i2)
