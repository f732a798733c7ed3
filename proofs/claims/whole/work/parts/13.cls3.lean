/-! HeronTalk$Sheet.hasNoRow(II)Z -/
abbrev M_X1_hasNoRow : jM := (RX1, cX1_hasNoRow, 3, (some .boolean), "hasNoRow", 0, 0)
theorem yF_X1_hasNoRow : yF yX1_hasNoRow M_X1_hasNoRow 2 := ⟨w_153, w_142, by decide +kernel⟩
theorem yV_X1_hasNoRow : Cond.instanceMethod yX1_hasNoRow ∈ tbG ∧ Cond.selects yX1_hasNoRow.cls yX1_hasNoRow yX1_hasNoRow ∈ tbG := ⟨w_154, w_155⟩
theorem dX1_hasNoRow_0 : dI cX1_hasNoRow 0 1 (.iload_n 1) 1 := ⟨by decide +kernel, rfl⟩
theorem dX1_hasNoRow_1 : decode cX1_hasNoRow 1 = .ok (.ifCond .lt 25, 3) := by decide +kernel
theorem dX1_hasNoRow_4 : dI cX1_hasNoRow 4 5 (.iload_n 2) 1 := ⟨by decide +kernel, rfl⟩
theorem dX1_hasNoRow_5 : decode cX1_hasNoRow 5 = .ok (.ifCond .lt 21, 3) := by decide +kernel
theorem dX1_hasNoRow_8 : dI cX1_hasNoRow 8 9 (.iload_n 2) 1 := ⟨by decide +kernel, rfl⟩
theorem dX1_hasNoRow_9 : dI cX1_hasNoRow 9 10 (.aload_n 0) 1 := ⟨by decide +kernel, rfl⟩
theorem dX1_hasNoRow_10 : dI cX1_hasNoRow 10 13 (.getfield 15) 3 := ⟨by decide +kernel, rfl⟩
theorem dX1_hasNoRow_13 : decode cX1_hasNoRow 13 = .ok (.if_icmp .gt 13, 3) := by decide +kernel
theorem dX1_hasNoRow_16 : dI cX1_hasNoRow 16 17 (.iload_n 1) 1 := ⟨by decide +kernel, rfl⟩
theorem dX1_hasNoRow_17 : dI cX1_hasNoRow 17 18 (.aload_n 0) 1 := ⟨by decide +kernel, rfl⟩
theorem dX1_hasNoRow_18 : dI cX1_hasNoRow 18 21 (.getfield 15) 3 := ⟨by decide +kernel, rfl⟩
theorem dX1_hasNoRow_21 : dI cX1_hasNoRow 21 22 (.iload_n 2) 1 := ⟨by decide +kernel, rfl⟩
theorem dX1_hasNoRow_22 : dI cX1_hasNoRow 22 23 (.isub) 1 := ⟨by decide +kernel, rfl⟩
theorem dX1_hasNoRow_23 : decode cX1_hasNoRow 23 = .ok (.if_icmp .le 7, 3) := by decide +kernel
theorem dX1_hasNoRow_26 : dI cX1_hasNoRow 26 27 (.iconst 1) 1 := ⟨by decide +kernel, rfl⟩
theorem dX1_hasNoRow_27 : decode cX1_hasNoRow 27 = .ok (.goto 4, 3) := by decide +kernel
theorem dX1_hasNoRow_30 : dI cX1_hasNoRow 30 31 (.iconst 0) 1 := ⟨by decide +kernel, rfl⟩
theorem dX1_hasNoRow_31 : dI cX1_hasNoRow 31 32 (.ireturn) 1 := ⟨by decide +kernel, rfl⟩
def f_X1_hasNoRow_b26 (s : hS) : Option (Int32 × hS) :=
  some ((1 : Int32), s)
theorem b_X1_hasNoRow_26 (E : jE)  (s : hS)   : Jo E M_X1_hasNoRow cvI 26 [] [] s (f_X1_hasNoRow_b26   s) := by
  unfold f_X1_hasNoRow_b26
  refine Jo_iconst (v := (1 : Int32)) dX1_hasNoRow_26 (by decide) ?_
  refine Jo_goto 31 dX1_hasNoRow_27 (by decide) ?_
  exact Jo_zret1 rfl dX1_hasNoRow_31
def f_X1_hasNoRow (s : hS) (a0 : Nat) (i1 : Int32) (i2 : Int32) : Option (Int32 × hS) :=
  if i1 < 0 then
    f_X1_hasNoRow_b26  s
  else
    if i2 < 0 then
      f_X1_hasNoRow_b26  s
    else
      (gI s a0 1 1).bind fun x1 =>
      if x1 < i2 then
        f_X1_hasNoRow_b26  s
      else
        (gI s a0 1 1).bind fun x2 =>
        if i1 ≤ (x2 - i2) then
          some ((0 : Int32), s)
        else
          f_X1_hasNoRow_b26  s
theorem b_X1_hasNoRow_in (E : jE)  (s : hS) (a0 : Nat) (i1 : Int32) (i2 : Int32)  : Jo E M_X1_hasNoRow cvI 0 [(0, .ref a0), (1, .int i1), (2, .int i2)] [] s (f_X1_hasNoRow s a0 i1 i2) := by
  unfold f_X1_hasNoRow
  refine Jo_iloadn 1 dX1_hasNoRow_0 rfl rfl ?_
  refine Jo_if_lt 26 dX1_hasNoRow_1 (by decide) rfl ?_ ?_
  · refine Jo_sub [] rfl ?_
    exact b_X1_hasNoRow_26 E s 
  · refine Jo_iloadn 2 dX1_hasNoRow_4 rfl rfl ?_
    refine Jo_if_lt 26 dX1_hasNoRow_5 (by decide) rfl ?_ ?_
    · refine Jo_sub [] rfl ?_
      exact b_X1_hasNoRow_26 E s 
    · refine Jo_iloadn 2 dX1_hasNoRow_8 rfl rfl ?_
      refine Jo_aloadn 0 dX1_hasNoRow_9 rfl rfl ?_
      refine Jo_getI fF_1_1 fI_1_1 dX1_hasNoRow_10 w_138 (fun x1 => ?_)
      refine Jo_icmp_gt 26 dX1_hasNoRow_13 (by decide) rfl ?_ ?_
      · refine Jo_sub [] rfl ?_
        exact b_X1_hasNoRow_26 E s 
      · refine Jo_iloadn 1 dX1_hasNoRow_16 rfl rfl ?_
        refine Jo_aloadn 0 dX1_hasNoRow_17 rfl rfl ?_
        refine Jo_getI fF_1_1 fI_1_1 dX1_hasNoRow_18 w_138 (fun x2 => ?_)
        refine Jo_iloadn 2 dX1_hasNoRow_21 rfl rfl ?_
        refine Jo_isub dX1_hasNoRow_22 ?_
        refine Jo_icmp_le 30 dX1_hasNoRow_23 (by decide) rfl ?_ ?_
        · refine Jo_iconst (v := (0 : Int32)) dX1_hasNoRow_30 (by decide) ?_
          exact Jo_zret0 rfl dX1_hasNoRow_31
        · refine Jo_sub [] rfl ?_
          exact b_X1_hasNoRow_26 E s 
theorem K_X1_hasNoRow (E : jE) (s : hS) (a0 : Nat) (i1 : Int32) (i2 : Int32) : jK E yX1_hasNoRow M_X1_hasNoRow cvI [.ref a0, .int i1, .int i2] s (f_X1_hasNoRow s a0 i1 i2) := jK_of ⟨by decide, rfl, rfl⟩ (Nat.le_of_ble_eq_true rfl) (b_X1_hasNoRow_in E s a0 i1 i2)
/-! HeronTalk$Slot.<init>()V -/
abbrev M_X2_init : jM := (RX2, cX2_init, 1, (none : Option Jvm.ClassFile.FieldType), "<init>", 2, 40)
theorem yF_X2_init : yF yX2_init M_X2_init 0 := ⟨w_162, w_163, by decide +kernel⟩
theorem yV_X2_init : Cond.instanceMethod yX2_init ∈ tbG ∧ yX2_init.name = "<init>" := ⟨w_164, rfl⟩
theorem dX2_init_0 : dI cX2_init 0 1 (.aload_n 0) 1 := ⟨by decide +kernel, rfl⟩
theorem dX2_init_1 : dI cX2_init 1 4 (.invokespecial 3) 3 := ⟨by decide +kernel, rfl⟩
theorem dX2_init_4 : dI cX2_init 4 5 (.aload_n 0) 1 := ⟨by decide +kernel, rfl⟩
theorem dX2_init_5 : dI cX2_init 5 6 (.iconst 0) 1 := ⟨by decide +kernel, rfl⟩
theorem dX2_init_6 : dI cX2_init 6 9 (.putfield 9) 3 := ⟨by decide +kernel, rfl⟩
theorem dX2_init_9 : dI cX2_init 9 10 (.aload_n 0) 1 := ⟨by decide +kernel, rfl⟩
theorem dX2_init_10 : dI cX2_init 10 13 (.new 15) 3 := ⟨by decide +kernel, rfl⟩
theorem dX2_init_13 : dI cX2_init 13 14 (.dup) 1 := ⟨by decide +kernel, rfl⟩
theorem dX2_init_14 : decode cX2_init 14 = .ok (.invokespecial 17, 3) := by decide +kernel
theorem dX2_init_17 : dI cX2_init 17 20 (.putfield 18) 3 := ⟨by decide +kernel, rfl⟩
theorem dX2_init_20 : dI cX2_init 20 21 (.return_) 1 := ⟨by decide +kernel, rfl⟩
def f_X2_init (s : hS) (a0 : Nat) : Option (Unit × hS) :=
  (pI s a0 2 0 (0 : Int32)).bind fun s1 =>
  (nB s1 1 3).bind fun s2 =>
  (f_X1_init s2 s1.1).bind fun p3 =>
  (pR p3.2 a0 2 5 s1.1).bind fun s4 =>
  some ((), s4)
theorem b_X2_init_in (E : jE)  (s : hS) (a0 : Nat)  : Jo E M_X2_init cvV 0 [(0, .ref a0)] [] s (f_X2_init s a0) := by
  unfold f_X2_init
  refine Jo_aloadn 0 dX2_init_0 rfl rfl ?_
  refine Jo_objInit dX2_init_1 ⟨w_161, w_oi1, w_oi2⟩ ⟨by decide, Nat.le_of_ble_eq_true rfl⟩ ?_
  refine Jo_aloadn 0 dX2_init_4 rfl rfl ?_
  refine Jo_iconst (v := (0 : Int32)) dX2_init_5 (by decide) ?_
  refine Jo_putI fF_2_0 fI_2_0 (Or.inl rfl) rfl dX2_init_6 w_160 (fun s1 => ?_)
  refine Jo_aloadn 0 dX2_init_9 rfl rfl ?_
  refine Jo_newB nf_1 ⟨w_158, w_159, w_142⟩ n0_1 dX2_init_10 (fun s2 => ?_)
  refine Jo_dup dX2_init_13 rfl ?_
  refine Jo_callCv (a := s1.1) (rest := [.ref s1.1, .ref a0]) [] rfl yF_X1_init yV_X1_init w_157 rfl rfl ⟨Nat.le_of_ble_eq_true rfl, Nat.le_of_ble_eq_true rfl, Nat.le_of_ble_eq_true rfl⟩ dX2_init_14 rfl (K_X1_init E s2 s1.1) (fun p3 => ?_)
  refine Jo_putR fF_2_5 fR_2_5 (Or.inr ⟨rfl, rfl, rfl⟩) ⟨rfl, rfl⟩ dX2_init_17 w_156 (fun s4 => ?_)
  exact Jo_vret rfl dX2_init_20
theorem K_X2_init (E : jE) (s : hS) (a0 : Nat) : jK E yX2_init M_X2_init cvV [.ref a0] s (f_X2_init s a0) := jK_of ⟨by decide, rfl, rfl⟩ (Nat.le_of_ble_eq_true rfl) (b_X2_init_in E s a0)
/-! HeronTalk$Slot.holdTalk(III)V -/
abbrev M_X2_holdTalk : jM := (RX2, cX2_holdTalk, 4, (none : Option Jvm.ClassFile.FieldType), "holdTalk", 0, 0)
theorem yF_X2_holdTalk : yF yX2_holdTalk M_X2_holdTalk 3 := ⟨w_168, w_163, by decide +kernel⟩
theorem yV_X2_holdTalk : Cond.instanceMethod yX2_holdTalk ∈ tbG ∧ Cond.selects yX2_holdTalk.cls yX2_holdTalk yX2_holdTalk ∈ tbG := ⟨w_169, w_170⟩
theorem dX2_holdTalk_0 : dI cX2_holdTalk 0 1 (.aload_n 0) 1 := ⟨by decide +kernel, rfl⟩
theorem dX2_holdTalk_1 : dI cX2_holdTalk 1 2 (.iload_n 1) 1 := ⟨by decide +kernel, rfl⟩
theorem dX2_holdTalk_2 : dI cX2_holdTalk 2 5 (.putfield 22) 3 := ⟨by decide +kernel, rfl⟩
theorem dX2_holdTalk_5 : dI cX2_holdTalk 5 6 (.aload_n 0) 1 := ⟨by decide +kernel, rfl⟩
theorem dX2_holdTalk_6 : dI cX2_holdTalk 6 7 (.iload_n 2) 1 := ⟨by decide +kernel, rfl⟩
theorem dX2_holdTalk_7 : dI cX2_holdTalk 7 10 (.putfield 25) 3 := ⟨by decide +kernel, rfl⟩
theorem dX2_holdTalk_10 : dI cX2_holdTalk 10 11 (.aload_n 0) 1 := ⟨by decide +kernel, rfl⟩
theorem dX2_holdTalk_11 : dI cX2_holdTalk 11 12 (.iload_n 3) 1 := ⟨by decide +kernel, rfl⟩
theorem dX2_holdTalk_12 : dI cX2_holdTalk 12 15 (.putfield 28) 3 := ⟨by decide +kernel, rfl⟩
theorem dX2_holdTalk_15 : dI cX2_holdTalk 15 16 (.return_) 1 := ⟨by decide +kernel, rfl⟩
def f_X2_holdTalk (s : hS) (a0 : Nat) (i1 : Int32) (i2 : Int32) (i3 : Int32) : Option (Unit × hS) :=
  (pI s a0 2 1 i1).bind fun s1 =>
  (pI s1 a0 2 2 i2).bind fun s2 =>
  (pI s2 a0 2 3 i3).bind fun s3 =>
  some ((), s3)
theorem b_X2_holdTalk_in (E : jE)  (s : hS) (a0 : Nat) (i1 : Int32) (i2 : Int32) (i3 : Int32)  : Jo E M_X2_holdTalk cvV 0 [(0, .ref a0), (1, .int i1), (2, .int i2), (3, .int i3)] [] s (f_X2_holdTalk s a0 i1 i2 i3) := by
  unfold f_X2_holdTalk
  refine Jo_aloadn 0 dX2_holdTalk_0 rfl rfl ?_
  refine Jo_iloadn 1 dX2_holdTalk_1 rfl rfl ?_
  refine Jo_putI fF_2_1 fI_2_1 (Or.inl rfl) rfl dX2_holdTalk_2 w_167 (fun s1 => ?_)
  refine Jo_aloadn 0 dX2_holdTalk_5 rfl rfl ?_
  refine Jo_iloadn 2 dX2_holdTalk_6 rfl rfl ?_
  refine Jo_putI fF_2_2 fI_2_2 (Or.inl rfl) rfl dX2_holdTalk_7 w_166 (fun s2 => ?_)
  refine Jo_aloadn 0 dX2_holdTalk_10 rfl rfl ?_
  refine Jo_iloadn 3 dX2_holdTalk_11 rfl rfl ?_
  refine Jo_putI fF_2_3 fI_2_3 (Or.inl rfl) rfl dX2_holdTalk_12 w_165 (fun s3 => ?_)
  exact Jo_vret rfl dX2_holdTalk_15
theorem K_X2_holdTalk (E : jE) (s : hS) (a0 : Nat) (i1 : Int32) (i2 : Int32) (i3 : Int32) : jK E yX2_holdTalk M_X2_holdTalk cvV [.ref a0, .int i1, .int i2, .int i3] s (f_X2_holdTalk s a0 i1 i2 i3) := jK_of ⟨by decide, rfl, rfl⟩ (Nat.le_of_ble_eq_true rfl) (b_X2_holdTalk_in E s a0 i1 i2 i3)
/-! HeronTalk$Tape.add(I)V -/
abbrev M_X3_add : jM := (RX3, cX3_add, 3, (none : Option Jvm.ClassFile.FieldType), "add", 0, 0)
theorem yF_X3_add : yF yX3_add M_X3_add 1 := ⟨w_171, w_21, by decide +kernel⟩
theorem yV_X3_add : Cond.instanceMethod yX3_add ∈ tbG ∧ Cond.selects yX3_add.cls yX3_add yX3_add ∈ tbG := ⟨w_172, w_173⟩
theorem dX3_add_0 : dI cX3_add 0 2 (.bipush 24) 2 := ⟨by decide +kernel, rfl⟩
theorem dX3_add_2 : dI cX3_add 2 3 (.istore_n 2) 1 := ⟨by decide +kernel, rfl⟩
theorem dX3_add_3 : dI cX3_add 3 4 (.iload_n 2) 1 := ⟨by decide +kernel, rfl⟩
theorem dX3_add_4 : decode cX3_add 4 = .ok (.ifCond .lt 41, 3) := by decide +kernel
theorem dX3_add_7 : dI cX3_add 7 8 (.aload_n 0) 1 := ⟨by decide +kernel, rfl⟩
theorem dX3_add_8 : dI cX3_add 8 11 (.getfield 15) 3 := ⟨by decide +kernel, rfl⟩
theorem dX3_add_11 : dI cX3_add 11 13 (.bipush 96) 2 := ⟨by decide +kernel, rfl⟩
theorem dX3_add_13 : decode cX3_add 13 = .ok (.if_icmp .ge 32, 3) := by decide +kernel
theorem dX3_add_16 : dI cX3_add 16 17 (.aload_n 0) 1 := ⟨by decide +kernel, rfl⟩
theorem dX3_add_17 : dI cX3_add 17 20 (.getfield 9) 3 := ⟨by decide +kernel, rfl⟩
theorem dX3_add_20 : dI cX3_add 20 21 (.aload_n 0) 1 := ⟨by decide +kernel, rfl⟩
theorem dX3_add_21 : dI cX3_add 21 24 (.getfield 15) 3 := ⟨by decide +kernel, rfl⟩
theorem dX3_add_24 : dI cX3_add 24 25 (.iload_n 1) 1 := ⟨by decide +kernel, rfl⟩
theorem dX3_add_25 : dI cX3_add 25 26 (.iload_n 2) 1 := ⟨by decide +kernel, rfl⟩
theorem dX3_add_26 : dI cX3_add 26 27 (.ishr) 1 := ⟨by decide +kernel, rfl⟩
theorem dX3_add_27 : dI cX3_add 27 28 (.i2b) 1 := ⟨by decide +kernel, rfl⟩
theorem dX3_add_28 : dI cX3_add 28 29 (.bastore) 1 := ⟨by decide +kernel, rfl⟩
theorem dX3_add_29 : dI cX3_add 29 30 (.aload_n 0) 1 := ⟨by decide +kernel, rfl⟩
theorem dX3_add_30 : dI cX3_add 30 31 (.dup) 1 := ⟨by decide +kernel, rfl⟩
theorem dX3_add_31 : dI cX3_add 31 34 (.getfield 15) 3 := ⟨by decide +kernel, rfl⟩
theorem dX3_add_34 : dI cX3_add 34 35 (.iconst 1) 1 := ⟨by decide +kernel, rfl⟩
theorem dX3_add_35 : dI cX3_add 35 36 (.iadd) 1 := ⟨by decide +kernel, rfl⟩
theorem dX3_add_36 : dI cX3_add 36 39 (.putfield 15) 3 := ⟨by decide +kernel, rfl⟩
theorem dX3_add_39 : dI cX3_add 39 42 (.iinc 2 (-8)) 3 := ⟨by decide +kernel, rfl⟩
theorem dX3_add_42 : decode cX3_add 42 = .ok (.goto (-39), 3) := by decide +kernel
theorem dX3_add_45 : dI cX3_add 45 46 (.return_) 1 := ⟨by decide +kernel, rfl⟩
def f_X3_add_b3 (k3 : Nat → Int32 → Int32 → hS → Option (Unit × hS)) (l0 : Nat) (l1 : Int32) (l2 : Int32) (s : hS) : Option (Unit × hS) :=
  if l2 < 0 then
    some ((), s)
  else
    (gI s l0 3 1).bind fun x1 =>
    if (96 : Int32) ≤ x1 then
      some ((), s)
    else
      (gR s l0 3 0).bind fun a2 =>
      (gI s l0 3 1).bind fun x3 =>
      (sI s a2 8 x3 (vp_nar .byte ((l1 >>> (l2 &&& 31))).toInt8.toInt32)).bind fun s4 =>
      (gI s4 l0 3 1).bind fun x5 =>
      (pI s4 l0 3 1 (x5 + (1 : Int32))).bind fun s6 =>
      k3 l0 l1 (l2 + (-8 : Int32)) s6
theorem b_X3_add_3 (E : jE) (k3 : Nat → Int32 → Int32 → hS → Option (Unit × hS)) (h3 : ∀ (s : hS) (l0 : Nat) (l1 : Int32) (l2 : Int32) , Jo E M_X3_add cvV 3 [(0, .ref l0), (1, .int l1), (2, .int l2)] [] s (k3 l0 l1 l2 s)) (s : hS) (l0 : Nat) (l1 : Int32) (l2 : Int32)  : Jo E M_X3_add cvV 3 [(0, .ref l0), (1, .int l1), (2, .int l2)] [] s (f_X3_add_b3 k3 l0 l1 l2 s) := by
  unfold f_X3_add_b3
  refine Jo_iloadn 2 dX3_add_3 rfl rfl ?_
  refine Jo_if_lt 45 dX3_add_4 (by decide) rfl ?_ ?_
  · exact Jo_vret rfl dX3_add_45
  · refine Jo_aloadn 0 dX3_add_7 rfl rfl ?_
    refine Jo_getI fF_3_1 fI_3_1 dX3_add_8 w_16 (fun x1 => ?_)
    refine Jo_bipush (v := (96 : Int32)) dX3_add_11 (by decide) ?_
    refine Jo_icmp_ge 45 dX3_add_13 (by decide) rfl ?_ ?_
    · exact Jo_vret rfl dX3_add_45
    · refine Jo_aloadn 0 dX3_add_16 rfl rfl ?_
      refine Jo_getR fF_3_0 fR_3_0 dX3_add_17 w_17 (fun a2 => ?_)
      refine Jo_aloadn 0 dX3_add_20 rfl rfl ?_
      refine Jo_getI fF_3_1 fI_3_1 dX3_add_21 w_16 (fun x3 => ?_)
      refine Jo_iloadn 1 dX3_add_24 rfl rfl ?_
      refine Jo_iloadn 2 dX3_add_25 rfl rfl ?_
      refine Jo_ishr dX3_add_26 ?_
      refine Jo_i2b dX3_add_27 ?_
      refine Jo_bastore dX3_add_28 (fun s4 => ?_)
      refine Jo_aloadn 0 dX3_add_29 rfl rfl ?_
      refine Jo_dup dX3_add_30 rfl ?_
      refine Jo_getI fF_3_1 fI_3_1 dX3_add_31 w_16 (fun x5 => ?_)
      refine Jo_iconst (v := (1 : Int32)) dX3_add_34 (by decide) ?_
      refine Jo_iadd dX3_add_35 ?_
      refine Jo_putI fF_3_1 fI_3_1 (Or.inl rfl) rfl dX3_add_36 w_16 (fun s6 => ?_)
      refine Jo_iinc (v := (l2 + (-8 : Int32))) (ls' := [(2, .int (l2 + (-8 : Int32))), (0, .ref l0), (1, .int l1)]) 2 dX3_add_39 rfl rfl (by decide) rfl ?_
      refine Jo_goto 3 dX3_add_42 (by decide) ?_
      refine Jo_sub [1, 2, 0] rfl ?_
      exact h3 s6 l0 l1 (l2 + (-8 : Int32))
theorem e_X3_add_3 (E : jE)  (n : Nat) : ∀ (s : hS) (l0 : Nat) (l1 : Int32) (l2 : Int32) , Jo E M_X3_add cvV 3 [(0, .ref l0), (1, .int l1), (2, .int l2)] [] s ((jL f_X3_add_b3 (fun _ _ _ _ => none) n) l0 l1 l2 s) :=
  jL_ind (P := fun f => ∀ (s : hS) (l0 : Nat) (l1 : Int32) (l2 : Int32) , Jo E M_X3_add cvV 3 [(0, .ref l0), (1, .int l1), (2, .int l2)] [] s (f l0 l1 l2 s)) (fun _ _ _ _ => Jo_none) (fun b hb s l0 l1 l2 => b_X3_add_3 E  b hb s l0 l1 l2) n
def f_X3_add (s : hS) (a0 : Nat) (i1 : Int32) : Option (Unit × hS) :=
  jL f_X3_add_b3 (fun _ _ _ _ => none) jF a0 i1 (24 : Int32) s
theorem b_X3_add_in (E : jE)  (s : hS) (a0 : Nat) (i1 : Int32)  : Jo E M_X3_add cvV 0 [(0, .ref a0), (1, .int i1)] [] s (f_X3_add s a0 i1) := by
  unfold f_X3_add
  refine Jo_bipush (v := (24 : Int32)) dX3_add_0 (by decide) ?_
  refine Jo_istoren (ls' := [(2, .int (24 : Int32)), (0, .ref a0), (1, .int i1)]) dX3_add_2 rfl (by decide) rfl ?_
  refine Jo_sub [1, 2, 0] rfl ?_
  exact e_X3_add_3 E jF s a0 i1 (24 : Int32)
theorem K_X3_add (E : jE) (s : hS) (a0 : Nat) (i1 : Int32) : jK E yX3_add M_X3_add cvV [.ref a0, .int i1] s (f_X3_add s a0 i1) := jK_of ⟨by decide, rfl, rfl⟩ (Nat.le_of_ble_eq_true rfl) (b_X3_add_in E s a0 i1)
