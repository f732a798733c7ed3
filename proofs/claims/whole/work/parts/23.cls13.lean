/-! HeronTalk.textTold(II)I -/
abbrev M_X6_textTold : jM := (RX6, cX6_textTold, 4, (some .int), "textTold", 0, 0)
theorem yF_X6_textTold : yF yX6_textTold M_X6_textTold 2 := ⟨w_521, w_278, by decide +kernel⟩
theorem yV_X6_textTold : Cond.instanceMethod yX6_textTold ∈ tbG ∧ Cond.selects yX6_textTold.cls yX6_textTold yX6_textTold ∈ tbG := ⟨w_522, w_523⟩
theorem dX6_textTold_0 : dI cX6_textTold 0 1 (.iload_n 1) 1 := ⟨by decide +kernel, rfl⟩
theorem dX6_textTold_1 : decode cX6_textTold 1 = .ok (.ifCond .lt 14, 3) := by decide +kernel
theorem dX6_textTold_4 : dI cX6_textTold 4 5 (.iload_n 1) 1 := ⟨by decide +kernel, rfl⟩
theorem dX6_textTold_5 : dI cX6_textTold 5 6 (.aload_n 0) 1 := ⟨by decide +kernel, rfl⟩
theorem dX6_textTold_6 : dI cX6_textTold 6 9 (.getfield 10) 3 := ⟨by decide +kernel, rfl⟩
theorem dX6_textTold_9 : dI cX6_textTold 9 12 (.getfield 237) 3 := ⟨by decide +kernel, rfl⟩
theorem dX6_textTold_12 : decode cX6_textTold 12 = .ok (.if_icmp .lt 6, 3) := by decide +kernel
theorem dX6_textTold_15 : dI cX6_textTold 15 17 (.ldc 67) 2 := ⟨by decide +kernel, rfl⟩
theorem dX6_textTold_17 : dI cX6_textTold 17 18 (.ireturn) 1 := ⟨by decide +kernel, rfl⟩
theorem dX6_textTold_18 : dI cX6_textTold 18 19 (.aload_n 0) 1 := ⟨by decide +kernel, rfl⟩
theorem dX6_textTold_19 : dI cX6_textTold 19 22 (.getfield 10) 3 := ⟨by decide +kernel, rfl⟩
theorem dX6_textTold_22 : dI cX6_textTold 22 25 (.getfield 248) 3 := ⟨by decide +kernel, rfl⟩
theorem dX6_textTold_25 : dI cX6_textTold 25 26 (.iload_n 1) 1 := ⟨by decide +kernel, rfl⟩
theorem dX6_textTold_26 : dI cX6_textTold 26 27 (.aaload) 1 := ⟨by decide +kernel, rfl⟩
theorem dX6_textTold_27 : dI cX6_textTold 27 28 (.astore_n 3) 1 := ⟨by decide +kernel, rfl⟩
theorem dX6_textTold_28 : dI cX6_textTold 28 29 (.aload_n 3) 1 := ⟨by decide +kernel, rfl⟩
theorem dX6_textTold_29 : decode cX6_textTold 29 = .ok (.ifnonnull 6, 3) := by decide +kernel
theorem dX6_textTold_35 : dI cX6_textTold 35 36 (.iload_n 2) 1 := ⟨by decide +kernel, rfl⟩
theorem dX6_textTold_36 : decode cX6_textTold 36 = .ok (.lookupswitch 38 #[(0, 28), (1, 33)], 28) := by decide +kernel
theorem dX6_textTold_64 : dI cX6_textTold 64 65 (.aload_n 3) 1 := ⟨by decide +kernel, rfl⟩
theorem dX6_textTold_65 : dI cX6_textTold 65 68 (.getfield 252) 3 := ⟨by decide +kernel, rfl⟩
theorem dX6_textTold_68 : dI cX6_textTold 68 69 (.ireturn) 1 := ⟨by decide +kernel, rfl⟩
theorem dX6_textTold_69 : dI cX6_textTold 69 70 (.aload_n 3) 1 := ⟨by decide +kernel, rfl⟩
theorem dX6_textTold_70 : dI cX6_textTold 70 73 (.getfield 257) 3 := ⟨by decide +kernel, rfl⟩
theorem dX6_textTold_73 : dI cX6_textTold 73 74 (.ireturn) 1 := ⟨by decide +kernel, rfl⟩
theorem dX6_textTold_74 : dI cX6_textTold 74 76 (.ldc 67) 2 := ⟨by decide +kernel, rfl⟩
theorem dX6_textTold_76 : dI cX6_textTold 76 77 (.ireturn) 1 := ⟨by decide +kernel, rfl⟩
def f_X6_textTold (s : hS) (a0 : Nat) (i1 : Int32) (i2 : Int32) : Option (Int32 × hS) :=
  if i1 < 0 then
    some ((-1000000001 : Int32), s)
  else
    (gR s a0 6 0).bind fun a1 =>
    (gI s a1 5 4).bind fun x2 =>
    if i1 < x2 then
      (gR s a0 6 0).bind fun a3 =>
      (gR s a3 5 17).bind fun a4 =>
      (aR s a4 14 i1).bind fun a5 =>
      if i2 = (0 : Int32) then
        (gI s a5 4 0).bind fun x7 =>
        some (x7, s)
      else
      if i2 = (1 : Int32) then
        (gI s a5 4 1).bind fun x9 =>
        some (x9, s)
      else
      some ((-1000000001 : Int32), s)
    else
      some ((-1000000001 : Int32), s)
theorem b_X6_textTold_in (E : jE)  (s : hS) (a0 : Nat) (i1 : Int32) (i2 : Int32)  : Jo E M_X6_textTold cvI 0 [(0, .ref a0), (1, .int i1), (2, .int i2)] [] s (f_X6_textTold s a0 i1 i2) := by
  unfold f_X6_textTold
  refine Jo_iloadn 1 dX6_textTold_0 rfl rfl ?_
  refine Jo_if_lt 15 dX6_textTold_1 (by decide) rfl ?_ ?_
  · refine Jo_ldc dX6_textTold_15 w_368 ?_
    exact Jo_iret rfl dX6_textTold_17
  · refine Jo_iloadn 1 dX6_textTold_4 rfl rfl ?_
    refine Jo_aloadn 0 dX6_textTold_5 rfl rfl ?_
    refine Jo_getR fF_6_0 fR_6_0 dX6_textTold_6 w_359 (fun a1 => ?_)
    refine Jo_getI fF_5_4 fI_5_4 dX6_textTold_9 w_513 (fun x2 => ?_)
    refine Jo_icmp_lt 18 dX6_textTold_12 (by decide) rfl ?_ ?_
    · refine Jo_aloadn 0 dX6_textTold_18 rfl rfl ?_
      refine Jo_getR fF_6_0 fR_6_0 dX6_textTold_19 w_359 (fun a3 => ?_)
      refine Jo_getR fF_5_17 fR_5_17 dX6_textTold_22 w_520 (fun a4 => ?_)
      refine Jo_iloadn 1 dX6_textTold_25 rfl rfl ?_
      refine Jo_aaload hta_14 dX6_textTold_26 (fun a5 => ?_)
      refine Jo_astoren (ls' := [(3, .ref a5), (0, .ref a0), (1, .int i1), (2, .int i2)]) dX6_textTold_27 rfl (by decide) rfl ?_
      refine Jo_aloadn 0 dX6_textTold_28 rfl rfl ?_
      refine Jo_ifnonnull 35 dX6_textTold_29 (by decide) ?_
      refine Jo_iloadn 3 dX6_textTold_35 rfl rfl ?_
      refine Jo_case ?_ (fun g6 => ?_)
      · refine Jo_look (off := 28) 64 dX6_textTold_36 (by decide) (by decide) (by decide) ?_
        refine Jo_aloadn 0 dX6_textTold_64 rfl rfl ?_
        refine Jo_getI fF_4_0 fI_4_0 dX6_textTold_65 w_518 (fun x7 => ?_)
        exact Jo_iret rfl dX6_textTold_68
      refine Jo_case ?_ (fun g8 => ?_)
      · refine Jo_look (off := 33) 69 dX6_textTold_36 (by decide) (by decide) (by decide) ?_
        refine Jo_aloadn 0 dX6_textTold_69 rfl rfl ?_
        refine Jo_getI fF_4_1 fI_4_1 dX6_textTold_70 w_519 (fun x9 => ?_)
        exact Jo_iret rfl dX6_textTold_73
      refine Jo_look (off := 38) 74 dX6_textTold_36 (by decide) (by have qg6 := i32ne 0 (by decide) g6; have qg8 := i32ne 1 (by decide) g8; simp [Op.lookupswitch.offset_cons, Op.lookupswitch.offset_nil, Ne.symm qg6, Ne.symm qg8]) (by decide) ?_
      refine Jo_ldc dX6_textTold_74 w_368 ?_
      exact Jo_iret rfl dX6_textTold_76
    · refine Jo_ldc dX6_textTold_15 w_368 ?_
      exact Jo_iret rfl dX6_textTold_17
theorem K_X6_textTold (E : jE) (s : hS) (a0 : Nat) (i1 : Int32) (i2 : Int32) : jK E yX6_textTold M_X6_textTold cvI [.ref a0, .int i1, .int i2] s (f_X6_textTold s a0 i1 i2) := jK_of ⟨by decide, rfl, rfl⟩ (Nat.le_of_ble_eq_true rfl) (b_X6_textTold_in E s a0 i1 i2)
/-! HeronTalk.why(I)I -/
abbrev M_X6_why : jM := (RX6, cX6_why, 2, (some .int), "why", 1, 22)
theorem yF_X6_why : yF yX6_why M_X6_why 1 := ⟨w_525, w_278, by decide +kernel⟩
theorem yV_X6_why : Cond.instanceMethod yX6_why ∈ tbG ∧ Cond.selects yX6_why.cls yX6_why yX6_why ∈ tbG := ⟨w_526, w_527⟩
theorem dX6_why_0 : dI cX6_why 0 1 (.iload_n 1) 1 := ⟨by decide +kernel, rfl⟩
theorem dX6_why_1 : dI cX6_why 1 2 (.iconst 0) 1 := ⟨by decide +kernel, rfl⟩
theorem dX6_why_2 : dI cX6_why 2 3 (.iconst 2) 1 := ⟨by decide +kernel, rfl⟩
theorem dX6_why_3 : decode cX6_why 3 = .ok (.invokestatic 63, 3) := by decide +kernel
theorem dX6_why_6 : decode cX6_why 6 = .ok (.ifCond .eq 8, 3) := by decide +kernel
theorem dX6_why_9 : dI cX6_why 9 11 (.ldc 67) 2 := ⟨by decide +kernel, rfl⟩
theorem dX6_why_11 : decode cX6_why 11 = .ok (.goto 14, 3) := by decide +kernel
theorem dX6_why_14 : dI cX6_why 14 15 (.aload_n 0) 1 := ⟨by decide +kernel, rfl⟩
theorem dX6_why_15 : dI cX6_why 15 18 (.getfield 10) 3 := ⟨by decide +kernel, rfl⟩
theorem dX6_why_18 : dI cX6_why 18 19 (.iload_n 1) 1 := ⟨by decide +kernel, rfl⟩
theorem dX6_why_19 : decode cX6_why 19 = .ok (.invokevirtual 260, 3) := by decide +kernel
theorem dX6_why_22 : decode cX6_why 22 = .ok (.invokestatic 171, 3) := by decide +kernel
theorem dX6_why_25 : dI cX6_why 25 26 (.ireturn) 1 := ⟨by decide +kernel, rfl⟩
def f_X6_why (s : hS) (a0 : Nat) (i1 : Int32) : Option (Int32 × hS) :=
  (f_X6_isOutside s i1 (0 : Int32) (2 : Int32)).bind fun p1 =>
  if p1.1 = 0 then
    (gR p1.2 a0 6 0).bind fun a2 =>
    (cV p1.2 a2 5 (f_X5_lastTextOf p1.2 a2 i1)).bind fun p3 =>
    (f_X6_orNone p3.2 p3.1).bind fun p4 =>
    some (p4.1, p4.2)
  else
    some ((-1000000001 : Int32), p1.2)
theorem b_X6_why_in (E : jE)  (s : hS) (a0 : Nat) (i1 : Int32)  : Jo E M_X6_why cvI 0 [(0, .ref a0), (1, .int i1)] [] s (f_X6_why s a0 i1) := by
  unfold f_X6_why
  refine Jo_iloadn 1 dX6_why_0 rfl rfl ?_
  refine Jo_iconst (v := (0 : Int32)) dX6_why_1 (by decide) ?_
  refine Jo_iconst (v := (2 : Int32)) dX6_why_2 (by decide) ?_
  refine Jo_callSi (rest := []) [.int i1, .int (0 : Int32), .int (2 : Int32)] yF_X6_isOutside yS_X6_isOutside w_369 rfl rfl ⟨Nat.le_of_ble_eq_true rfl, Nat.le_of_ble_eq_true rfl, Nat.le_of_ble_eq_true rfl⟩ dX6_why_3 rfl (K_X6_isOutside E s i1 (0 : Int32) (2 : Int32)) (fun p1 => ?_)
  refine Jo_if_eq 14 dX6_why_6 (by decide) rfl ?_ ?_
  · refine Jo_aloadn 0 dX6_why_14 rfl rfl ?_
    refine Jo_getR fF_6_0 fR_6_0 dX6_why_15 w_359 (fun a2 => ?_)
    refine Jo_iloadn 1 dX6_why_18 rfl rfl ?_
    refine Jo_callVi (a := a2) (rest := []) [.int i1] cc_5 yF_X5_lastTextOf yV_X5_lastTextOf w_524 rfl rfl ⟨Nat.le_of_ble_eq_true rfl, Nat.le_of_ble_eq_true rfl, Nat.le_of_ble_eq_true rfl⟩ dX6_why_19 rfl (K_X5_lastTextOf E p1.2 a2 i1) (fun p3 => ?_)
    refine Jo_callSi (rest := []) [.int p3.1] yF_X6_orNone yS_X6_orNone w_444 rfl rfl ⟨Nat.le_of_ble_eq_true rfl, Nat.le_of_ble_eq_true rfl, Nat.le_of_ble_eq_true rfl⟩ dX6_why_22 rfl (K_X6_orNone E p3.2 p3.1) (fun p4 => ?_)
    exact Jo_iret rfl dX6_why_25
  · refine Jo_ldc dX6_why_9 w_368 ?_
    refine Jo_goto 25 dX6_why_11 (by decide) ?_
    exact Jo_iret rfl dX6_why_25
theorem K_X6_why (E : jE) (s : hS) (a0 : Nat) (i1 : Int32) : jK E yX6_why M_X6_why cvI [.ref a0, .int i1] s (f_X6_why s a0 i1) := jK_of ⟨by decide, rfl, rfl⟩ (Nat.le_of_ble_eq_true rfl) (b_X6_why_in E s a0 i1)
/-! HeronTalk.isNoSheet(I)Z -/
abbrev M_X6_isNoSheet : jM := (RX6, cX6_isNoSheet, 1, (some .boolean), "isNoSheet", 0, 0)
theorem yF_X6_isNoSheet : yF yX6_isNoSheet M_X6_isNoSheet 1 := ⟨w_528, w_278, by decide +kernel⟩
theorem yS_X6_isNoSheet : Cond.static yX6_isNoSheet ∈ tbG := w_529
theorem dX6_isNoSheet_0 : dI cX6_isNoSheet 0 1 (.iload_n 0) 1 := ⟨by decide +kernel, rfl⟩
theorem dX6_isNoSheet_1 : decode cX6_isNoSheet 1 = .ok (.ifCond .lt 8, 3) := by decide +kernel
theorem dX6_isNoSheet_4 : dI cX6_isNoSheet 4 5 (.iload_n 0) 1 := ⟨by decide +kernel, rfl⟩
theorem dX6_isNoSheet_5 : dI cX6_isNoSheet 5 6 (.iconst 4) 1 := ⟨by decide +kernel, rfl⟩
theorem dX6_isNoSheet_6 : decode cX6_isNoSheet 6 = .ok (.if_icmp .lt 7, 3) := by decide +kernel
theorem dX6_isNoSheet_9 : dI cX6_isNoSheet 9 10 (.iconst 1) 1 := ⟨by decide +kernel, rfl⟩
theorem dX6_isNoSheet_10 : decode cX6_isNoSheet 10 = .ok (.goto 4, 3) := by decide +kernel
theorem dX6_isNoSheet_13 : dI cX6_isNoSheet 13 14 (.iconst 0) 1 := ⟨by decide +kernel, rfl⟩
theorem dX6_isNoSheet_14 : dI cX6_isNoSheet 14 15 (.ireturn) 1 := ⟨by decide +kernel, rfl⟩
def f_X6_isNoSheet_b9 (s : hS) : Option (Int32 × hS) :=
  some ((1 : Int32), s)
theorem b_X6_isNoSheet_9 (E : jE)  (s : hS)   : Jo E M_X6_isNoSheet cvI 9 [] [] s (f_X6_isNoSheet_b9   s) := by
  unfold f_X6_isNoSheet_b9
  refine Jo_iconst (v := (1 : Int32)) dX6_isNoSheet_9 (by decide) ?_
  refine Jo_goto 14 dX6_isNoSheet_10 (by decide) ?_
  exact Jo_zret1 rfl dX6_isNoSheet_14
def f_X6_isNoSheet (s : hS) (i0 : Int32) : Option (Int32 × hS) :=
  if i0 < 0 then
    f_X6_isNoSheet_b9  s
  else
    if i0 < (4 : Int32) then
      some ((0 : Int32), s)
    else
      f_X6_isNoSheet_b9  s
theorem b_X6_isNoSheet_in (E : jE)  (s : hS) (i0 : Int32)  : Jo E M_X6_isNoSheet cvI 0 [(0, .int i0)] [] s (f_X6_isNoSheet s i0) := by
  unfold f_X6_isNoSheet
  refine Jo_iloadn 0 dX6_isNoSheet_0 rfl rfl ?_
  refine Jo_if_lt 9 dX6_isNoSheet_1 (by decide) rfl ?_ ?_
  · refine Jo_sub [] rfl ?_
    exact b_X6_isNoSheet_9 E s 
  · refine Jo_iloadn 0 dX6_isNoSheet_4 rfl rfl ?_
    refine Jo_iconst (v := (4 : Int32)) dX6_isNoSheet_5 (by decide) ?_
    refine Jo_icmp_lt 13 dX6_isNoSheet_6 (by decide) rfl ?_ ?_
    · refine Jo_iconst (v := (0 : Int32)) dX6_isNoSheet_13 (by decide) ?_
      exact Jo_zret0 rfl dX6_isNoSheet_14
    · refine Jo_sub [] rfl ?_
      exact b_X6_isNoSheet_9 E s 
theorem K_X6_isNoSheet (E : jE) (s : hS) (i0 : Int32) : jK E yX6_isNoSheet M_X6_isNoSheet cvI [.int i0] s (f_X6_isNoSheet s i0) := jK_of ⟨by decide, rfl, rfl⟩ (Nat.le_of_ble_eq_true rfl) (b_X6_isNoSheet_in E s i0)
/-! HeronTalk.sheet(III)I -/
abbrev M_X6_sheet : jM := (RX6, cX6_sheet, 5, (some .int), "sheet", 1, 23)
theorem yF_X6_sheet : yF yX6_sheet M_X6_sheet 3 := ⟨w_533, w_278, by decide +kernel⟩
theorem yV_X6_sheet : Cond.instanceMethod yX6_sheet ∈ tbG ∧ Cond.selects yX6_sheet.cls yX6_sheet yX6_sheet ∈ tbG := ⟨w_534, w_535⟩
theorem dX6_sheet_0 : dI cX6_sheet 0 1 (.iload_n 1) 1 := ⟨by decide +kernel, rfl⟩
theorem dX6_sheet_1 : decode cX6_sheet 1 = .ok (.invokestatic 263, 3) := by decide +kernel
theorem dX6_sheet_4 : decode cX6_sheet 4 = .ok (.ifCond .ne 12, 3) := by decide +kernel
theorem dX6_sheet_7 : dI cX6_sheet 7 8 (.iload_n 2) 1 := ⟨by decide +kernel, rfl⟩
theorem dX6_sheet_8 : dI cX6_sheet 8 9 (.iconst (-1)) 1 := ⟨by decide +kernel, rfl⟩
theorem dX6_sheet_9 : dI cX6_sheet 9 10 (.iconst 1) 1 := ⟨by decide +kernel, rfl⟩
theorem dX6_sheet_10 : decode cX6_sheet 10 = .ok (.invokestatic 63, 3) := by decide +kernel
theorem dX6_sheet_13 : decode cX6_sheet 13 = .ok (.ifCond .eq 6, 3) := by decide +kernel
theorem dX6_sheet_16 : dI cX6_sheet 16 18 (.ldc 67) 2 := ⟨by decide +kernel, rfl⟩
theorem dX6_sheet_18 : dI cX6_sheet 18 19 (.ireturn) 1 := ⟨by decide +kernel, rfl⟩
theorem dX6_sheet_19 : dI cX6_sheet 19 20 (.iload_n 2) 1 := ⟨by decide +kernel, rfl⟩
theorem dX6_sheet_20 : dI cX6_sheet 20 21 (.iconst (-1)) 1 := ⟨by decide +kernel, rfl⟩
theorem dX6_sheet_21 : decode cX6_sheet 21 = .ok (.if_icmp .ne 7, 3) := by decide +kernel
theorem dX6_sheet_24 : dI cX6_sheet 24 25 (.iconst 0) 1 := ⟨by decide +kernel, rfl⟩
theorem dX6_sheet_25 : decode cX6_sheet 25 = .ok (.goto 4, 3) := by decide +kernel
theorem dX6_sheet_28 : dI cX6_sheet 28 29 (.iload_n 3) 1 := ⟨by decide +kernel, rfl⟩
theorem dX6_sheet_29 : dI cX6_sheet 29 31 (.istore 4) 2 := ⟨by decide +kernel, rfl⟩
theorem dX6_sheet_31 : dI cX6_sheet 31 33 (.iload 4) 2 := ⟨by decide +kernel, rfl⟩
theorem dX6_sheet_33 : dI cX6_sheet 33 35 (.bipush 24) 2 := ⟨by decide +kernel, rfl⟩
theorem dX6_sheet_35 : decode cX6_sheet 35 = .ok (.if_icmp .le 6, 3) := by decide +kernel
theorem dX6_sheet_38 : dI cX6_sheet 38 40 (.ldc 67) 2 := ⟨by decide +kernel, rfl⟩
theorem dX6_sheet_40 : dI cX6_sheet 40 41 (.ireturn) 1 := ⟨by decide +kernel, rfl⟩
theorem dX6_sheet_41 : dI cX6_sheet 41 43 (.iload 4) 2 := ⟨by decide +kernel, rfl⟩
theorem dX6_sheet_43 : decode cX6_sheet 43 = .ok (.ifCond .ge 7, 3) := by decide +kernel
theorem dX6_sheet_46 : dI cX6_sheet 46 49 (.ldc_w 266) 3 := ⟨by decide +kernel, rfl⟩
theorem dX6_sheet_49 : dI cX6_sheet 49 50 (.ireturn) 1 := ⟨by decide +kernel, rfl⟩
theorem dX6_sheet_50 : dI cX6_sheet 50 51 (.aload_n 0) 1 := ⟨by decide +kernel, rfl⟩
theorem dX6_sheet_51 : dI cX6_sheet 51 54 (.getfield 40) 3 := ⟨by decide +kernel, rfl⟩
theorem dX6_sheet_54 : dI cX6_sheet 54 55 (.iload_n 1) 1 := ⟨by decide +kernel, rfl⟩
theorem dX6_sheet_55 : dI cX6_sheet 55 56 (.aaload) 1 := ⟨by decide +kernel, rfl⟩
theorem dX6_sheet_56 : dI cX6_sheet 56 57 (.iload_n 2) 1 := ⟨by decide +kernel, rfl⟩
theorem dX6_sheet_57 : dI cX6_sheet 57 59 (.iload 4) 2 := ⟨by decide +kernel, rfl⟩
theorem dX6_sheet_59 : decode cX6_sheet 59 = .ok (.invokevirtual 267, 3) := by decide +kernel
theorem dX6_sheet_62 : dI cX6_sheet 62 64 (.iload 4) 2 := ⟨by decide +kernel, rfl⟩
theorem dX6_sheet_64 : dI cX6_sheet 64 65 (.ireturn) 1 := ⟨by decide +kernel, rfl⟩
def f_X6_sheet_b29 (l0 : Nat) (l1 : Int32) (l2 : Int32) (t0 : Int32) (s : hS) : Option (Int32 × hS) :=
  if t0 ≤ (24 : Int32) then
    if 0 ≤ t0 then
      (gR s l0 6 6).bind fun a1 =>
      (aR s a1 12 l1).bind fun a2 =>
      (cV s a2 1 (f_X1_lieAnew s a2 l2 t0)).bind fun p3 =>
      some (t0, p3.2)
    else
      some ((-1000000014 : Int32), s)
  else
    some ((-1000000001 : Int32), s)
theorem b_X6_sheet_29 (E : jE)  (s : hS) (l0 : Nat) (l1 : Int32) (l2 : Int32) (t0 : Int32) : Jo E M_X6_sheet cvI 29 [(0, .ref l0), (1, .int l1), (2, .int l2)] [.int t0] s (f_X6_sheet_b29  l0 l1 l2 t0 s) := by
  unfold f_X6_sheet_b29
  refine Jo_istore (ls' := [(4, .int t0), (0, .ref l0), (1, .int l1), (2, .int l2)]) dX6_sheet_29 (by decide) rfl ?_
  refine Jo_iload 0 dX6_sheet_31 rfl ?_
  refine Jo_bipush (v := (24 : Int32)) dX6_sheet_33 (by decide) ?_
  refine Jo_icmp_le 41 dX6_sheet_35 (by decide) rfl ?_ ?_
  · refine Jo_iload 0 dX6_sheet_41 rfl ?_
    refine Jo_if_ge 50 dX6_sheet_43 (by decide) rfl ?_ ?_
    · refine Jo_aloadn 1 dX6_sheet_50 rfl rfl ?_
      refine Jo_getR fF_6_6 fR_6_6 dX6_sheet_51 w_346 (fun a1 => ?_)
      refine Jo_iloadn 2 dX6_sheet_54 rfl rfl ?_
      refine Jo_aaload hta_12 dX6_sheet_55 (fun a2 => ?_)
      refine Jo_iloadn 3 dX6_sheet_56 rfl rfl ?_
      refine Jo_iload 0 dX6_sheet_57 rfl ?_
      refine Jo_callVv (a := a2) (rest := []) [.int l2, .int t0] cc_1 yF_X1_lieAnew yV_X1_lieAnew w_530 rfl rfl ⟨Nat.le_of_ble_eq_true rfl, Nat.le_of_ble_eq_true rfl, Nat.le_of_ble_eq_true rfl⟩ dX6_sheet_59 rfl (K_X1_lieAnew E s a2 l2 t0) (fun p3 => ?_)
      refine Jo_iload 0 dX6_sheet_62 rfl ?_
      exact Jo_iret rfl dX6_sheet_64
    · refine Jo_ldcw dX6_sheet_46 w_531 ?_
      exact Jo_iret rfl dX6_sheet_49
  · refine Jo_ldc dX6_sheet_38 w_368 ?_
    exact Jo_iret rfl dX6_sheet_40
def f_X6_sheet (s : hS) (a0 : Nat) (i1 : Int32) (i2 : Int32) (i3 : Int32) : Option (Int32 × hS) :=
  (f_X6_isNoSheet s i1).bind fun p1 =>
  if p1.1 = 0 then
    (f_X6_isOutside p1.2 i2 (-1 : Int32) (1 : Int32)).bind fun p2 =>
    if p2.1 = 0 then
      if i2 = (-1 : Int32) then
        f_X6_sheet_b29 a0 i1 i2 (0 : Int32) p2.2
      else
        f_X6_sheet_b29 a0 i1 i2 i3 p2.2
    else
      some ((-1000000001 : Int32), p2.2)
  else
    some ((-1000000001 : Int32), p1.2)
theorem b_X6_sheet_in (E : jE)  (s : hS) (a0 : Nat) (i1 : Int32) (i2 : Int32) (i3 : Int32)  : Jo E M_X6_sheet cvI 0 [(0, .ref a0), (1, .int i1), (2, .int i2), (3, .int i3)] [] s (f_X6_sheet s a0 i1 i2 i3) := by
  unfold f_X6_sheet
  refine Jo_iloadn 1 dX6_sheet_0 rfl rfl ?_
  refine Jo_callSi (rest := []) [.int i1] yF_X6_isNoSheet yS_X6_isNoSheet w_532 rfl rfl ⟨Nat.le_of_ble_eq_true rfl, Nat.le_of_ble_eq_true rfl, Nat.le_of_ble_eq_true rfl⟩ dX6_sheet_1 rfl (K_X6_isNoSheet E s i1) (fun p1 => ?_)
  refine Jo_if_ne 16 dX6_sheet_4 (by decide) rfl ?_ ?_
  · refine Jo_iloadn 2 dX6_sheet_7 rfl rfl ?_
    refine Jo_iconst (v := (-1 : Int32)) dX6_sheet_8 (by decide) ?_
    refine Jo_iconst (v := (1 : Int32)) dX6_sheet_9 (by decide) ?_
    refine Jo_callSi (rest := []) [.int i2, .int (-1 : Int32), .int (1 : Int32)] yF_X6_isOutside yS_X6_isOutside w_369 rfl rfl ⟨Nat.le_of_ble_eq_true rfl, Nat.le_of_ble_eq_true rfl, Nat.le_of_ble_eq_true rfl⟩ dX6_sheet_10 rfl (K_X6_isOutside E p1.2 i2 (-1 : Int32) (1 : Int32)) (fun p2 => ?_)
    refine Jo_if_eq 19 dX6_sheet_13 (by decide) rfl ?_ ?_
    · refine Jo_iloadn 2 dX6_sheet_19 rfl rfl ?_
      refine Jo_iconst (v := (-1 : Int32)) dX6_sheet_20 (by decide) ?_
      refine Jo_icmp_ne 28 dX6_sheet_21 (by decide) rfl ?_ ?_
      · refine Jo_iconst (v := (0 : Int32)) dX6_sheet_24 (by decide) ?_
        refine Jo_goto 29 dX6_sheet_25 (by decide) ?_
        refine Jo_sub [0, 1, 2] rfl ?_
        exact b_X6_sheet_29 E p2.2 a0 i1 i2 (0 : Int32)
      · refine Jo_iloadn 3 dX6_sheet_28 rfl rfl ?_
        refine Jo_sub [0, 1, 2] rfl ?_
        exact b_X6_sheet_29 E p2.2 a0 i1 i2 i3
    · refine Jo_ldc dX6_sheet_16 w_368 ?_
      exact Jo_iret rfl dX6_sheet_18
  · refine Jo_ldc dX6_sheet_16 w_368 ?_
    exact Jo_iret rfl dX6_sheet_18
theorem K_X6_sheet (E : jE) (s : hS) (a0 : Nat) (i1 : Int32) (i2 : Int32) (i3 : Int32) : jK E yX6_sheet M_X6_sheet cvI [.ref a0, .int i1, .int i2, .int i3] s (f_X6_sheet s a0 i1 i2 i3) := jK_of ⟨by decide, rfl, rfl⟩ (Nat.le_of_ble_eq_true rfl) (b_X6_sheet_in E s a0 i1 i2 i3)
/-! HeronTalk.mark(III)I -/
abbrev M_X6_mark : jM := (RX6, cX6_mark, 5, (some .int), "mark", 1, 22)
theorem yF_X6_mark : yF yX6_mark M_X6_mark 3 := ⟨w_543, w_278, by decide +kernel⟩
theorem yV_X6_mark : Cond.instanceMethod yX6_mark ∈ tbG ∧ Cond.selects yX6_mark.cls yX6_mark yX6_mark ∈ tbG := ⟨w_544, w_545⟩
theorem dX6_mark_0 : dI cX6_mark 0 1 (.iload_n 1) 1 := ⟨by decide +kernel, rfl⟩
theorem dX6_mark_1 : decode cX6_mark 1 = .ok (.invokestatic 263, 3) := by decide +kernel
theorem dX6_mark_4 : decode cX6_mark 4 = .ok (.ifCond .eq 6, 3) := by decide +kernel
theorem dX6_mark_7 : dI cX6_mark 7 9 (.ldc 67) 2 := ⟨by decide +kernel, rfl⟩
theorem dX6_mark_9 : dI cX6_mark 9 10 (.ireturn) 1 := ⟨by decide +kernel, rfl⟩
theorem dX6_mark_10 : dI cX6_mark 10 11 (.aload_n 0) 1 := ⟨by decide +kernel, rfl⟩
theorem dX6_mark_11 : dI cX6_mark 11 14 (.getfield 40) 3 := ⟨by decide +kernel, rfl⟩
theorem dX6_mark_14 : dI cX6_mark 14 15 (.iload_n 1) 1 := ⟨by decide +kernel, rfl⟩
theorem dX6_mark_15 : dI cX6_mark 15 16 (.aaload) 1 := ⟨by decide +kernel, rfl⟩
theorem dX6_mark_16 : dI cX6_mark 16 18 (.astore 4) 2 := ⟨by decide +kernel, rfl⟩
theorem dX6_mark_18 : dI cX6_mark 18 20 (.aload 4) 2 := ⟨by decide +kernel, rfl⟩
theorem dX6_mark_20 : dI cX6_mark 20 23 (.getfield 270) 3 := ⟨by decide +kernel, rfl⟩
theorem dX6_mark_23 : dI cX6_mark 23 24 (.iconst (-1)) 1 := ⟨by decide +kernel, rfl⟩
theorem dX6_mark_24 : decode cX6_mark 24 = .ok (.if_icmp .ne 7, 3) := by decide +kernel
theorem dX6_mark_27 : dI cX6_mark 27 30 (.ldc_w 273) 3 := ⟨by decide +kernel, rfl⟩
theorem dX6_mark_30 : dI cX6_mark 30 31 (.ireturn) 1 := ⟨by decide +kernel, rfl⟩
theorem dX6_mark_31 : dI cX6_mark 31 33 (.aload 4) 2 := ⟨by decide +kernel, rfl⟩
theorem dX6_mark_33 : dI cX6_mark 33 34 (.iload_n 2) 1 := ⟨by decide +kernel, rfl⟩
theorem dX6_mark_34 : decode cX6_mark 34 = .ok (.invokevirtual 274, 3) := by decide +kernel
theorem dX6_mark_37 : decode cX6_mark 37 = .ok (.ifCond .eq 7, 3) := by decide +kernel
theorem dX6_mark_40 : dI cX6_mark 40 43 (.ldc_w 277) 3 := ⟨by decide +kernel, rfl⟩
theorem dX6_mark_43 : dI cX6_mark 43 44 (.ireturn) 1 := ⟨by decide +kernel, rfl⟩
theorem dX6_mark_44 : dI cX6_mark 44 46 (.aload 4) 2 := ⟨by decide +kernel, rfl⟩
theorem dX6_mark_46 : dI cX6_mark 46 49 (.getfield 270) 3 := ⟨by decide +kernel, rfl⟩
theorem dX6_mark_49 : decode cX6_mark 49 = .ok (.ifCond .ne 23, 3) := by decide +kernel
theorem dX6_mark_52 : dI cX6_mark 52 53 (.iload_n 3) 1 := ⟨by decide +kernel, rfl⟩
theorem dX6_mark_53 : dI cX6_mark 53 55 (.ldc 203) 2 := ⟨by decide +kernel, rfl⟩
theorem dX6_mark_55 : decode cX6_mark 55 = .ok (.if_icmp .ne 6, 3) := by decide +kernel
theorem dX6_mark_58 : dI cX6_mark 58 60 (.ldc 184) 2 := ⟨by decide +kernel, rfl⟩
theorem dX6_mark_60 : dI cX6_mark 60 61 (.ireturn) 1 := ⟨by decide +kernel, rfl⟩
theorem dX6_mark_61 : dI cX6_mark 61 63 (.aload 4) 2 := ⟨by decide +kernel, rfl⟩
theorem dX6_mark_63 : dI cX6_mark 63 66 (.getfield 278) 3 := ⟨by decide +kernel, rfl⟩
theorem dX6_mark_66 : dI cX6_mark 66 67 (.iload_n 2) 1 := ⟨by decide +kernel, rfl⟩
theorem dX6_mark_67 : dI cX6_mark 67 68 (.iload_n 3) 1 := ⟨by decide +kernel, rfl⟩
theorem dX6_mark_68 : dI cX6_mark 68 69 (.i2s) 1 := ⟨by decide +kernel, rfl⟩
theorem dX6_mark_69 : dI cX6_mark 69 70 (.iastore) 1 := ⟨by decide +kernel, rfl⟩
theorem dX6_mark_70 : dI cX6_mark 70 71 (.iconst 1) 1 := ⟨by decide +kernel, rfl⟩
theorem dX6_mark_71 : dI cX6_mark 71 72 (.ireturn) 1 := ⟨by decide +kernel, rfl⟩
theorem dX6_mark_72 : dI cX6_mark 72 73 (.iload_n 3) 1 := ⟨by decide +kernel, rfl⟩
theorem dX6_mark_73 : dI cX6_mark 73 75 (.ldc 203) 2 := ⟨by decide +kernel, rfl⟩
theorem dX6_mark_75 : decode cX6_mark 75 = .ok (.if_icmp .eq 19, 3) := by decide +kernel
theorem dX6_mark_78 : dI cX6_mark 78 79 (.iload_n 3) 1 := ⟨by decide +kernel, rfl⟩
theorem dX6_mark_79 : dI cX6_mark 79 82 (.ldc_w 281) 3 := ⟨by decide +kernel, rfl⟩
theorem dX6_mark_82 : dI cX6_mark 82 85 (.ldc_w 282) 3 := ⟨by decide +kernel, rfl⟩
theorem dX6_mark_85 : decode cX6_mark 85 = .ok (.invokestatic 63, 3) := by decide +kernel
theorem dX6_mark_88 : decode cX6_mark 88 = .ok (.ifCond .eq 6, 3) := by decide +kernel
theorem dX6_mark_91 : dI cX6_mark 91 93 (.ldc 67) 2 := ⟨by decide +kernel, rfl⟩
theorem dX6_mark_93 : dI cX6_mark 93 94 (.ireturn) 1 := ⟨by decide +kernel, rfl⟩
theorem dX6_mark_94 : dI cX6_mark 94 96 (.aload 4) 2 := ⟨by decide +kernel, rfl⟩
theorem dX6_mark_96 : dI cX6_mark 96 99 (.getfield 278) 3 := ⟨by decide +kernel, rfl⟩
theorem dX6_mark_99 : dI cX6_mark 99 100 (.iload_n 2) 1 := ⟨by decide +kernel, rfl⟩
theorem dX6_mark_100 : dI cX6_mark 100 101 (.iload_n 3) 1 := ⟨by decide +kernel, rfl⟩
theorem dX6_mark_101 : dI cX6_mark 101 102 (.iastore) 1 := ⟨by decide +kernel, rfl⟩
theorem dX6_mark_102 : dI cX6_mark 102 103 (.iconst 1) 1 := ⟨by decide +kernel, rfl⟩
theorem dX6_mark_103 : dI cX6_mark 103 104 (.ireturn) 1 := ⟨by decide +kernel, rfl⟩
def f_X6_mark_b94 (l2 : Int32) (l3 : Int32) (l4 : Nat) (s : hS) : Option (Int32 × hS) :=
  (gR s l4 1 2).bind fun a1 =>
  (sI s a1 10 l2 l3).bind fun s2 =>
  some ((1 : Int32), s2)
theorem b_X6_mark_94 (E : jE)  (s : hS) (l2 : Int32) (l3 : Int32) (l4 : Nat)  : Jo E M_X6_mark cvI 94 [(2, .int l2), (3, .int l3), (4, .ref l4)] [] s (f_X6_mark_b94  l2 l3 l4 s) := by
  unfold f_X6_mark_b94
  refine Jo_aload 2 dX6_mark_94 rfl ?_
  refine Jo_getR fF_1_2 fR_1_2 dX6_mark_96 w_536 (fun a1 => ?_)
  refine Jo_iloadn 0 dX6_mark_99 rfl rfl ?_
  refine Jo_iloadn 1 dX6_mark_100 rfl rfl ?_
  refine Jo_iastore dX6_mark_101 (fun s2 => ?_)
  refine Jo_iconst (v := (1 : Int32)) dX6_mark_102 (by decide) ?_
  exact Jo_iret rfl dX6_mark_103
def f_X6_mark (s : hS) (a0 : Nat) (i1 : Int32) (i2 : Int32) (i3 : Int32) : Option (Int32 × hS) :=
  (f_X6_isNoSheet s i1).bind fun p1 =>
  if p1.1 = 0 then
    (gR p1.2 a0 6 6).bind fun a2 =>
    (aR p1.2 a2 12 i1).bind fun a3 =>
    (gI p1.2 a3 1 0).bind fun x4 =>
    if x4 = (-1 : Int32) then
      some ((-1000000011 : Int32), p1.2)
    else
      (cV p1.2 a3 1 (f_X1_hasNoPlace p1.2 a3 i2)).bind fun p5 =>
      if p5.1 = 0 then
        (gI p5.2 a3 1 0).bind fun x6 =>
        if x6 = 0 then
          if i3 = (-1000000005 : Int32) then
            some ((-1000000012 : Int32), p5.2)
          else
            (gR p5.2 a3 1 2).bind fun a8 =>
            (sI p5.2 a8 10 i2 (i3).toInt16.toInt32).bind fun s9 =>
            some ((1 : Int32), s9)
        else
          if i3 = (-1000000005 : Int32) then
            f_X6_mark_b94 i2 i3 a3 p5.2
          else
            (f_X6_isOutside p5.2 i3 (-99999 : Int32) (99999 : Int32)).bind fun p7 =>
            if p7.1 = 0 then
              f_X6_mark_b94 i2 i3 a3 p7.2
            else
              some ((-1000000001 : Int32), p7.2)
      else
        some ((-1000000013 : Int32), p5.2)
  else
    some ((-1000000001 : Int32), p1.2)
theorem b_X6_mark_in (E : jE)  (s : hS) (a0 : Nat) (i1 : Int32) (i2 : Int32) (i3 : Int32)  : Jo E M_X6_mark cvI 0 [(0, .ref a0), (1, .int i1), (2, .int i2), (3, .int i3)] [] s (f_X6_mark s a0 i1 i2 i3) := by
  unfold f_X6_mark
  refine Jo_iloadn 1 dX6_mark_0 rfl rfl ?_
  refine Jo_callSi (rest := []) [.int i1] yF_X6_isNoSheet yS_X6_isNoSheet w_532 rfl rfl ⟨Nat.le_of_ble_eq_true rfl, Nat.le_of_ble_eq_true rfl, Nat.le_of_ble_eq_true rfl⟩ dX6_mark_1 rfl (K_X6_isNoSheet E s i1) (fun p1 => ?_)
  refine Jo_if_eq 10 dX6_mark_4 (by decide) rfl ?_ ?_
  · refine Jo_aloadn 0 dX6_mark_10 rfl rfl ?_
    refine Jo_getR fF_6_6 fR_6_6 dX6_mark_11 w_346 (fun a2 => ?_)
    refine Jo_iloadn 1 dX6_mark_14 rfl rfl ?_
    refine Jo_aaload hta_12 dX6_mark_15 (fun a3 => ?_)
    refine Jo_astore (ls' := [(4, .ref a3), (0, .ref a0), (1, .int i1), (2, .int i2), (3, .int i3)]) dX6_mark_16 (by decide) rfl ?_
    refine Jo_aload 0 dX6_mark_18 rfl ?_
    refine Jo_getI fF_1_0 fI_1_0 dX6_mark_20 w_539 (fun x4 => ?_)
    refine Jo_iconst (v := (-1 : Int32)) dX6_mark_23 (by decide) ?_
    refine Jo_icmp_ne 31 dX6_mark_24 (by decide) rfl ?_ ?_
    · refine Jo_ldcw dX6_mark_27 w_542 ?_
      exact Jo_iret rfl dX6_mark_30
    · refine Jo_aload 0 dX6_mark_31 rfl ?_
      refine Jo_iloadn 3 dX6_mark_33 rfl rfl ?_
      refine Jo_callVi (a := a3) (rest := []) [.int i2] cc_1 yF_X1_hasNoPlace yV_X1_hasNoPlace w_541 rfl rfl ⟨Nat.le_of_ble_eq_true rfl, Nat.le_of_ble_eq_true rfl, Nat.le_of_ble_eq_true rfl⟩ dX6_mark_34 rfl (K_X1_hasNoPlace E p1.2 a3 i2) (fun p5 => ?_)
      refine Jo_if_eq 44 dX6_mark_37 (by decide) rfl ?_ ?_
      · refine Jo_aload 0 dX6_mark_44 rfl ?_
        refine Jo_getI fF_1_0 fI_1_0 dX6_mark_46 w_539 (fun x6 => ?_)
        refine Jo_if_ne 72 dX6_mark_49 (by decide) rfl ?_ ?_
        · refine Jo_iloadn 4 dX6_mark_52 rfl rfl ?_
          refine Jo_ldc dX6_mark_53 w_441 ?_
          refine Jo_icmp_ne 61 dX6_mark_55 (by decide) rfl ?_ ?_
          · refine Jo_ldc dX6_mark_58 w_456 ?_
            exact Jo_iret rfl dX6_mark_60
          · refine Jo_aload 0 dX6_mark_61 rfl ?_
            refine Jo_getR fF_1_2 fR_1_2 dX6_mark_63 w_536 (fun a8 => ?_)
            refine Jo_iloadn 3 dX6_mark_66 rfl rfl ?_
            refine Jo_iloadn 4 dX6_mark_67 rfl rfl ?_
            refine Jo_i2s dX6_mark_68 ?_
            refine Jo_iastore dX6_mark_69 (fun s9 => ?_)
            refine Jo_iconst (v := (1 : Int32)) dX6_mark_70 (by decide) ?_
            exact Jo_iret rfl dX6_mark_71
        · refine Jo_iloadn 4 dX6_mark_72 rfl rfl ?_
          refine Jo_ldc dX6_mark_73 w_441 ?_
          refine Jo_icmp_eq 94 dX6_mark_75 (by decide) rfl ?_ ?_
          · refine Jo_sub [3, 4, 0] rfl ?_
            exact b_X6_mark_94 E p5.2 i2 i3 a3
          · refine Jo_iloadn 4 dX6_mark_78 rfl rfl ?_
            refine Jo_ldcw dX6_mark_79 w_538 ?_
            refine Jo_ldcw dX6_mark_82 w_537 ?_
            refine Jo_callSi (rest := []) [.int i3, .int (-99999 : Int32), .int (99999 : Int32)] yF_X6_isOutside yS_X6_isOutside w_369 rfl rfl ⟨Nat.le_of_ble_eq_true rfl, Nat.le_of_ble_eq_true rfl, Nat.le_of_ble_eq_true rfl⟩ dX6_mark_85 rfl (K_X6_isOutside E p5.2 i3 (-99999 : Int32) (99999 : Int32)) (fun p7 => ?_)
            refine Jo_if_eq 94 dX6_mark_88 (by decide) rfl ?_ ?_
            · refine Jo_sub [3, 4, 0] rfl ?_
              exact b_X6_mark_94 E p7.2 i2 i3 a3
            · refine Jo_ldc dX6_mark_91 w_368 ?_
              exact Jo_iret rfl dX6_mark_93
      · refine Jo_ldcw dX6_mark_40 w_540 ?_
        exact Jo_iret rfl dX6_mark_43
  · refine Jo_ldc dX6_mark_7 w_368 ?_
    exact Jo_iret rfl dX6_mark_9
theorem K_X6_mark (E : jE) (s : hS) (a0 : Nat) (i1 : Int32) (i2 : Int32) (i3 : Int32) : jK E yX6_mark M_X6_mark cvI [.ref a0, .int i1, .int i2, .int i3] s (f_X6_mark s a0 i1 i2 i3) := jK_of ⟨by decide, rfl, rfl⟩ (Nat.le_of_ble_eq_true rfl) (b_X6_mark_in E s a0 i1 i2 i3)
/-! HeronTalk.pour(I)I -/
abbrev M_X6_pour : jM := (RX6, cX6_pour, 2, (some .int), "pour", 3, 68)
theorem yF_X6_pour : yF yX6_pour M_X6_pour 1 := ⟨w_547, w_278, by decide +kernel⟩
theorem yV_X6_pour : Cond.instanceMethod yX6_pour ∈ tbG ∧ Cond.selects yX6_pour.cls yX6_pour yX6_pour ∈ tbG := ⟨w_548, w_549⟩
theorem dX6_pour_0 : dI cX6_pour 0 1 (.iload_n 1) 1 := ⟨by decide +kernel, rfl⟩
theorem dX6_pour_1 : decode cX6_pour 1 = .ok (.invokestatic 263, 3) := by decide +kernel
theorem dX6_pour_4 : decode cX6_pour 4 = .ok (.ifCond .eq 6, 3) := by decide +kernel
theorem dX6_pour_7 : dI cX6_pour 7 9 (.ldc 67) 2 := ⟨by decide +kernel, rfl⟩
theorem dX6_pour_9 : dI cX6_pour 9 10 (.ireturn) 1 := ⟨by decide +kernel, rfl⟩
theorem dX6_pour_10 : dI cX6_pour 10 11 (.aload_n 0) 1 := ⟨by decide +kernel, rfl⟩
theorem dX6_pour_11 : dI cX6_pour 11 14 (.getfield 40) 3 := ⟨by decide +kernel, rfl⟩
theorem dX6_pour_14 : dI cX6_pour 14 15 (.iload_n 1) 1 := ⟨by decide +kernel, rfl⟩
theorem dX6_pour_15 : dI cX6_pour 15 16 (.aaload) 1 := ⟨by decide +kernel, rfl⟩
theorem dX6_pour_16 : dI cX6_pour 16 19 (.getfield 270) 3 := ⟨by decide +kernel, rfl⟩
theorem dX6_pour_19 : dI cX6_pour 19 20 (.iconst (-1)) 1 := ⟨by decide +kernel, rfl⟩
theorem dX6_pour_20 : decode cX6_pour 20 = .ok (.if_icmp .ne 9, 3) := by decide +kernel
theorem dX6_pour_23 : dI cX6_pour 23 26 (.ldc_w 273) 3 := ⟨by decide +kernel, rfl⟩
theorem dX6_pour_26 : decode cX6_pour 26 = .ok (.goto 16, 3) := by decide +kernel
theorem dX6_pour_29 : dI cX6_pour 29 30 (.aload_n 0) 1 := ⟨by decide +kernel, rfl⟩
theorem dX6_pour_30 : dI cX6_pour 30 33 (.getfield 10) 3 := ⟨by decide +kernel, rfl⟩
theorem dX6_pour_33 : dI cX6_pour 33 34 (.aload_n 0) 1 := ⟨by decide +kernel, rfl⟩
theorem dX6_pour_34 : dI cX6_pour 34 37 (.getfield 40) 3 := ⟨by decide +kernel, rfl⟩
theorem dX6_pour_37 : dI cX6_pour 37 38 (.iload_n 1) 1 := ⟨by decide +kernel, rfl⟩
theorem dX6_pour_38 : dI cX6_pour 38 39 (.aaload) 1 := ⟨by decide +kernel, rfl⟩
theorem dX6_pour_39 : decode cX6_pour 39 = .ok (.invokevirtual 283, 3) := by decide +kernel
theorem dX6_pour_42 : dI cX6_pour 42 43 (.ireturn) 1 := ⟨by decide +kernel, rfl⟩
def f_X6_pour (s : hS) (a0 : Nat) (i1 : Int32) : Option (Int32 × hS) :=
  (f_X6_isNoSheet s i1).bind fun p1 =>
  if p1.1 = 0 then
    (gR p1.2 a0 6 6).bind fun a2 =>
    (aR p1.2 a2 12 i1).bind fun a3 =>
    (gI p1.2 a3 1 0).bind fun x4 =>
    if x4 = (-1 : Int32) then
      some ((-1000000011 : Int32), p1.2)
    else
      (gR p1.2 a0 6 0).bind fun a5 =>
      (gR p1.2 a0 6 6).bind fun a6 =>
      (aR p1.2 a6 12 i1).bind fun a7 =>
      (cV p1.2 a5 5 (f_X5_takeWorths p1.2 a5 a7)).bind fun p8 =>
      some (p8.1, p8.2)
  else
    some ((-1000000001 : Int32), p1.2)
theorem b_X6_pour_in (E : jE)  (s : hS) (a0 : Nat) (i1 : Int32)  : Jo E M_X6_pour cvI 0 [(0, .ref a0), (1, .int i1)] [] s (f_X6_pour s a0 i1) := by
  unfold f_X6_pour
  refine Jo_iloadn 1 dX6_pour_0 rfl rfl ?_
  refine Jo_callSi (rest := []) [.int i1] yF_X6_isNoSheet yS_X6_isNoSheet w_532 rfl rfl ⟨Nat.le_of_ble_eq_true rfl, Nat.le_of_ble_eq_true rfl, Nat.le_of_ble_eq_true rfl⟩ dX6_pour_1 rfl (K_X6_isNoSheet E s i1) (fun p1 => ?_)
  refine Jo_if_eq 10 dX6_pour_4 (by decide) rfl ?_ ?_
  · refine Jo_aloadn 0 dX6_pour_10 rfl rfl ?_
    refine Jo_getR fF_6_6 fR_6_6 dX6_pour_11 w_346 (fun a2 => ?_)
    refine Jo_iloadn 1 dX6_pour_14 rfl rfl ?_
    refine Jo_aaload hta_12 dX6_pour_15 (fun a3 => ?_)
    refine Jo_getI fF_1_0 fI_1_0 dX6_pour_16 w_539 (fun x4 => ?_)
    refine Jo_iconst (v := (-1 : Int32)) dX6_pour_19 (by decide) ?_
    refine Jo_icmp_ne 29 dX6_pour_20 (by decide) rfl ?_ ?_
    · refine Jo_ldcw dX6_pour_23 w_542 ?_
      refine Jo_goto 42 dX6_pour_26 (by decide) ?_
      exact Jo_iret rfl dX6_pour_42
    · refine Jo_aloadn 0 dX6_pour_29 rfl rfl ?_
      refine Jo_getR fF_6_0 fR_6_0 dX6_pour_30 w_359 (fun a5 => ?_)
      refine Jo_aloadn 0 dX6_pour_33 rfl rfl ?_
      refine Jo_getR fF_6_6 fR_6_6 dX6_pour_34 w_346 (fun a6 => ?_)
      refine Jo_iloadn 1 dX6_pour_37 rfl rfl ?_
      refine Jo_aaload hta_12 dX6_pour_38 (fun a7 => ?_)
      refine Jo_callVi (a := a5) (rest := []) [.ref a7] cc_5 yF_X5_takeWorths yV_X5_takeWorths w_546 rfl rfl ⟨Nat.le_of_ble_eq_true rfl, Nat.le_of_ble_eq_true rfl, Nat.le_of_ble_eq_true rfl⟩ dX6_pour_39 rfl (K_X5_takeWorths E p1.2 a5 a7) (fun p8 => ?_)
      exact Jo_iret rfl dX6_pour_42
  · refine Jo_ldc dX6_pour_7 w_368 ?_
    exact Jo_iret rfl dX6_pour_9
theorem K_X6_pour (E : jE) (s : hS) (a0 : Nat) (i1 : Int32) : jK E yX6_pour M_X6_pour cvI [.ref a0, .int i1] s (f_X6_pour s a0 i1) := jK_of ⟨by decide, rfl, rfl⟩ (Nat.le_of_ble_eq_true rfl) (b_X6_pour_in E s a0 i1)
/-! HeronTalk.reads(I)I -/
abbrev M_X6_reads : jM := (RX6, cX6_reads, 2, (some .int), "reads", 2, 43)
theorem yF_X6_reads : yF yX6_reads M_X6_reads 1 := ⟨w_551, w_278, by decide +kernel⟩
theorem yV_X6_reads : Cond.instanceMethod yX6_reads ∈ tbG ∧ Cond.selects yX6_reads.cls yX6_reads yX6_reads ∈ tbG := ⟨w_552, w_553⟩
theorem dX6_reads_0 : dI cX6_reads 0 1 (.iload_n 1) 1 := ⟨by decide +kernel, rfl⟩
theorem dX6_reads_1 : decode cX6_reads 1 = .ok (.invokestatic 263, 3) := by decide +kernel
theorem dX6_reads_4 : decode cX6_reads 4 = .ok (.ifCond .eq 6, 3) := by decide +kernel
theorem dX6_reads_7 : dI cX6_reads 7 9 (.ldc 67) 2 := ⟨by decide +kernel, rfl⟩
theorem dX6_reads_9 : dI cX6_reads 9 10 (.ireturn) 1 := ⟨by decide +kernel, rfl⟩
theorem dX6_reads_10 : dI cX6_reads 10 11 (.aload_n 0) 1 := ⟨by decide +kernel, rfl⟩
theorem dX6_reads_11 : dI cX6_reads 11 14 (.getfield 40) 3 := ⟨by decide +kernel, rfl⟩
theorem dX6_reads_14 : dI cX6_reads 14 15 (.iload_n 1) 1 := ⟨by decide +kernel, rfl⟩
theorem dX6_reads_15 : dI cX6_reads 15 16 (.aaload) 1 := ⟨by decide +kernel, rfl⟩
theorem dX6_reads_16 : dI cX6_reads 16 19 (.getfield 270) 3 := ⟨by decide +kernel, rfl⟩
theorem dX6_reads_19 : dI cX6_reads 19 20 (.iconst (-1)) 1 := ⟨by decide +kernel, rfl⟩
theorem dX6_reads_20 : decode cX6_reads 20 = .ok (.if_icmp .ne 9, 3) := by decide +kernel
theorem dX6_reads_23 : dI cX6_reads 23 26 (.ldc_w 273) 3 := ⟨by decide +kernel, rfl⟩
theorem dX6_reads_26 : decode cX6_reads 26 = .ok (.goto 19, 3) := by decide +kernel
theorem dX6_reads_29 : dI cX6_reads 29 30 (.aload_n 0) 1 := ⟨by decide +kernel, rfl⟩
theorem dX6_reads_30 : dI cX6_reads 30 33 (.getfield 10) 3 := ⟨by decide +kernel, rfl⟩
theorem dX6_reads_33 : dI cX6_reads 33 34 (.aload_n 0) 1 := ⟨by decide +kernel, rfl⟩
theorem dX6_reads_34 : dI cX6_reads 34 37 (.getfield 40) 3 := ⟨by decide +kernel, rfl⟩
theorem dX6_reads_37 : dI cX6_reads 37 38 (.iload_n 1) 1 := ⟨by decide +kernel, rfl⟩
theorem dX6_reads_38 : dI cX6_reads 38 39 (.aaload) 1 := ⟨by decide +kernel, rfl⟩
theorem dX6_reads_39 : decode cX6_reads 39 = .ok (.invokevirtual 287, 3) := by decide +kernel
theorem dX6_reads_42 : decode cX6_reads 42 = .ok (.invokestatic 171, 3) := by decide +kernel
theorem dX6_reads_45 : dI cX6_reads 45 46 (.ireturn) 1 := ⟨by decide +kernel, rfl⟩
def f_X6_reads (s : hS) (a0 : Nat) (i1 : Int32) : Option (Int32 × hS) :=
  (f_X6_isNoSheet s i1).bind fun p1 =>
  if p1.1 = 0 then
    (gR p1.2 a0 6 6).bind fun a2 =>
    (aR p1.2 a2 12 i1).bind fun a3 =>
    (gI p1.2 a3 1 0).bind fun x4 =>
    if x4 = (-1 : Int32) then
      some ((-1000000011 : Int32), p1.2)
    else
      (gR p1.2 a0 6 0).bind fun a5 =>
      (gR p1.2 a0 6 6).bind fun a6 =>
      (aR p1.2 a6 12 i1).bind fun a7 =>
      (cV p1.2 a5 5 (f_X5_firstOtherwise p1.2 a5 a7)).bind fun p8 =>
      (f_X6_orNone p8.2 p8.1).bind fun p9 =>
      some (p9.1, p9.2)
  else
    some ((-1000000001 : Int32), p1.2)
theorem b_X6_reads_in (E : jE)  (s : hS) (a0 : Nat) (i1 : Int32)  : Jo E M_X6_reads cvI 0 [(0, .ref a0), (1, .int i1)] [] s (f_X6_reads s a0 i1) := by
  unfold f_X6_reads
  refine Jo_iloadn 1 dX6_reads_0 rfl rfl ?_
  refine Jo_callSi (rest := []) [.int i1] yF_X6_isNoSheet yS_X6_isNoSheet w_532 rfl rfl ⟨Nat.le_of_ble_eq_true rfl, Nat.le_of_ble_eq_true rfl, Nat.le_of_ble_eq_true rfl⟩ dX6_reads_1 rfl (K_X6_isNoSheet E s i1) (fun p1 => ?_)
  refine Jo_if_eq 10 dX6_reads_4 (by decide) rfl ?_ ?_
  · refine Jo_aloadn 0 dX6_reads_10 rfl rfl ?_
    refine Jo_getR fF_6_6 fR_6_6 dX6_reads_11 w_346 (fun a2 => ?_)
    refine Jo_iloadn 1 dX6_reads_14 rfl rfl ?_
    refine Jo_aaload hta_12 dX6_reads_15 (fun a3 => ?_)
    refine Jo_getI fF_1_0 fI_1_0 dX6_reads_16 w_539 (fun x4 => ?_)
    refine Jo_iconst (v := (-1 : Int32)) dX6_reads_19 (by decide) ?_
    refine Jo_icmp_ne 29 dX6_reads_20 (by decide) rfl ?_ ?_
    · refine Jo_ldcw dX6_reads_23 w_542 ?_
      refine Jo_goto 45 dX6_reads_26 (by decide) ?_
      exact Jo_iret rfl dX6_reads_45
    · refine Jo_aloadn 0 dX6_reads_29 rfl rfl ?_
      refine Jo_getR fF_6_0 fR_6_0 dX6_reads_30 w_359 (fun a5 => ?_)
      refine Jo_aloadn 0 dX6_reads_33 rfl rfl ?_
      refine Jo_getR fF_6_6 fR_6_6 dX6_reads_34 w_346 (fun a6 => ?_)
      refine Jo_iloadn 1 dX6_reads_37 rfl rfl ?_
      refine Jo_aaload hta_12 dX6_reads_38 (fun a7 => ?_)
      refine Jo_callVi (a := a5) (rest := []) [.ref a7] cc_5 yF_X5_firstOtherwise yV_X5_firstOtherwise w_550 rfl rfl ⟨Nat.le_of_ble_eq_true rfl, Nat.le_of_ble_eq_true rfl, Nat.le_of_ble_eq_true rfl⟩ dX6_reads_39 rfl (K_X5_firstOtherwise E p1.2 a5 a7) (fun p8 => ?_)
      refine Jo_callSi (rest := []) [.int p8.1] yF_X6_orNone yS_X6_orNone w_444 rfl rfl ⟨Nat.le_of_ble_eq_true rfl, Nat.le_of_ble_eq_true rfl, Nat.le_of_ble_eq_true rfl⟩ dX6_reads_42 rfl (K_X6_orNone E p8.2 p8.1) (fun p9 => ?_)
      exact Jo_iret rfl dX6_reads_45
  · refine Jo_ldc dX6_reads_7 w_368 ?_
    exact Jo_iret rfl dX6_reads_9
theorem K_X6_reads (E : jE) (s : hS) (a0 : Nat) (i1 : Int32) : jK E yX6_reads M_X6_reads cvI [.ref a0, .int i1] s (f_X6_reads s a0 i1) := jK_of ⟨by decide, rfl, rfl⟩ (Nat.le_of_ble_eq_true rfl) (b_X6_reads_in E s a0 i1)
/-! HeronTalk.copy(IIIII)I -/
abbrev M_X6_copy : jM := (RX6, cX6_copy, 8, (some .int), "copy", 1, 40)
theorem yF_X6_copy : yF yX6_copy M_X6_copy 5 := ⟨w_556, w_278, by decide +kernel⟩
theorem yV_X6_copy : Cond.instanceMethod yX6_copy ∈ tbG ∧ Cond.selects yX6_copy.cls yX6_copy yX6_copy ∈ tbG := ⟨w_557, w_558⟩
theorem dX6_copy_0 : dI cX6_copy 0 1 (.iload_n 1) 1 := ⟨by decide +kernel, rfl⟩
theorem dX6_copy_1 : decode cX6_copy 1 = .ok (.invokestatic 263, 3) := by decide +kernel
theorem dX6_copy_4 : decode cX6_copy 4 = .ok (.ifCond .ne 10, 3) := by decide +kernel
theorem dX6_copy_7 : dI cX6_copy 7 8 (.iload_n 3) 1 := ⟨by decide +kernel, rfl⟩
theorem dX6_copy_8 : decode cX6_copy 8 = .ok (.invokestatic 263, 3) := by decide +kernel
theorem dX6_copy_11 : decode cX6_copy 11 = .ok (.ifCond .eq 6, 3) := by decide +kernel
theorem dX6_copy_14 : dI cX6_copy 14 16 (.ldc 67) 2 := ⟨by decide +kernel, rfl⟩
theorem dX6_copy_16 : dI cX6_copy 16 17 (.ireturn) 1 := ⟨by decide +kernel, rfl⟩
theorem dX6_copy_17 : dI cX6_copy 17 18 (.aload_n 0) 1 := ⟨by decide +kernel, rfl⟩
theorem dX6_copy_18 : dI cX6_copy 18 21 (.getfield 40) 3 := ⟨by decide +kernel, rfl⟩
theorem dX6_copy_21 : dI cX6_copy 21 22 (.iload_n 1) 1 := ⟨by decide +kernel, rfl⟩
theorem dX6_copy_22 : dI cX6_copy 22 23 (.aaload) 1 := ⟨by decide +kernel, rfl⟩
theorem dX6_copy_23 : dI cX6_copy 23 25 (.astore 6) 2 := ⟨by decide +kernel, rfl⟩
theorem dX6_copy_25 : dI cX6_copy 25 26 (.aload_n 0) 1 := ⟨by decide +kernel, rfl⟩
theorem dX6_copy_26 : dI cX6_copy 26 29 (.getfield 40) 3 := ⟨by decide +kernel, rfl⟩
theorem dX6_copy_29 : dI cX6_copy 29 30 (.iload_n 3) 1 := ⟨by decide +kernel, rfl⟩
theorem dX6_copy_30 : dI cX6_copy 30 31 (.aaload) 1 := ⟨by decide +kernel, rfl⟩
theorem dX6_copy_31 : dI cX6_copy 31 33 (.astore 7) 2 := ⟨by decide +kernel, rfl⟩
theorem dX6_copy_33 : dI cX6_copy 33 35 (.aload 6) 2 := ⟨by decide +kernel, rfl⟩
theorem dX6_copy_35 : dI cX6_copy 35 38 (.getfield 270) 3 := ⟨by decide +kernel, rfl⟩
theorem dX6_copy_38 : dI cX6_copy 38 39 (.iconst (-1)) 1 := ⟨by decide +kernel, rfl⟩
theorem dX6_copy_39 : decode cX6_copy 39 = .ok (.if_icmp .eq 12, 3) := by decide +kernel
theorem dX6_copy_42 : dI cX6_copy 42 44 (.aload 7) 2 := ⟨by decide +kernel, rfl⟩
theorem dX6_copy_44 : dI cX6_copy 44 47 (.getfield 270) 3 := ⟨by decide +kernel, rfl⟩
theorem dX6_copy_47 : dI cX6_copy 47 48 (.iconst (-1)) 1 := ⟨by decide +kernel, rfl⟩
theorem dX6_copy_48 : decode cX6_copy 48 = .ok (.if_icmp .ne 7, 3) := by decide +kernel
theorem dX6_copy_51 : dI cX6_copy 51 54 (.ldc_w 273) 3 := ⟨by decide +kernel, rfl⟩
theorem dX6_copy_54 : dI cX6_copy 54 55 (.ireturn) 1 := ⟨by decide +kernel, rfl⟩
theorem dX6_copy_55 : dI cX6_copy 55 57 (.aload 6) 2 := ⟨by decide +kernel, rfl⟩
theorem dX6_copy_57 : dI cX6_copy 57 60 (.getfield 270) 3 := ⟨by decide +kernel, rfl⟩
theorem dX6_copy_60 : dI cX6_copy 60 62 (.aload 7) 2 := ⟨by decide +kernel, rfl⟩
theorem dX6_copy_62 : dI cX6_copy 62 65 (.getfield 270) 3 := ⟨by decide +kernel, rfl⟩
theorem dX6_copy_65 : decode cX6_copy 65 = .ok (.if_icmp .eq 6, 3) := by decide +kernel
theorem dX6_copy_68 : dI cX6_copy 68 70 (.ldc 184) 2 := ⟨by decide +kernel, rfl⟩
theorem dX6_copy_70 : dI cX6_copy 70 71 (.ireturn) 1 := ⟨by decide +kernel, rfl⟩
theorem dX6_copy_71 : dI cX6_copy 71 73 (.aload 6) 2 := ⟨by decide +kernel, rfl⟩
theorem dX6_copy_73 : dI cX6_copy 73 74 (.iload_n 2) 1 := ⟨by decide +kernel, rfl⟩
theorem dX6_copy_74 : dI cX6_copy 74 76 (.iload 5) 2 := ⟨by decide +kernel, rfl⟩
theorem dX6_copy_76 : decode cX6_copy 76 = .ok (.invokevirtual 290, 3) := by decide +kernel
theorem dX6_copy_79 : decode cX6_copy 79 = .ok (.ifCond .ne 15, 3) := by decide +kernel
theorem dX6_copy_82 : dI cX6_copy 82 84 (.aload 7) 2 := ⟨by decide +kernel, rfl⟩
theorem dX6_copy_84 : dI cX6_copy 84 86 (.iload 4) 2 := ⟨by decide +kernel, rfl⟩
theorem dX6_copy_86 : dI cX6_copy 86 88 (.iload 5) 2 := ⟨by decide +kernel, rfl⟩
theorem dX6_copy_88 : decode cX6_copy 88 = .ok (.invokevirtual 290, 3) := by decide +kernel
theorem dX6_copy_91 : decode cX6_copy 91 = .ok (.ifCond .eq 7, 3) := by decide +kernel
theorem dX6_copy_94 : dI cX6_copy 94 97 (.ldc_w 277) 3 := ⟨by decide +kernel, rfl⟩
theorem dX6_copy_97 : dI cX6_copy 97 98 (.ireturn) 1 := ⟨by decide +kernel, rfl⟩
theorem dX6_copy_98 : dI cX6_copy 98 100 (.aload 6) 2 := ⟨by decide +kernel, rfl⟩
theorem dX6_copy_100 : dI cX6_copy 100 103 (.getfield 278) 3 := ⟨by decide +kernel, rfl⟩
theorem dX6_copy_103 : dI cX6_copy 103 104 (.iload_n 2) 1 := ⟨by decide +kernel, rfl⟩
theorem dX6_copy_104 : dI cX6_copy 104 106 (.aload 7) 2 := ⟨by decide +kernel, rfl⟩
theorem dX6_copy_106 : dI cX6_copy 106 109 (.getfield 278) 3 := ⟨by decide +kernel, rfl⟩
theorem dX6_copy_109 : dI cX6_copy 109 111 (.iload 4) 2 := ⟨by decide +kernel, rfl⟩
theorem dX6_copy_111 : dI cX6_copy 111 113 (.iload 5) 2 := ⟨by decide +kernel, rfl⟩
theorem dX6_copy_113 : dI cX6_copy 113 116 (.invokestatic 293) 3 := ⟨by decide +kernel, rfl⟩
theorem dX6_copy_116 : dI cX6_copy 116 118 (.iload 5) 2 := ⟨by decide +kernel, rfl⟩
theorem dX6_copy_118 : dI cX6_copy 118 119 (.ireturn) 1 := ⟨by decide +kernel, rfl⟩
def f_X6_copy (s : hS) (a0 : Nat) (i1 : Int32) (i2 : Int32) (i3 : Int32) (i4 : Int32) (i5 : Int32) : Option (Int32 × hS) :=
  (f_X6_isNoSheet s i1).bind fun p1 =>
  if p1.1 = 0 then
    (f_X6_isNoSheet p1.2 i3).bind fun p2 =>
    if p2.1 = 0 then
      (gR p2.2 a0 6 6).bind fun a3 =>
      (aR p2.2 a3 12 i1).bind fun a4 =>
      (gR p2.2 a0 6 6).bind fun a5 =>
      (aR p2.2 a5 12 i3).bind fun a6 =>
      (gI p2.2 a4 1 0).bind fun x7 =>
      if x7 = (-1 : Int32) then
        some ((-1000000011 : Int32), p2.2)
      else
        (gI p2.2 a6 1 0).bind fun x8 =>
        if x8 = (-1 : Int32) then
          some ((-1000000011 : Int32), p2.2)
        else
          (gI p2.2 a4 1 0).bind fun x9 =>
          (gI p2.2 a6 1 0).bind fun x10 =>
          if x9 = x10 then
            (cV p2.2 a4 1 (f_X1_hasNoRow p2.2 a4 i2 i5)).bind fun p11 =>
            if p11.1 = 0 then
              (cV p11.2 a6 1 (f_X1_hasNoRow p11.2 a6 i4 i5)).bind fun p12 =>
              if p12.1 = 0 then
                (gR p12.2 a4 1 2).bind fun a13 =>
                (gR p12.2 a6 1 2).bind fun a14 =>
                (hcpy p12.2 a13 i2 a14 i4 i5).bind fun s15 =>
                some (i5, s15)
              else
                some ((-1000000013 : Int32), p12.2)
            else
              some ((-1000000013 : Int32), p11.2)
          else
            some ((-1000000012 : Int32), p2.2)
    else
      some ((-1000000001 : Int32), p2.2)
  else
    some ((-1000000001 : Int32), p1.2)
theorem b_X6_copy_in (E : jE)  (s : hS) (a0 : Nat) (i1 : Int32) (i2 : Int32) (i3 : Int32) (i4 : Int32) (i5 : Int32)  : Jo E M_X6_copy cvI 0 [(0, .ref a0), (1, .int i1), (2, .int i2), (3, .int i3), (4, .int i4), (5, .int i5)] [] s (f_X6_copy s a0 i1 i2 i3 i4 i5) := by
  unfold f_X6_copy
  refine Jo_iloadn 1 dX6_copy_0 rfl rfl ?_
  refine Jo_callSi (rest := []) [.int i1] yF_X6_isNoSheet yS_X6_isNoSheet w_532 rfl rfl ⟨Nat.le_of_ble_eq_true rfl, Nat.le_of_ble_eq_true rfl, Nat.le_of_ble_eq_true rfl⟩ dX6_copy_1 rfl (K_X6_isNoSheet E s i1) (fun p1 => ?_)
  refine Jo_if_ne 14 dX6_copy_4 (by decide) rfl ?_ ?_
  · refine Jo_iloadn 3 dX6_copy_7 rfl rfl ?_
    refine Jo_callSi (rest := []) [.int i3] yF_X6_isNoSheet yS_X6_isNoSheet w_532 rfl rfl ⟨Nat.le_of_ble_eq_true rfl, Nat.le_of_ble_eq_true rfl, Nat.le_of_ble_eq_true rfl⟩ dX6_copy_8 rfl (K_X6_isNoSheet E p1.2 i3) (fun p2 => ?_)
    refine Jo_if_eq 17 dX6_copy_11 (by decide) rfl ?_ ?_
    · refine Jo_aloadn 0 dX6_copy_17 rfl rfl ?_
      refine Jo_getR fF_6_6 fR_6_6 dX6_copy_18 w_346 (fun a3 => ?_)
      refine Jo_iloadn 1 dX6_copy_21 rfl rfl ?_
      refine Jo_aaload hta_12 dX6_copy_22 (fun a4 => ?_)
      refine Jo_astore (ls' := [(6, .ref a4), (0, .ref a0), (1, .int i1), (2, .int i2), (3, .int i3), (4, .int i4), (5, .int i5)]) dX6_copy_23 (by decide) rfl ?_
      refine Jo_aloadn 1 dX6_copy_25 rfl rfl ?_
      refine Jo_getR fF_6_6 fR_6_6 dX6_copy_26 w_346 (fun a5 => ?_)
      refine Jo_iloadn 4 dX6_copy_29 rfl rfl ?_
      refine Jo_aaload hta_12 dX6_copy_30 (fun a6 => ?_)
      refine Jo_astore (ls' := [(7, .ref a6), (6, .ref a4), (0, .ref a0), (1, .int i1), (2, .int i2), (3, .int i3), (4, .int i4), (5, .int i5)]) dX6_copy_31 (by decide) rfl ?_
      refine Jo_aload 1 dX6_copy_33 rfl ?_
      refine Jo_getI fF_1_0 fI_1_0 dX6_copy_35 w_539 (fun x7 => ?_)
      refine Jo_iconst (v := (-1 : Int32)) dX6_copy_38 (by decide) ?_
      refine Jo_icmp_eq 51 dX6_copy_39 (by decide) rfl ?_ ?_
      · refine Jo_ldcw dX6_copy_51 w_542 ?_
        exact Jo_iret rfl dX6_copy_54
      · refine Jo_aload 0 dX6_copy_42 rfl ?_
        refine Jo_getI fF_1_0 fI_1_0 dX6_copy_44 w_539 (fun x8 => ?_)
        refine Jo_iconst (v := (-1 : Int32)) dX6_copy_47 (by decide) ?_
        refine Jo_icmp_ne 55 dX6_copy_48 (by decide) rfl ?_ ?_
        · refine Jo_ldcw dX6_copy_51 w_542 ?_
          exact Jo_iret rfl dX6_copy_54
        · refine Jo_aload 1 dX6_copy_55 rfl ?_
          refine Jo_getI fF_1_0 fI_1_0 dX6_copy_57 w_539 (fun x9 => ?_)
          refine Jo_aload 0 dX6_copy_60 rfl ?_
          refine Jo_getI fF_1_0 fI_1_0 dX6_copy_62 w_539 (fun x10 => ?_)
          refine Jo_icmp_eq 71 dX6_copy_65 (by decide) rfl ?_ ?_
          · refine Jo_aload 1 dX6_copy_71 rfl ?_
            refine Jo_iloadn 4 dX6_copy_73 rfl rfl ?_
            refine Jo_iload 7 dX6_copy_74 rfl ?_
            refine Jo_callVi (a := a4) (rest := []) [.int i2, .int i5] cc_1 yF_X1_hasNoRow yV_X1_hasNoRow w_555 rfl rfl ⟨Nat.le_of_ble_eq_true rfl, Nat.le_of_ble_eq_true rfl, Nat.le_of_ble_eq_true rfl⟩ dX6_copy_76 rfl (K_X1_hasNoRow E p2.2 a4 i2 i5) (fun p11 => ?_)
            refine Jo_if_ne 94 dX6_copy_79 (by decide) rfl ?_ ?_
            · refine Jo_aload 0 dX6_copy_82 rfl ?_
              refine Jo_iload 6 dX6_copy_84 rfl ?_
              refine Jo_iload 7 dX6_copy_86 rfl ?_
              refine Jo_callVi (a := a6) (rest := []) [.int i4, .int i5] cc_1 yF_X1_hasNoRow yV_X1_hasNoRow w_555 rfl rfl ⟨Nat.le_of_ble_eq_true rfl, Nat.le_of_ble_eq_true rfl, Nat.le_of_ble_eq_true rfl⟩ dX6_copy_88 rfl (K_X1_hasNoRow E p11.2 a6 i4 i5) (fun p12 => ?_)
              refine Jo_if_eq 98 dX6_copy_91 (by decide) rfl ?_ ?_
              · refine Jo_aload 1 dX6_copy_98 rfl ?_
                refine Jo_getR fF_1_2 fR_1_2 dX6_copy_100 w_536 (fun a13 => ?_)
                refine Jo_iloadn 4 dX6_copy_103 rfl rfl ?_
                refine Jo_aload 0 dX6_copy_104 rfl ?_
                refine Jo_getR fF_1_2 fR_1_2 dX6_copy_106 w_536 (fun a14 => ?_)
                refine Jo_iload 6 dX6_copy_109 rfl ?_
                refine Jo_iload 7 dX6_copy_111 rfl ?_
                refine Jo_copy dX6_copy_113 ⟨w_554, w_ac1, w_ac2, w_ac3⟩ ⟨by decide, Nat.le_of_ble_eq_true rfl⟩ (fun s15 => ?_)
                refine Jo_iload 7 dX6_copy_116 rfl ?_
                exact Jo_iret rfl dX6_copy_118
              · refine Jo_ldcw dX6_copy_94 w_540 ?_
                exact Jo_iret rfl dX6_copy_97
            · refine Jo_ldcw dX6_copy_94 w_540 ?_
              exact Jo_iret rfl dX6_copy_97
          · refine Jo_ldc dX6_copy_68 w_456 ?_
            exact Jo_iret rfl dX6_copy_70
    · refine Jo_ldc dX6_copy_14 w_368 ?_
      exact Jo_iret rfl dX6_copy_16
  · refine Jo_ldc dX6_copy_14 w_368 ?_
    exact Jo_iret rfl dX6_copy_16
theorem K_X6_copy (E : jE) (s : hS) (a0 : Nat) (i1 : Int32) (i2 : Int32) (i3 : Int32) (i4 : Int32) (i5 : Int32) : jK E yX6_copy M_X6_copy cvI [.ref a0, .int i1, .int i2, .int i3, .int i4, .int i5] s (f_X6_copy s a0 i1 i2 i3 i4 i5) := jK_of ⟨by decide, rfl, rfl⟩ (Nat.le_of_ble_eq_true rfl) (b_X6_copy_in E s a0 i1 i2 i3 i4 i5)
/-! HeronTalk.isNoSlot(I)Z -/
abbrev M_X6_isNoSlot : jM := (RX6, cX6_isNoSlot, 1, (some .boolean), "isNoSlot", 0, 0)
theorem yF_X6_isNoSlot : yF yX6_isNoSlot M_X6_isNoSlot 1 := ⟨w_559, w_278, by decide +kernel⟩
theorem yS_X6_isNoSlot : Cond.static yX6_isNoSlot ∈ tbG := w_560
theorem dX6_isNoSlot_0 : dI cX6_isNoSlot 0 1 (.iload_n 0) 1 := ⟨by decide +kernel, rfl⟩
theorem dX6_isNoSlot_1 : decode cX6_isNoSlot 1 = .ok (.ifCond .lt 8, 3) := by decide +kernel
theorem dX6_isNoSlot_4 : dI cX6_isNoSlot 4 5 (.iload_n 0) 1 := ⟨by decide +kernel, rfl⟩
theorem dX6_isNoSlot_5 : dI cX6_isNoSlot 5 6 (.iconst 5) 1 := ⟨by decide +kernel, rfl⟩
theorem dX6_isNoSlot_6 : decode cX6_isNoSlot 6 = .ok (.if_icmp .lt 7, 3) := by decide +kernel
theorem dX6_isNoSlot_9 : dI cX6_isNoSlot 9 10 (.iconst 1) 1 := ⟨by decide +kernel, rfl⟩
theorem dX6_isNoSlot_10 : decode cX6_isNoSlot 10 = .ok (.goto 4, 3) := by decide +kernel
theorem dX6_isNoSlot_13 : dI cX6_isNoSlot 13 14 (.iconst 0) 1 := ⟨by decide +kernel, rfl⟩
theorem dX6_isNoSlot_14 : dI cX6_isNoSlot 14 15 (.ireturn) 1 := ⟨by decide +kernel, rfl⟩
def f_X6_isNoSlot_b9 (s : hS) : Option (Int32 × hS) :=
  some ((1 : Int32), s)
theorem b_X6_isNoSlot_9 (E : jE)  (s : hS)   : Jo E M_X6_isNoSlot cvI 9 [] [] s (f_X6_isNoSlot_b9   s) := by
  unfold f_X6_isNoSlot_b9
  refine Jo_iconst (v := (1 : Int32)) dX6_isNoSlot_9 (by decide) ?_
  refine Jo_goto 14 dX6_isNoSlot_10 (by decide) ?_
  exact Jo_zret1 rfl dX6_isNoSlot_14
def f_X6_isNoSlot (s : hS) (i0 : Int32) : Option (Int32 × hS) :=
  if i0 < 0 then
    f_X6_isNoSlot_b9  s
  else
    if i0 < (5 : Int32) then
      some ((0 : Int32), s)
    else
      f_X6_isNoSlot_b9  s
theorem b_X6_isNoSlot_in (E : jE)  (s : hS) (i0 : Int32)  : Jo E M_X6_isNoSlot cvI 0 [(0, .int i0)] [] s (f_X6_isNoSlot s i0) := by
  unfold f_X6_isNoSlot
  refine Jo_iloadn 0 dX6_isNoSlot_0 rfl rfl ?_
  refine Jo_if_lt 9 dX6_isNoSlot_1 (by decide) rfl ?_ ?_
  · refine Jo_sub [] rfl ?_
    exact b_X6_isNoSlot_9 E s 
  · refine Jo_iloadn 0 dX6_isNoSlot_4 rfl rfl ?_
    refine Jo_iconst (v := (5 : Int32)) dX6_isNoSlot_5 (by decide) ?_
    refine Jo_icmp_lt 13 dX6_isNoSlot_6 (by decide) rfl ?_ ?_
    · refine Jo_iconst (v := (0 : Int32)) dX6_isNoSlot_13 (by decide) ?_
      exact Jo_zret0 rfl dX6_isNoSlot_14
    · refine Jo_sub [] rfl ?_
      exact b_X6_isNoSlot_9 E s 
theorem K_X6_isNoSlot (E : jE) (s : hS) (i0 : Int32) : jK E yX6_isNoSlot M_X6_isNoSlot cvI [.int i0] s (f_X6_isNoSlot s i0) := jK_of ⟨by decide, rfl, rfl⟩ (Nat.le_of_ble_eq_true rfl) (b_X6_isNoSlot_in E s i0)
