/-! HeronTalkModel.ask(II)I -/
abbrev M_X7_ask : jM := (RX7, cX7_ask, 5, (some .int), "ask", 8, 193)
theorem yF_X7_ask : yF yX7_ask M_X7_ask 2 := ⟨w_953, w_624, by decide +kernel⟩
theorem yV_X7_ask : Cond.instanceMethod yX7_ask ∈ tbG ∧ Cond.selects yX7_ask.cls yX7_ask yX7_ask ∈ tbG := ⟨w_954, w_955⟩
theorem dX7_ask_0 : dI cX7_ask 0 1 (.iload_n 1) 1 := ⟨by decide +kernel, rfl⟩
theorem dX7_ask_1 : decode cX7_ask 1 = .ok (.invokestatic 286, 3) := by decide +kernel
theorem dX7_ask_4 : decode cX7_ask 4 = .ok (.ifCond .eq 12, 3) := by decide +kernel
theorem dX7_ask_7 : dI cX7_ask 7 8 (.iload_n 2) 1 := ⟨by decide +kernel, rfl⟩
theorem dX7_ask_8 : dI cX7_ask 8 9 (.iconst 0) 1 := ⟨by decide +kernel, rfl⟩
theorem dX7_ask_9 : dI cX7_ask 9 10 (.iconst 5) 1 := ⟨by decide +kernel, rfl⟩
theorem dX7_ask_10 : decode cX7_ask 10 = .ok (.invokestatic 79, 3) := by decide +kernel
theorem dX7_ask_13 : decode cX7_ask 13 = .ok (.ifCond .ne 6, 3) := by decide +kernel
theorem dX7_ask_16 : dI cX7_ask 16 18 (.ldc 87) 2 := ⟨by decide +kernel, rfl⟩
theorem dX7_ask_18 : dI cX7_ask 18 19 (.ireturn) 1 := ⟨by decide +kernel, rfl⟩
theorem dX7_ask_19 : dI cX7_ask 19 20 (.aload_n 0) 1 := ⟨by decide +kernel, rfl⟩
theorem dX7_ask_20 : dI cX7_ask 20 23 (.getfield 60) 3 := ⟨by decide +kernel, rfl⟩
theorem dX7_ask_23 : dI cX7_ask 23 24 (.iload_n 1) 1 := ⟨by decide +kernel, rfl⟩
theorem dX7_ask_24 : dI cX7_ask 24 25 (.iaload) 1 := ⟨by decide +kernel, rfl⟩
theorem dX7_ask_25 : decode cX7_ask 25 = .ok (.ifCond .ne 7, 3) := by decide +kernel
theorem dX7_ask_28 : dI cX7_ask 28 31 (.ldc_w 282) 3 := ⟨by decide +kernel, rfl⟩
theorem dX7_ask_31 : dI cX7_ask 31 32 (.ireturn) 1 := ⟨by decide +kernel, rfl⟩
theorem dX7_ask_32 : dI cX7_ask 32 33 (.aload_n 0) 1 := ⟨by decide +kernel, rfl⟩
theorem dX7_ask_33 : dI cX7_ask 33 36 (.getfield 60) 3 := ⟨by decide +kernel, rfl⟩
theorem dX7_ask_36 : dI cX7_ask 36 37 (.iload_n 1) 1 := ⟨by decide +kernel, rfl⟩
theorem dX7_ask_37 : dI cX7_ask 37 38 (.iaload) 1 := ⟨by decide +kernel, rfl⟩
theorem dX7_ask_38 : dI cX7_ask 38 39 (.iconst 1) 1 := ⟨by decide +kernel, rfl⟩
theorem dX7_ask_39 : decode cX7_ask 39 = .ok (.if_icmp .ne 16, 3) := by decide +kernel
theorem dX7_ask_42 : dI cX7_ask 42 43 (.aload_n 0) 1 := ⟨by decide +kernel, rfl⟩
theorem dX7_ask_43 : dI cX7_ask 43 46 (.getfield 63) 3 := ⟨by decide +kernel, rfl⟩
theorem dX7_ask_46 : dI cX7_ask 46 47 (.iload_n 1) 1 := ⟨by decide +kernel, rfl⟩
theorem dX7_ask_47 : dI cX7_ask 47 48 (.iaload) 1 := ⟨by decide +kernel, rfl⟩
theorem dX7_ask_48 : dI cX7_ask 48 49 (.iload_n 2) 1 := ⟨by decide +kernel, rfl⟩
theorem dX7_ask_49 : decode cX7_ask 49 = .ok (.invokestatic 176, 3) := by decide +kernel
theorem dX7_ask_52 : decode cX7_ask 52 = .ok (.ifCond .ne 6, 3) := by decide +kernel
theorem dX7_ask_55 : dI cX7_ask 55 57 (.ldc 179) 2 := ⟨by decide +kernel, rfl⟩
theorem dX7_ask_57 : dI cX7_ask 57 58 (.ireturn) 1 := ⟨by decide +kernel, rfl⟩
theorem dX7_ask_58 : dI cX7_ask 58 59 (.aload_n 0) 1 := ⟨by decide +kernel, rfl⟩
theorem dX7_ask_59 : dI cX7_ask 59 62 (.getfield 66) 3 := ⟨by decide +kernel, rfl⟩
theorem dX7_ask_62 : dI cX7_ask 62 63 (.iload_n 1) 1 := ⟨by decide +kernel, rfl⟩
theorem dX7_ask_63 : dI cX7_ask 63 64 (.iaload) 1 := ⟨by decide +kernel, rfl⟩
theorem dX7_ask_64 : dI cX7_ask 64 66 (.bipush 8) 2 := ⟨by decide +kernel, rfl⟩
theorem dX7_ask_66 : dI cX7_ask 66 67 (.idiv) 1 := ⟨by decide +kernel, rfl⟩
theorem dX7_ask_67 : dI cX7_ask 67 68 (.istore_n 3) 1 := ⟨by decide +kernel, rfl⟩
theorem dX7_ask_68 : dI cX7_ask 68 69 (.aload_n 0) 1 := ⟨by decide +kernel, rfl⟩
theorem dX7_ask_69 : dI cX7_ask 69 72 (.getfield 66) 3 := ⟨by decide +kernel, rfl⟩
theorem dX7_ask_72 : dI cX7_ask 72 73 (.iload_n 1) 1 := ⟨by decide +kernel, rfl⟩
theorem dX7_ask_73 : dI cX7_ask 73 74 (.iaload) 1 := ⟨by decide +kernel, rfl⟩
theorem dX7_ask_74 : dI cX7_ask 74 76 (.bipush 8) 2 := ⟨by decide +kernel, rfl⟩
theorem dX7_ask_76 : dI cX7_ask 76 77 (.irem) 1 := ⟨by decide +kernel, rfl⟩
theorem dX7_ask_77 : dI cX7_ask 77 79 (.istore 4) 2 := ⟨by decide +kernel, rfl⟩
theorem dX7_ask_79 : dI cX7_ask 79 80 (.aload_n 0) 1 := ⟨by decide +kernel, rfl⟩
theorem dX7_ask_80 : dI cX7_ask 80 81 (.iload_n 3) 1 := ⟨by decide +kernel, rfl⟩
theorem dX7_ask_81 : decode cX7_ask 81 = .ok (.invokevirtual 110, 3) := by decide +kernel
theorem dX7_ask_84 : decode cX7_ask 84 = .ok (.ifCond .eq 28, 3) := by decide +kernel
theorem dX7_ask_87 : dI cX7_ask 87 88 (.aload_n 0) 1 := ⟨by decide +kernel, rfl⟩
theorem dX7_ask_88 : dI cX7_ask 88 90 (.iload 4) 2 := ⟨by decide +kernel, rfl⟩
theorem dX7_ask_90 : decode cX7_ask 90 = .ok (.invokevirtual 110, 3) := by decide +kernel
theorem dX7_ask_93 : decode cX7_ask 93 = .ok (.ifCond .eq 19, 3) := by decide +kernel
theorem dX7_ask_96 : dI cX7_ask 96 97 (.aload_n 0) 1 := ⟨by decide +kernel, rfl⟩
theorem dX7_ask_97 : dI cX7_ask 97 98 (.aload_n 0) 1 := ⟨by decide +kernel, rfl⟩
theorem dX7_ask_98 : dI cX7_ask 98 101 (.getfield 63) 3 := ⟨by decide +kernel, rfl⟩
theorem dX7_ask_101 : dI cX7_ask 101 102 (.iload_n 1) 1 := ⟨by decide +kernel, rfl⟩
theorem dX7_ask_102 : dI cX7_ask 102 103 (.iaload) 1 := ⟨by decide +kernel, rfl⟩
theorem dX7_ask_103 : dI cX7_ask 103 104 (.iload_n 3) 1 := ⟨by decide +kernel, rfl⟩
theorem dX7_ask_104 : dI cX7_ask 104 106 (.iload 4) 2 := ⟨by decide +kernel, rfl⟩
theorem dX7_ask_106 : decode cX7_ask 106 = .ok (.invokevirtual 173, 3) := by decide +kernel
theorem dX7_ask_109 : decode cX7_ask 109 = .ok (.goto 5, 3) := by decide +kernel
theorem dX7_ask_112 : dI cX7_ask 112 114 (.ldc 189) 2 := ⟨by decide +kernel, rfl⟩
theorem dX7_ask_114 : dI cX7_ask 114 115 (.ireturn) 1 := ⟨by decide +kernel, rfl⟩
def f_X7_ask (s : hS) (a0 : Nat) (i1 : Int32) (i2 : Int32) : Option (Int32 × hS) :=
  (f_X7_isSlot s i1).bind fun p1 =>
  if p1.1 = 0 then
    some ((-1000000001 : Int32), p1.2)
  else
    (f_X7_in p1.2 i2 (0 : Int32) (5 : Int32)).bind fun p2 =>
    if p2.1 = 0 then
      some ((-1000000001 : Int32), p2.2)
    else
      (gR p2.2 a0 7 27).bind fun a3 =>
      (aI p2.2 a3 10 i1).bind fun x4 =>
      if x4 = 0 then
        some ((-1000000011 : Int32), p2.2)
      else
        (gR p2.2 a0 7 27).bind fun a5 =>
        (aI p2.2 a5 10 i1).bind fun x6 =>
        if x6 = (1 : Int32) then
          (gR p2.2 a0 7 28).bind fun a7 =>
          (aI p2.2 a7 10 i1).bind fun x8 =>
          (f_X7_isUnder p2.2 x8 i2).bind fun p9 =>
          if p9.1 = 0 then
            some ((-1000000012 : Int32), p9.2)
          else
            (gR p9.2 a0 7 29).bind fun a10 =>
            (aI p9.2 a10 10 i1).bind fun x11 =>
            if (8 : Int32) = 0 then none else
            nmv ((x11 / (8 : Int32))) fun x12 =>
            (gR p9.2 a0 7 29).bind fun a13 =>
            (aI p9.2 a13 10 i1).bind fun x14 =>
            if (8 : Int32) = 0 then none else
            nmv ((x14 - x14 / (8 : Int32) * (8 : Int32))) fun x15 =>
            (cV p9.2 a0 7 (f_X7_isPerson p9.2 a0 x12)).bind fun p16 =>
            if p16.1 = 0 then
              some ((-1000000002 : Int32), p16.2)
            else
              (cV p16.2 a0 7 (f_X7_isPerson p16.2 a0 x15)).bind fun p17 =>
              if p17.1 = 0 then
                some ((-1000000002 : Int32), p17.2)
              else
                (gR p17.2 a0 7 28).bind fun a18 =>
                (aI p17.2 a18 10 i1).bind fun x19 =>
                (cV p17.2 a0 7 (f_X7_worthBy p17.2 a0 x19 x12 x15)).bind fun p20 =>
                some (p20.1, p20.2)
        else
          some ((-1000000012 : Int32), p2.2)
theorem b_X7_ask_in (E : jE)  (s : hS) (a0 : Nat) (i1 : Int32) (i2 : Int32)  : Jo E M_X7_ask cvI 0 [(0, .ref a0), (1, .int i1), (2, .int i2)] [] s (f_X7_ask s a0 i1 i2) := by
  unfold f_X7_ask
  refine Jo_iloadn 1 dX7_ask_0 rfl rfl ?_
  refine Jo_callSi (rest := []) [.int i1] yF_X7_isSlot yS_X7_isSlot w_949 rfl rfl ⟨Nat.le_of_ble_eq_true rfl, Nat.le_of_ble_eq_true rfl, Nat.le_of_ble_eq_true rfl⟩ dX7_ask_1 rfl (K_X7_isSlot E s i1) (fun p1 => ?_)
  refine Jo_if_eq 16 dX7_ask_4 (by decide) rfl ?_ ?_
  · refine Jo_ldc dX7_ask_16 w_673 ?_
    exact Jo_iret rfl dX7_ask_18
  · refine Jo_iloadn 2 dX7_ask_7 rfl rfl ?_
    refine Jo_iconst (v := (0 : Int32)) dX7_ask_8 (by decide) ?_
    refine Jo_iconst (v := (5 : Int32)) dX7_ask_9 (by decide) ?_
    refine Jo_callSi (rest := []) [.int i2, .int (0 : Int32), .int (5 : Int32)] yF_X7_in yS_X7_in w_635 rfl rfl ⟨Nat.le_of_ble_eq_true rfl, Nat.le_of_ble_eq_true rfl, Nat.le_of_ble_eq_true rfl⟩ dX7_ask_10 rfl (K_X7_in E p1.2 i2 (0 : Int32) (5 : Int32)) (fun p2 => ?_)
    refine Jo_if_ne 19 dX7_ask_13 (by decide) rfl ?_ ?_
    · refine Jo_ldc dX7_ask_16 w_673 ?_
      exact Jo_iret rfl dX7_ask_18
    · refine Jo_aloadn 0 dX7_ask_19 rfl rfl ?_
      refine Jo_getR fF_7_27 fR_7_27 dX7_ask_20 w_604 (fun a3 => ?_)
      refine Jo_iloadn 1 dX7_ask_23 rfl rfl ?_
      refine Jo_iaload dX7_ask_24 (fun x4 => ?_)
      refine Jo_if_ne 32 dX7_ask_25 (by decide) rfl ?_ ?_
      · refine Jo_ldcw dX7_ask_28 w_936 ?_
        exact Jo_iret rfl dX7_ask_31
      · refine Jo_aloadn 0 dX7_ask_32 rfl rfl ?_
        refine Jo_getR fF_7_27 fR_7_27 dX7_ask_33 w_604 (fun a5 => ?_)
        refine Jo_iloadn 1 dX7_ask_36 rfl rfl ?_
        refine Jo_iaload dX7_ask_37 (fun x6 => ?_)
        refine Jo_iconst (v := (1 : Int32)) dX7_ask_38 (by decide) ?_
        refine Jo_icmp_ne 55 dX7_ask_39 (by decide) rfl ?_ ?_
        · refine Jo_aloadn 0 dX7_ask_42 rfl rfl ?_
          refine Jo_getR fF_7_28 fR_7_28 dX7_ask_43 w_603 (fun a7 => ?_)
          refine Jo_iloadn 1 dX7_ask_46 rfl rfl ?_
          refine Jo_iaload dX7_ask_47 (fun x8 => ?_)
          refine Jo_iloadn 2 dX7_ask_48 rfl rfl ?_
          refine Jo_callSi (rest := []) [.int x8, .int i2] yF_X7_isUnder yS_X7_isUnder w_786 rfl rfl ⟨Nat.le_of_ble_eq_true rfl, Nat.le_of_ble_eq_true rfl, Nat.le_of_ble_eq_true rfl⟩ dX7_ask_49 rfl (K_X7_isUnder E p2.2 x8 i2) (fun p9 => ?_)
          refine Jo_if_ne 58 dX7_ask_52 (by decide) rfl ?_ ?_
          · refine Jo_ldc dX7_ask_55 w_785 ?_
            exact Jo_iret rfl dX7_ask_57
          · refine Jo_aloadn 0 dX7_ask_58 rfl rfl ?_
            refine Jo_getR fF_7_29 fR_7_29 dX7_ask_59 w_602 (fun a10 => ?_)
            refine Jo_iloadn 1 dX7_ask_62 rfl rfl ?_
            refine Jo_iaload dX7_ask_63 (fun x11 => ?_)
            refine Jo_bipush (v := (8 : Int32)) dX7_ask_64 (by decide) ?_
            refine Jo_idiv dX7_ask_66 ?_
            refine Jo_nm (fun x12 => ?_)
            refine Jo_istoren (ls' := [(3, .int x12), (0, .ref a0), (1, .int i1), (2, .int i2)]) dX7_ask_67 rfl (by decide) rfl ?_
            refine Jo_aloadn 1 dX7_ask_68 rfl rfl ?_
            refine Jo_getR fF_7_29 fR_7_29 dX7_ask_69 w_602 (fun a13 => ?_)
            refine Jo_iloadn 2 dX7_ask_72 rfl rfl ?_
            refine Jo_iaload dX7_ask_73 (fun x14 => ?_)
            refine Jo_bipush (v := (8 : Int32)) dX7_ask_74 (by decide) ?_
            refine Jo_irem dX7_ask_76 ?_
            refine Jo_nm (fun x15 => ?_)
            refine Jo_istore (ls' := [(4, .int x15), (3, .int x12), (0, .ref a0), (1, .int i1), (2, .int i2)]) dX7_ask_77 (by decide) rfl ?_
            refine Jo_aloadn 2 dX7_ask_79 rfl rfl ?_
            refine Jo_iloadn 1 dX7_ask_80 rfl rfl ?_
            refine Jo_callVi (a := a0) (rest := []) [.int x12] cc_7 yF_X7_isPerson yV_X7_isPerson w_704 rfl rfl ⟨Nat.le_of_ble_eq_true rfl, Nat.le_of_ble_eq_true rfl, Nat.le_of_ble_eq_true rfl⟩ dX7_ask_81 rfl (K_X7_isPerson E p9.2 a0 x12) (fun p16 => ?_)
            refine Jo_if_eq 112 dX7_ask_84 (by decide) rfl ?_ ?_
            · refine Jo_ldc dX7_ask_112 w_811 ?_
              exact Jo_iret rfl dX7_ask_114
            · refine Jo_aloadn 2 dX7_ask_87 rfl rfl ?_
              refine Jo_iload 0 dX7_ask_88 rfl ?_
              refine Jo_callVi (a := a0) (rest := []) [.int x15] cc_7 yF_X7_isPerson yV_X7_isPerson w_704 rfl rfl ⟨Nat.le_of_ble_eq_true rfl, Nat.le_of_ble_eq_true rfl, Nat.le_of_ble_eq_true rfl⟩ dX7_ask_90 rfl (K_X7_isPerson E p16.2 a0 x15) (fun p17 => ?_)
              refine Jo_if_eq 112 dX7_ask_93 (by decide) rfl ?_ ?_
              · refine Jo_ldc dX7_ask_112 w_811 ?_
                exact Jo_iret rfl dX7_ask_114
              · refine Jo_aloadn 2 dX7_ask_96 rfl rfl ?_
                refine Jo_aloadn 2 dX7_ask_97 rfl rfl ?_
                refine Jo_getR fF_7_28 fR_7_28 dX7_ask_98 w_603 (fun a18 => ?_)
                refine Jo_iloadn 3 dX7_ask_101 rfl rfl ?_
                refine Jo_iaload dX7_ask_102 (fun x19 => ?_)
                refine Jo_iloadn 1 dX7_ask_103 rfl rfl ?_
                refine Jo_iload 0 dX7_ask_104 rfl ?_
                refine Jo_callVi (a := a0) (rest := []) [.int x19, .int x12, .int x15] cc_7 yF_X7_worthBy yV_X7_worthBy w_778 rfl rfl ⟨Nat.le_of_ble_eq_true rfl, Nat.le_of_ble_eq_true rfl, Nat.le_of_ble_eq_true rfl⟩ dX7_ask_106 rfl (K_X7_worthBy E p17.2 a0 x19 x12 x15) (fun p20 => ?_)
                refine Jo_goto 114 dX7_ask_109 (by decide) ?_
                exact Jo_iret rfl dX7_ask_114
        · refine Jo_ldc dX7_ask_55 w_785 ?_
          exact Jo_iret rfl dX7_ask_57
theorem K_X7_ask (E : jE) (s : hS) (a0 : Nat) (i1 : Int32) (i2 : Int32) : jK E yX7_ask M_X7_ask cvI [.ref a0, .int i1, .int i2] s (f_X7_ask s a0 i1 i2) := jK_of ⟨by decide, rfl, rfl⟩ (Nat.le_of_ble_eq_true rfl) (b_X7_ask_in E s a0 i1 i2)
/-! HeronTalkModel.item(II)I -/
abbrev M_X7_item : jM := (RX7, cX7_item, 4, (some .int), "item", 2, 42)
theorem yF_X7_item : yF yX7_item M_X7_item 2 := ⟨w_956, w_624, by decide +kernel⟩
theorem yV_X7_item : Cond.instanceMethod yX7_item ∈ tbG ∧ Cond.selects yX7_item.cls yX7_item yX7_item ∈ tbG := ⟨w_957, w_958⟩
theorem dX7_item_0 : dI cX7_item 0 1 (.iload_n 1) 1 := ⟨by decide +kernel, rfl⟩
theorem dX7_item_1 : decode cX7_item 1 = .ok (.invokestatic 286, 3) := by decide +kernel
theorem dX7_item_4 : decode cX7_item 4 = .ok (.ifCond .ne 6, 3) := by decide +kernel
theorem dX7_item_7 : dI cX7_item 7 9 (.ldc 87) 2 := ⟨by decide +kernel, rfl⟩
theorem dX7_item_9 : dI cX7_item 9 10 (.ireturn) 1 := ⟨by decide +kernel, rfl⟩
theorem dX7_item_10 : dI cX7_item 10 11 (.aload_n 0) 1 := ⟨by decide +kernel, rfl⟩
theorem dX7_item_11 : dI cX7_item 11 14 (.getfield 60) 3 := ⟨by decide +kernel, rfl⟩
theorem dX7_item_14 : dI cX7_item 14 15 (.iload_n 1) 1 := ⟨by decide +kernel, rfl⟩
theorem dX7_item_15 : dI cX7_item 15 16 (.iaload) 1 := ⟨by decide +kernel, rfl⟩
theorem dX7_item_16 : decode cX7_item 16 = .ok (.ifCond .ne 7, 3) := by decide +kernel
theorem dX7_item_19 : dI cX7_item 19 22 (.ldc_w 282) 3 := ⟨by decide +kernel, rfl⟩
theorem dX7_item_22 : dI cX7_item 22 23 (.ireturn) 1 := ⟨by decide +kernel, rfl⟩
theorem dX7_item_23 : dI cX7_item 23 24 (.aload_n 0) 1 := ⟨by decide +kernel, rfl⟩
theorem dX7_item_24 : dI cX7_item 24 27 (.getfield 60) 3 := ⟨by decide +kernel, rfl⟩
theorem dX7_item_27 : dI cX7_item 27 28 (.iload_n 1) 1 := ⟨by decide +kernel, rfl⟩
theorem dX7_item_28 : dI cX7_item 28 29 (.iaload) 1 := ⟨by decide +kernel, rfl⟩
theorem dX7_item_29 : dI cX7_item 29 30 (.iconst 2) 1 := ⟨by decide +kernel, rfl⟩
theorem dX7_item_30 : decode cX7_item 30 = .ok (.if_icmp .eq 6, 3) := by decide +kernel
theorem dX7_item_33 : dI cX7_item 33 35 (.ldc 179) 2 := ⟨by decide +kernel, rfl⟩
theorem dX7_item_35 : dI cX7_item 35 36 (.ireturn) 1 := ⟨by decide +kernel, rfl⟩
theorem dX7_item_36 : dI cX7_item 36 37 (.iload_n 2) 1 := ⟨by decide +kernel, rfl⟩
theorem dX7_item_37 : dI cX7_item 37 38 (.iconst 0) 1 := ⟨by decide +kernel, rfl⟩
theorem dX7_item_38 : dI cX7_item 38 39 (.aload_n 0) 1 := ⟨by decide +kernel, rfl⟩
theorem dX7_item_39 : dI cX7_item 39 42 (.getfield 63) 3 := ⟨by decide +kernel, rfl⟩
theorem dX7_item_42 : dI cX7_item 42 43 (.iload_n 1) 1 := ⟨by decide +kernel, rfl⟩
theorem dX7_item_43 : dI cX7_item 43 44 (.iaload) 1 := ⟨by decide +kernel, rfl⟩
theorem dX7_item_44 : dI cX7_item 44 45 (.iconst 1) 1 := ⟨by decide +kernel, rfl⟩
theorem dX7_item_45 : dI cX7_item 45 46 (.isub) 1 := ⟨by decide +kernel, rfl⟩
theorem dX7_item_46 : decode cX7_item 46 = .ok (.invokestatic 79, 3) := by decide +kernel
theorem dX7_item_49 : decode cX7_item 49 = .ok (.ifCond .ne 7, 3) := by decide +kernel
theorem dX7_item_52 : dI cX7_item 52 55 (.ldc_w 283) 3 := ⟨by decide +kernel, rfl⟩
theorem dX7_item_55 : dI cX7_item 55 56 (.ireturn) 1 := ⟨by decide +kernel, rfl⟩
theorem dX7_item_56 : dI cX7_item 56 57 (.aload_n 0) 1 := ⟨by decide +kernel, rfl⟩
theorem dX7_item_57 : dI cX7_item 57 60 (.getfield 69) 3 := ⟨by decide +kernel, rfl⟩
theorem dX7_item_60 : dI cX7_item 60 62 (.bipush 24) 2 := ⟨by decide +kernel, rfl⟩
theorem dX7_item_62 : dI cX7_item 62 63 (.iload_n 1) 1 := ⟨by decide +kernel, rfl⟩
theorem dX7_item_63 : dI cX7_item 63 64 (.imul) 1 := ⟨by decide +kernel, rfl⟩
theorem dX7_item_64 : dI cX7_item 64 65 (.iload_n 2) 1 := ⟨by decide +kernel, rfl⟩
theorem dX7_item_65 : dI cX7_item 65 66 (.iadd) 1 := ⟨by decide +kernel, rfl⟩
theorem dX7_item_66 : dI cX7_item 66 67 (.iaload) 1 := ⟨by decide +kernel, rfl⟩
theorem dX7_item_67 : dI cX7_item 67 68 (.istore_n 3) 1 := ⟨by decide +kernel, rfl⟩
theorem dX7_item_68 : dI cX7_item 68 69 (.iload_n 3) 1 := ⟨by decide +kernel, rfl⟩
theorem dX7_item_69 : dI cX7_item 69 71 (.ldc 78) 2 := ⟨by decide +kernel, rfl⟩
theorem dX7_item_71 : decode cX7_item 71 = .ok (.if_icmp .ne 8, 3) := by decide +kernel
theorem dX7_item_74 : dI cX7_item 74 76 (.ldc 179) 2 := ⟨by decide +kernel, rfl⟩
theorem dX7_item_76 : decode cX7_item 76 = .ok (.goto 4, 3) := by decide +kernel
theorem dX7_item_79 : dI cX7_item 79 80 (.iload_n 3) 1 := ⟨by decide +kernel, rfl⟩
theorem dX7_item_80 : dI cX7_item 80 81 (.ireturn) 1 := ⟨by decide +kernel, rfl⟩
def f_X7_item (s : hS) (a0 : Nat) (i1 : Int32) (i2 : Int32) : Option (Int32 × hS) :=
  (f_X7_isSlot s i1).bind fun p1 =>
  if p1.1 = 0 then
    some ((-1000000001 : Int32), p1.2)
  else
    (gR p1.2 a0 7 27).bind fun a2 =>
    (aI p1.2 a2 10 i1).bind fun x3 =>
    if x3 = 0 then
      some ((-1000000011 : Int32), p1.2)
    else
      (gR p1.2 a0 7 27).bind fun a4 =>
      (aI p1.2 a4 10 i1).bind fun x5 =>
      if x5 = (2 : Int32) then
        (gR p1.2 a0 7 28).bind fun a6 =>
        (aI p1.2 a6 10 i1).bind fun x7 =>
        (f_X7_in p1.2 i2 (0 : Int32) (x7 - (1 : Int32))).bind fun p8 =>
        if p8.1 = 0 then
          some ((-1000000013 : Int32), p8.2)
        else
          (gR p8.2 a0 7 30).bind fun a9 =>
          (aI p8.2 a9 10 (((24 : Int32) * i1) + i2)).bind fun x10 =>
          if x10 = (-1000000005 : Int32) then
            some ((-1000000012 : Int32), p8.2)
          else
            some (x10, p8.2)
      else
        some ((-1000000012 : Int32), p1.2)
theorem b_X7_item_in (E : jE)  (s : hS) (a0 : Nat) (i1 : Int32) (i2 : Int32)  : Jo E M_X7_item cvI 0 [(0, .ref a0), (1, .int i1), (2, .int i2)] [] s (f_X7_item s a0 i1 i2) := by
  unfold f_X7_item
  refine Jo_iloadn 1 dX7_item_0 rfl rfl ?_
  refine Jo_callSi (rest := []) [.int i1] yF_X7_isSlot yS_X7_isSlot w_949 rfl rfl ⟨Nat.le_of_ble_eq_true rfl, Nat.le_of_ble_eq_true rfl, Nat.le_of_ble_eq_true rfl⟩ dX7_item_1 rfl (K_X7_isSlot E s i1) (fun p1 => ?_)
  refine Jo_if_ne 10 dX7_item_4 (by decide) rfl ?_ ?_
  · refine Jo_ldc dX7_item_7 w_673 ?_
    exact Jo_iret rfl dX7_item_9
  · refine Jo_aloadn 0 dX7_item_10 rfl rfl ?_
    refine Jo_getR fF_7_27 fR_7_27 dX7_item_11 w_604 (fun a2 => ?_)
    refine Jo_iloadn 1 dX7_item_14 rfl rfl ?_
    refine Jo_iaload dX7_item_15 (fun x3 => ?_)
    refine Jo_if_ne 23 dX7_item_16 (by decide) rfl ?_ ?_
    · refine Jo_ldcw dX7_item_19 w_936 ?_
      exact Jo_iret rfl dX7_item_22
    · refine Jo_aloadn 0 dX7_item_23 rfl rfl ?_
      refine Jo_getR fF_7_27 fR_7_27 dX7_item_24 w_604 (fun a4 => ?_)
      refine Jo_iloadn 1 dX7_item_27 rfl rfl ?_
      refine Jo_iaload dX7_item_28 (fun x5 => ?_)
      refine Jo_iconst (v := (2 : Int32)) dX7_item_29 (by decide) ?_
      refine Jo_icmp_eq 36 dX7_item_30 (by decide) rfl ?_ ?_
      · refine Jo_iloadn 2 dX7_item_36 rfl rfl ?_
        refine Jo_iconst (v := (0 : Int32)) dX7_item_37 (by decide) ?_
        refine Jo_aloadn 0 dX7_item_38 rfl rfl ?_
        refine Jo_getR fF_7_28 fR_7_28 dX7_item_39 w_603 (fun a6 => ?_)
        refine Jo_iloadn 1 dX7_item_42 rfl rfl ?_
        refine Jo_iaload dX7_item_43 (fun x7 => ?_)
        refine Jo_iconst (v := (1 : Int32)) dX7_item_44 (by decide) ?_
        refine Jo_isub dX7_item_45 ?_
        refine Jo_callSi (rest := []) [.int i2, .int (0 : Int32), .int (x7 - (1 : Int32))] yF_X7_in yS_X7_in w_635 rfl rfl ⟨Nat.le_of_ble_eq_true rfl, Nat.le_of_ble_eq_true rfl, Nat.le_of_ble_eq_true rfl⟩ dX7_item_46 rfl (K_X7_in E p1.2 i2 (0 : Int32) (x7 - (1 : Int32))) (fun p8 => ?_)
        refine Jo_if_ne 56 dX7_item_49 (by decide) rfl ?_ ?_
        · refine Jo_ldcw dX7_item_52 w_935 ?_
          exact Jo_iret rfl dX7_item_55
        · refine Jo_aloadn 0 dX7_item_56 rfl rfl ?_
          refine Jo_getR fF_7_30 fR_7_30 dX7_item_57 w_601 (fun a9 => ?_)
          refine Jo_bipush (v := (24 : Int32)) dX7_item_60 (by decide) ?_
          refine Jo_iloadn 1 dX7_item_62 rfl rfl ?_
          refine Jo_imul dX7_item_63 ?_
          refine Jo_iloadn 2 dX7_item_64 rfl rfl ?_
          refine Jo_iadd dX7_item_65 ?_
          refine Jo_iaload dX7_item_66 (fun x10 => ?_)
          refine Jo_istoren (ls' := [(3, .int x10), (0, .ref a0), (1, .int i1), (2, .int i2)]) dX7_item_67 rfl (by decide) rfl ?_
          refine Jo_iloadn 0 dX7_item_68 rfl rfl ?_
          refine Jo_ldc dX7_item_69 w_632 ?_
          refine Jo_icmp_ne 79 dX7_item_71 (by decide) rfl ?_ ?_
          · refine Jo_ldc dX7_item_74 w_785 ?_
            refine Jo_goto 80 dX7_item_76 (by decide) ?_
            exact Jo_iret rfl dX7_item_80
          · refine Jo_iloadn 0 dX7_item_79 rfl rfl ?_
            exact Jo_iret rfl dX7_item_80
      · refine Jo_ldc dX7_item_33 w_785 ?_
        exact Jo_iret rfl dX7_item_35
theorem K_X7_item (E : jE) (s : hS) (a0 : Nat) (i1 : Int32) (i2 : Int32) : jK E yX7_item M_X7_item cvI [.ref a0, .int i1, .int i2] s (f_X7_item s a0 i1 i2) := jK_of ⟨by decide, rfl, rfl⟩ (Nat.le_of_ble_eq_true rfl) (b_X7_item_in E s a0 i1 i2)
/-! HeronTalkModel.rest(II)I -/
abbrev M_X7_rest : jM := (RX7, cX7_rest, 3, (some .int), "rest", 2, 42)
theorem yF_X7_rest : yF yX7_rest M_X7_rest 2 := ⟨w_959, w_624, by decide +kernel⟩
theorem yV_X7_rest : Cond.instanceMethod yX7_rest ∈ tbG ∧ Cond.selects yX7_rest.cls yX7_rest yX7_rest ∈ tbG := ⟨w_960, w_961⟩
theorem dX7_rest_0 : dI cX7_rest 0 1 (.iload_n 1) 1 := ⟨by decide +kernel, rfl⟩
theorem dX7_rest_1 : decode cX7_rest 1 = .ok (.invokestatic 286, 3) := by decide +kernel
theorem dX7_rest_4 : decode cX7_rest 4 = .ok (.ifCond .ne 6, 3) := by decide +kernel
theorem dX7_rest_7 : dI cX7_rest 7 9 (.ldc 87) 2 := ⟨by decide +kernel, rfl⟩
theorem dX7_rest_9 : dI cX7_rest 9 10 (.ireturn) 1 := ⟨by decide +kernel, rfl⟩
theorem dX7_rest_10 : dI cX7_rest 10 11 (.aload_n 0) 1 := ⟨by decide +kernel, rfl⟩
theorem dX7_rest_11 : dI cX7_rest 11 14 (.getfield 60) 3 := ⟨by decide +kernel, rfl⟩
theorem dX7_rest_14 : dI cX7_rest 14 15 (.iload_n 1) 1 := ⟨by decide +kernel, rfl⟩
theorem dX7_rest_15 : dI cX7_rest 15 16 (.iaload) 1 := ⟨by decide +kernel, rfl⟩
theorem dX7_rest_16 : decode cX7_rest 16 = .ok (.ifCond .ne 7, 3) := by decide +kernel
theorem dX7_rest_19 : dI cX7_rest 19 22 (.ldc_w 282) 3 := ⟨by decide +kernel, rfl⟩
theorem dX7_rest_22 : dI cX7_rest 22 23 (.ireturn) 1 := ⟨by decide +kernel, rfl⟩
theorem dX7_rest_23 : dI cX7_rest 23 24 (.aload_n 0) 1 := ⟨by decide +kernel, rfl⟩
theorem dX7_rest_24 : dI cX7_rest 24 27 (.getfield 60) 3 := ⟨by decide +kernel, rfl⟩
theorem dX7_rest_27 : dI cX7_rest 27 28 (.iload_n 1) 1 := ⟨by decide +kernel, rfl⟩
theorem dX7_rest_28 : dI cX7_rest 28 29 (.iaload) 1 := ⟨by decide +kernel, rfl⟩
theorem dX7_rest_29 : dI cX7_rest 29 30 (.iconst 3) 1 := ⟨by decide +kernel, rfl⟩
theorem dX7_rest_30 : decode cX7_rest 30 = .ok (.if_icmp .eq 6, 3) := by decide +kernel
theorem dX7_rest_33 : dI cX7_rest 33 35 (.ldc 179) 2 := ⟨by decide +kernel, rfl⟩
theorem dX7_rest_35 : dI cX7_rest 35 36 (.ireturn) 1 := ⟨by decide +kernel, rfl⟩
theorem dX7_rest_36 : dI cX7_rest 36 37 (.iload_n 2) 1 := ⟨by decide +kernel, rfl⟩
theorem dX7_rest_37 : decode cX7_rest 37 = .ok (.ifCond .ne 8, 3) := by decide +kernel
theorem dX7_rest_40 : dI cX7_rest 40 42 (.ldc 189) 2 := ⟨by decide +kernel, rfl⟩
theorem dX7_rest_42 : decode cX7_rest 42 = .ok (.goto 20, 3) := by decide +kernel
theorem dX7_rest_45 : dI cX7_rest 45 46 (.iload_n 2) 1 := ⟨by decide +kernel, rfl⟩
theorem dX7_rest_46 : dI cX7_rest 46 47 (.iconst (-1)) 1 := ⟨by decide +kernel, rfl⟩
theorem dX7_rest_47 : decode cX7_rest 47 = .ok (.if_icmp .ne 7, 3) := by decide +kernel
theorem dX7_rest_50 : dI cX7_rest 50 51 (.iconst 0) 1 := ⟨by decide +kernel, rfl⟩
theorem dX7_rest_51 : decode cX7_rest 51 = .ok (.goto 11, 3) := by decide +kernel
theorem dX7_rest_54 : dI cX7_rest 54 55 (.aload_n 0) 1 := ⟨by decide +kernel, rfl⟩
theorem dX7_rest_55 : dI cX7_rest 55 58 (.getfield 63) 3 := ⟨by decide +kernel, rfl⟩
theorem dX7_rest_58 : dI cX7_rest 58 59 (.iload_n 1) 1 := ⟨by decide +kernel, rfl⟩
theorem dX7_rest_59 : dI cX7_rest 59 60 (.iaload) 1 := ⟨by decide +kernel, rfl⟩
theorem dX7_rest_60 : dI cX7_rest 60 61 (.iload_n 2) 1 := ⟨by decide +kernel, rfl⟩
theorem dX7_rest_61 : dI cX7_rest 61 62 (.irem) 1 := ⟨by decide +kernel, rfl⟩
theorem dX7_rest_62 : dI cX7_rest 62 63 (.ireturn) 1 := ⟨by decide +kernel, rfl⟩
def f_X7_rest (s : hS) (a0 : Nat) (i1 : Int32) (i2 : Int32) : Option (Int32 × hS) :=
  (f_X7_isSlot s i1).bind fun p1 =>
  if p1.1 = 0 then
    some ((-1000000001 : Int32), p1.2)
  else
    (gR p1.2 a0 7 27).bind fun a2 =>
    (aI p1.2 a2 10 i1).bind fun x3 =>
    if x3 = 0 then
      some ((-1000000011 : Int32), p1.2)
    else
      (gR p1.2 a0 7 27).bind fun a4 =>
      (aI p1.2 a4 10 i1).bind fun x5 =>
      if x5 = (3 : Int32) then
        if i2 = 0 then
          some ((-1000000002 : Int32), p1.2)
        else
          if i2 = (-1 : Int32) then
            some ((0 : Int32), p1.2)
          else
            (gR p1.2 a0 7 28).bind fun a6 =>
            (aI p1.2 a6 10 i1).bind fun x7 =>
            if i2 = 0 then none else
            some ((x7 - x7 / i2 * i2), p1.2)
      else
        some ((-1000000012 : Int32), p1.2)
theorem b_X7_rest_in (E : jE)  (s : hS) (a0 : Nat) (i1 : Int32) (i2 : Int32)  : Jo E M_X7_rest cvI 0 [(0, .ref a0), (1, .int i1), (2, .int i2)] [] s (f_X7_rest s a0 i1 i2) := by
  unfold f_X7_rest
  refine Jo_iloadn 1 dX7_rest_0 rfl rfl ?_
  refine Jo_callSi (rest := []) [.int i1] yF_X7_isSlot yS_X7_isSlot w_949 rfl rfl ⟨Nat.le_of_ble_eq_true rfl, Nat.le_of_ble_eq_true rfl, Nat.le_of_ble_eq_true rfl⟩ dX7_rest_1 rfl (K_X7_isSlot E s i1) (fun p1 => ?_)
  refine Jo_if_ne 10 dX7_rest_4 (by decide) rfl ?_ ?_
  · refine Jo_ldc dX7_rest_7 w_673 ?_
    exact Jo_iret rfl dX7_rest_9
  · refine Jo_aloadn 0 dX7_rest_10 rfl rfl ?_
    refine Jo_getR fF_7_27 fR_7_27 dX7_rest_11 w_604 (fun a2 => ?_)
    refine Jo_iloadn 1 dX7_rest_14 rfl rfl ?_
    refine Jo_iaload dX7_rest_15 (fun x3 => ?_)
    refine Jo_if_ne 23 dX7_rest_16 (by decide) rfl ?_ ?_
    · refine Jo_ldcw dX7_rest_19 w_936 ?_
      exact Jo_iret rfl dX7_rest_22
    · refine Jo_aloadn 0 dX7_rest_23 rfl rfl ?_
      refine Jo_getR fF_7_27 fR_7_27 dX7_rest_24 w_604 (fun a4 => ?_)
      refine Jo_iloadn 1 dX7_rest_27 rfl rfl ?_
      refine Jo_iaload dX7_rest_28 (fun x5 => ?_)
      refine Jo_iconst (v := (3 : Int32)) dX7_rest_29 (by decide) ?_
      refine Jo_icmp_eq 36 dX7_rest_30 (by decide) rfl ?_ ?_
      · refine Jo_iloadn 2 dX7_rest_36 rfl rfl ?_
        refine Jo_if_ne 45 dX7_rest_37 (by decide) rfl ?_ ?_
        · refine Jo_ldc dX7_rest_40 w_811 ?_
          refine Jo_goto 62 dX7_rest_42 (by decide) ?_
          exact Jo_iret rfl dX7_rest_62
        · refine Jo_iloadn 2 dX7_rest_45 rfl rfl ?_
          refine Jo_iconst (v := (-1 : Int32)) dX7_rest_46 (by decide) ?_
          refine Jo_icmp_ne 54 dX7_rest_47 (by decide) rfl ?_ ?_
          · refine Jo_iconst (v := (0 : Int32)) dX7_rest_50 (by decide) ?_
            refine Jo_goto 62 dX7_rest_51 (by decide) ?_
            exact Jo_iret rfl dX7_rest_62
          · refine Jo_aloadn 0 dX7_rest_54 rfl rfl ?_
            refine Jo_getR fF_7_28 fR_7_28 dX7_rest_55 w_603 (fun a6 => ?_)
            refine Jo_iloadn 1 dX7_rest_58 rfl rfl ?_
            refine Jo_iaload dX7_rest_59 (fun x7 => ?_)
            refine Jo_iloadn 2 dX7_rest_60 rfl rfl ?_
            refine Jo_irem dX7_rest_61 ?_
            exact Jo_iret rfl dX7_rest_62
      · refine Jo_ldc dX7_rest_33 w_785 ?_
        exact Jo_iret rfl dX7_rest_35
theorem K_X7_rest (E : jE) (s : hS) (a0 : Nat) (i1 : Int32) (i2 : Int32) : jK E yX7_rest M_X7_rest cvI [.ref a0, .int i1, .int i2] s (f_X7_rest s a0 i1 i2) := jK_of ⟨by decide, rfl, rfl⟩ (Nat.le_of_ble_eq_true rfl) (b_X7_rest_in E s a0 i1 i2)
/-! HeronTalkModel.tell(I)I -/
abbrev M_X7_tell : jM := (RX7, cX7_tell, 2, (some .int), "tell", 0, 0)
theorem yF_X7_tell : yF yX7_tell M_X7_tell 1 := ⟨w_963, w_624, by decide +kernel⟩
theorem yV_X7_tell : Cond.instanceMethod yX7_tell ∈ tbG ∧ Cond.selects yX7_tell.cls yX7_tell yX7_tell ∈ tbG := ⟨w_964, w_965⟩
theorem dX7_tell_0 : dI cX7_tell 0 1 (.aload_n 0) 1 := ⟨by decide +kernel, rfl⟩
theorem dX7_tell_1 : dI cX7_tell 1 4 (.getfield 289) 3 := ⟨by decide +kernel, rfl⟩
theorem dX7_tell_4 : dI cX7_tell 4 6 (.bipush 60) 2 := ⟨by decide +kernel, rfl⟩
theorem dX7_tell_6 : decode cX7_tell 6 = .ok (.if_icmp .ne 6, 3) := by decide +kernel
theorem dX7_tell_9 : dI cX7_tell 9 11 (.ldc 88) 2 := ⟨by decide +kernel, rfl⟩
theorem dX7_tell_11 : dI cX7_tell 11 12 (.ireturn) 1 := ⟨by decide +kernel, rfl⟩
theorem dX7_tell_12 : dI cX7_tell 12 13 (.aload_n 0) 1 := ⟨by decide +kernel, rfl⟩
theorem dX7_tell_13 : dI cX7_tell 13 16 (.getfield 75) 3 := ⟨by decide +kernel, rfl⟩
theorem dX7_tell_16 : dI cX7_tell 16 17 (.aload_n 0) 1 := ⟨by decide +kernel, rfl⟩
theorem dX7_tell_17 : dI cX7_tell 17 20 (.getfield 289) 3 := ⟨by decide +kernel, rfl⟩
theorem dX7_tell_20 : dI cX7_tell 20 21 (.iload_n 1) 1 := ⟨by decide +kernel, rfl⟩
theorem dX7_tell_21 : dI cX7_tell 21 22 (.iastore) 1 := ⟨by decide +kernel, rfl⟩
theorem dX7_tell_22 : dI cX7_tell 22 23 (.aload_n 0) 1 := ⟨by decide +kernel, rfl⟩
theorem dX7_tell_23 : dI cX7_tell 23 24 (.dup) 1 := ⟨by decide +kernel, rfl⟩
theorem dX7_tell_24 : dI cX7_tell 24 27 (.getfield 289) 3 := ⟨by decide +kernel, rfl⟩
theorem dX7_tell_27 : dI cX7_tell 27 28 (.iconst 1) 1 := ⟨by decide +kernel, rfl⟩
theorem dX7_tell_28 : dI cX7_tell 28 29 (.iadd) 1 := ⟨by decide +kernel, rfl⟩
theorem dX7_tell_29 : dI cX7_tell 29 32 (.putfield 289) 3 := ⟨by decide +kernel, rfl⟩
theorem dX7_tell_32 : dI cX7_tell 32 33 (.aload_n 0) 1 := ⟨by decide +kernel, rfl⟩
theorem dX7_tell_33 : dI cX7_tell 33 36 (.getfield 289) 3 := ⟨by decide +kernel, rfl⟩
theorem dX7_tell_36 : dI cX7_tell 36 37 (.ireturn) 1 := ⟨by decide +kernel, rfl⟩
def f_X7_tell (s : hS) (a0 : Nat) (i1 : Int32) : Option (Int32 × hS) :=
  (gI s a0 7 33).bind fun x1 =>
  if x1 = (60 : Int32) then
    some ((-1000000003 : Int32), s)
  else
    (gR s a0 7 32).bind fun a2 =>
    (gI s a0 7 33).bind fun x3 =>
    (sI s a2 10 x3 i1).bind fun s4 =>
    (gI s4 a0 7 33).bind fun x5 =>
    (pI s4 a0 7 33 (x5 + (1 : Int32))).bind fun s6 =>
    (gI s6 a0 7 33).bind fun x7 =>
    some (x7, s6)
theorem b_X7_tell_in (E : jE)  (s : hS) (a0 : Nat) (i1 : Int32)  : Jo E M_X7_tell cvI 0 [(0, .ref a0), (1, .int i1)] [] s (f_X7_tell s a0 i1) := by
  unfold f_X7_tell
  refine Jo_aloadn 0 dX7_tell_0 rfl rfl ?_
  refine Jo_getI fF_7_33 fI_7_33 dX7_tell_1 w_962 (fun x1 => ?_)
  refine Jo_bipush (v := (60 : Int32)) dX7_tell_4 (by decide) ?_
  refine Jo_icmp_ne 12 dX7_tell_6 (by decide) rfl ?_ ?_
  · refine Jo_ldc dX7_tell_9 w_672 ?_
    exact Jo_iret rfl dX7_tell_11
  · refine Jo_aloadn 0 dX7_tell_12 rfl rfl ?_
    refine Jo_getR fF_7_32 fR_7_32 dX7_tell_13 w_599 (fun a2 => ?_)
    refine Jo_aloadn 0 dX7_tell_16 rfl rfl ?_
    refine Jo_getI fF_7_33 fI_7_33 dX7_tell_17 w_962 (fun x3 => ?_)
    refine Jo_iloadn 1 dX7_tell_20 rfl rfl ?_
    refine Jo_iastore dX7_tell_21 (fun s4 => ?_)
    refine Jo_aloadn 0 dX7_tell_22 rfl rfl ?_
    refine Jo_dup dX7_tell_23 rfl ?_
    refine Jo_getI fF_7_33 fI_7_33 dX7_tell_24 w_962 (fun x5 => ?_)
    refine Jo_iconst (v := (1 : Int32)) dX7_tell_27 (by decide) ?_
    refine Jo_iadd dX7_tell_28 ?_
    refine Jo_putI fF_7_33 fI_7_33 (Or.inl rfl) rfl dX7_tell_29 w_962 (fun s6 => ?_)
    refine Jo_aloadn 0 dX7_tell_32 rfl rfl ?_
    refine Jo_getI fF_7_33 fI_7_33 dX7_tell_33 w_962 (fun x7 => ?_)
    exact Jo_iret rfl dX7_tell_36
theorem K_X7_tell (E : jE) (s : hS) (a0 : Nat) (i1 : Int32) : jK E yX7_tell M_X7_tell cvI [.ref a0, .int i1] s (f_X7_tell s a0 i1) := jK_of ⟨by decide, rfl, rfl⟩ (Nat.le_of_ble_eq_true rfl) (b_X7_tell_in E s a0 i1)
/-! HeronTalkModel.check(I)I -/
abbrev M_X7_check : jM := (RX7, cX7_check, 7, (some .int), "check", 10, 236)
theorem yF_X7_check : yF yX7_check M_X7_check 1 := ⟨w_968, w_624, by decide +kernel⟩
theorem yV_X7_check : Cond.instanceMethod yX7_check ∈ tbG ∧ Cond.selects yX7_check.cls yX7_check yX7_check ∈ tbG := ⟨w_969, w_970⟩
theorem dX7_check_0 : dI cX7_check 0 1 (.aload_n 0) 1 := ⟨by decide +kernel, rfl⟩
theorem dX7_check_1 : dI cX7_check 1 4 (.getfield 289) 3 := ⟨by decide +kernel, rfl⟩
theorem dX7_check_4 : dI cX7_check 4 5 (.istore_n 2) 1 := ⟨by decide +kernel, rfl⟩
theorem dX7_check_5 : dI cX7_check 5 6 (.aload_n 0) 1 := ⟨by decide +kernel, rfl⟩
theorem dX7_check_6 : dI cX7_check 6 7 (.iconst 0) 1 := ⟨by decide +kernel, rfl⟩
theorem dX7_check_7 : dI cX7_check 7 10 (.putfield 289) 3 := ⟨by decide +kernel, rfl⟩
theorem dX7_check_10 : dI cX7_check 10 11 (.iload_n 1) 1 := ⟨by decide +kernel, rfl⟩
theorem dX7_check_11 : dI cX7_check 11 12 (.iconst 1) 1 := ⟨by decide +kernel, rfl⟩
theorem dX7_check_12 : dI cX7_check 12 14 (.bipush 30) 2 := ⟨by decide +kernel, rfl⟩
theorem dX7_check_14 : decode cX7_check 14 = .ok (.invokestatic 79, 3) := by decide +kernel
theorem dX7_check_17 : decode cX7_check 17 = .ok (.ifCond .ne 6, 3) := by decide +kernel
theorem dX7_check_20 : dI cX7_check 20 22 (.ldc 87) 2 := ⟨by decide +kernel, rfl⟩
theorem dX7_check_22 : dI cX7_check 22 23 (.ireturn) 1 := ⟨by decide +kernel, rfl⟩
theorem dX7_check_23 : dI cX7_check 23 24 (.aload_n 0) 1 := ⟨by decide +kernel, rfl⟩
theorem dX7_check_24 : dI cX7_check 24 27 (.getfield 292) 3 := ⟨by decide +kernel, rfl⟩
theorem dX7_check_27 : decode cX7_check 27 = .ok (.ifCond .ne 6, 3) := by decide +kernel
theorem dX7_check_30 : dI cX7_check 30 32 (.ldc 189) 2 := ⟨by decide +kernel, rfl⟩
theorem dX7_check_32 : dI cX7_check 32 33 (.ireturn) 1 := ⟨by decide +kernel, rfl⟩
theorem dX7_check_33 : dI cX7_check 33 34 (.aload_n 0) 1 := ⟨by decide +kernel, rfl⟩
theorem dX7_check_34 : dI cX7_check 34 37 (.getfield 9) 3 := ⟨by decide +kernel, rfl⟩
theorem dX7_check_37 : dI cX7_check 37 38 (.aload_n 0) 1 := ⟨by decide +kernel, rfl⟩
theorem dX7_check_38 : dI cX7_check 38 41 (.getfield 16) 3 := ⟨by decide +kernel, rfl⟩
theorem dX7_check_41 : decode cX7_check 41 = .ok (.invokestatic 296, 3) := by decide +kernel
theorem dX7_check_44 : dI cX7_check 44 45 (.aload_n 0) 1 := ⟨by decide +kernel, rfl⟩
theorem dX7_check_45 : dI cX7_check 45 48 (.getfield 13) 3 := ⟨by decide +kernel, rfl⟩
theorem dX7_check_48 : dI cX7_check 48 49 (.aload_n 0) 1 := ⟨by decide +kernel, rfl⟩
theorem dX7_check_49 : dI cX7_check 49 52 (.getfield 9) 3 := ⟨by decide +kernel, rfl⟩
theorem dX7_check_52 : decode cX7_check 52 = .ok (.invokestatic 296, 3) := by decide +kernel
theorem dX7_check_55 : dI cX7_check 55 56 (.iconst 2) 1 := ⟨by decide +kernel, rfl⟩
theorem dX7_check_56 : dI cX7_check 56 59 (.sipush 999) 3 := ⟨by decide +kernel, rfl⟩
theorem dX7_check_59 : dI cX7_check 59 60 (.aload_n 0) 1 := ⟨by decide +kernel, rfl⟩
theorem dX7_check_60 : dI cX7_check 60 63 (.getfield 9) 3 := ⟨by decide +kernel, rfl⟩
theorem dX7_check_63 : dI cX7_check 63 64 (.iconst 5) 1 := ⟨by decide +kernel, rfl⟩
theorem dX7_check_64 : dI cX7_check 64 65 (.iaload) 1 := ⟨by decide +kernel, rfl⟩
theorem dX7_check_65 : dI cX7_check 65 66 (.isub) 1 := ⟨by decide +kernel, rfl⟩
theorem dX7_check_66 : dI cX7_check 66 67 (.iconst 0) 1 := ⟨by decide +kernel, rfl⟩
theorem dX7_check_67 : dI cX7_check 67 68 (.iload_n 1) 1 := ⟨by decide +kernel, rfl⟩
theorem dX7_check_68 : decode cX7_check 68 = .ok (.invokestatic 138, 3) := by decide +kernel
theorem dX7_check_71 : dI cX7_check 71 72 (.imul) 1 := ⟨by decide +kernel, rfl⟩
theorem dX7_check_72 : dI cX7_check 72 73 (.istore_n 3) 1 := ⟨by decide +kernel, rfl⟩
theorem dX7_check_73 : dI cX7_check 73 74 (.iconst 0) 1 := ⟨by decide +kernel, rfl⟩
theorem dX7_check_74 : dI cX7_check 74 76 (.istore 4) 2 := ⟨by decide +kernel, rfl⟩
theorem dX7_check_76 : dI cX7_check 76 77 (.iconst 0) 1 := ⟨by decide +kernel, rfl⟩
theorem dX7_check_77 : dI cX7_check 77 79 (.istore 5) 2 := ⟨by decide +kernel, rfl⟩
theorem dX7_check_79 : dI cX7_check 79 80 (.iconst 2) 1 := ⟨by decide +kernel, rfl⟩
theorem dX7_check_80 : dI cX7_check 80 82 (.iload 5) 2 := ⟨by decide +kernel, rfl⟩
theorem dX7_check_82 : dI cX7_check 82 83 (.imul) 1 := ⟨by decide +kernel, rfl⟩
theorem dX7_check_83 : dI cX7_check 83 84 (.iload_n 3) 1 := ⟨by decide +kernel, rfl⟩
theorem dX7_check_84 : decode cX7_check 84 = .ok (.if_icmp .ge 93, 3) := by decide +kernel
theorem dX7_check_87 : dI cX7_check 87 89 (.iload 4) 2 := ⟨by decide +kernel, rfl⟩
theorem dX7_check_89 : dI cX7_check 89 90 (.iconst 2) 1 := ⟨by decide +kernel, rfl⟩
theorem dX7_check_90 : dI cX7_check 90 92 (.iload 5) 2 := ⟨by decide +kernel, rfl⟩
theorem dX7_check_92 : dI cX7_check 92 93 (.imul) 1 := ⟨by decide +kernel, rfl⟩
theorem dX7_check_93 : decode cX7_check 93 = .ok (.if_icmp .ne 84, 3) := by decide +kernel
theorem dX7_check_96 : dI cX7_check 96 97 (.aload_n 0) 1 := ⟨by decide +kernel, rfl⟩
theorem dX7_check_97 : decode cX7_check 97 = .ok (.invokevirtual 190, 3) := by decide +kernel
theorem dX7_check_100 : dI cX7_check 100 102 (.istore 6) 2 := ⟨by decide +kernel, rfl⟩
theorem dX7_check_102 : dI cX7_check 102 104 (.iload 4) 2 := ⟨by decide +kernel, rfl⟩
theorem dX7_check_104 : dI cX7_check 104 106 (.iload 4) 2 := ⟨by decide +kernel, rfl⟩
theorem dX7_check_106 : dI cX7_check 106 107 (.iload_n 2) 1 := ⟨by decide +kernel, rfl⟩
theorem dX7_check_107 : decode cX7_check 107 = .ok (.if_icmp .ge 19, 3) := by decide +kernel
theorem dX7_check_110 : dI cX7_check 110 111 (.aload_n 0) 1 := ⟨by decide +kernel, rfl⟩
theorem dX7_check_111 : dI cX7_check 111 114 (.getfield 75) 3 := ⟨by decide +kernel, rfl⟩
theorem dX7_check_114 : dI cX7_check 114 116 (.iload 4) 2 := ⟨by decide +kernel, rfl⟩
theorem dX7_check_116 : dI cX7_check 116 117 (.iaload) 1 := ⟨by decide +kernel, rfl⟩
theorem dX7_check_117 : dI cX7_check 117 119 (.iload 6) 2 := ⟨by decide +kernel, rfl⟩
theorem dX7_check_119 : decode cX7_check 119 = .ok (.if_icmp .ne 7, 3) := by decide +kernel
theorem dX7_check_122 : dI cX7_check 122 123 (.iconst 1) 1 := ⟨by decide +kernel, rfl⟩
theorem dX7_check_123 : decode cX7_check 123 = .ok (.goto 4, 3) := by decide +kernel
theorem dX7_check_126 : dI cX7_check 126 127 (.iconst 0) 1 := ⟨by decide +kernel, rfl⟩
theorem dX7_check_127 : dI cX7_check 127 128 (.iadd) 1 := ⟨by decide +kernel, rfl⟩
theorem dX7_check_128 : dI cX7_check 128 130 (.istore 4) 2 := ⟨by decide +kernel, rfl⟩
theorem dX7_check_130 : dI cX7_check 130 132 (.iload 4) 2 := ⟨by decide +kernel, rfl⟩
theorem dX7_check_132 : dI cX7_check 132 134 (.iload 4) 2 := ⟨by decide +kernel, rfl⟩
theorem dX7_check_134 : dI cX7_check 134 135 (.iconst 2) 1 := ⟨by decide +kernel, rfl⟩
theorem dX7_check_135 : dI cX7_check 135 137 (.iload 5) 2 := ⟨by decide +kernel, rfl⟩
theorem dX7_check_137 : dI cX7_check 137 138 (.imul) 1 := ⟨by decide +kernel, rfl⟩
theorem dX7_check_138 : dI cX7_check 138 139 (.iconst 1) 1 := ⟨by decide +kernel, rfl⟩
theorem dX7_check_139 : dI cX7_check 139 140 (.iadd) 1 := ⟨by decide +kernel, rfl⟩
theorem dX7_check_140 : decode cX7_check 140 = .ok (.if_icmp .ne 27, 3) := by decide +kernel
theorem dX7_check_143 : dI cX7_check 143 145 (.iload 4) 2 := ⟨by decide +kernel, rfl⟩
theorem dX7_check_145 : dI cX7_check 145 146 (.iload_n 2) 1 := ⟨by decide +kernel, rfl⟩
theorem dX7_check_146 : decode cX7_check 146 = .ok (.if_icmp .ge 21, 3) := by decide +kernel
theorem dX7_check_149 : dI cX7_check 149 150 (.aload_n 0) 1 := ⟨by decide +kernel, rfl⟩
theorem dX7_check_150 : dI cX7_check 150 153 (.getfield 75) 3 := ⟨by decide +kernel, rfl⟩
theorem dX7_check_153 : dI cX7_check 153 155 (.iload 4) 2 := ⟨by decide +kernel, rfl⟩
theorem dX7_check_155 : dI cX7_check 155 156 (.iaload) 1 := ⟨by decide +kernel, rfl⟩
theorem dX7_check_156 : dI cX7_check 156 157 (.aload_n 0) 1 := ⟨by decide +kernel, rfl⟩
theorem dX7_check_157 : decode cX7_check 157 = .ok (.invokevirtual 151, 3) := by decide +kernel
theorem dX7_check_160 : decode cX7_check 160 = .ok (.if_icmp .ne 7, 3) := by decide +kernel
theorem dX7_check_163 : dI cX7_check 163 164 (.iconst 1) 1 := ⟨by decide +kernel, rfl⟩
theorem dX7_check_164 : decode cX7_check 164 = .ok (.goto 4, 3) := by decide +kernel
theorem dX7_check_167 : dI cX7_check 167 168 (.iconst 0) 1 := ⟨by decide +kernel, rfl⟩
theorem dX7_check_168 : dI cX7_check 168 169 (.iadd) 1 := ⟨by decide +kernel, rfl⟩
theorem dX7_check_169 : dI cX7_check 169 171 (.istore 4) 2 := ⟨by decide +kernel, rfl⟩
theorem dX7_check_171 : dI cX7_check 171 174 (.iinc 5 1) 3 := ⟨by decide +kernel, rfl⟩
theorem dX7_check_174 : decode cX7_check 174 = .ok (.goto (-95), 3) := by decide +kernel
theorem dX7_check_177 : dI cX7_check 177 178 (.aload_n 0) 1 := ⟨by decide +kernel, rfl⟩
theorem dX7_check_178 : dI cX7_check 178 181 (.getfield 16) 3 := ⟨by decide +kernel, rfl⟩
theorem dX7_check_181 : dI cX7_check 181 182 (.aload_n 0) 1 := ⟨by decide +kernel, rfl⟩
theorem dX7_check_182 : dI cX7_check 182 185 (.getfield 9) 3 := ⟨by decide +kernel, rfl⟩
theorem dX7_check_185 : decode cX7_check 185 = .ok (.invokestatic 296, 3) := by decide +kernel
theorem dX7_check_188 : dI cX7_check 188 190 (.iload 4) 2 := ⟨by decide +kernel, rfl⟩
theorem dX7_check_190 : dI cX7_check 190 191 (.iload_n 2) 1 := ⟨by decide +kernel, rfl⟩
theorem dX7_check_191 : decode cX7_check 191 = .ok (.if_icmp .ne 13, 3) := by decide +kernel
theorem dX7_check_194 : dI cX7_check 194 196 (.iload 4) 2 := ⟨by decide +kernel, rfl⟩
theorem dX7_check_196 : dI cX7_check 196 197 (.iload_n 3) 1 := ⟨by decide +kernel, rfl⟩
theorem dX7_check_197 : decode cX7_check 197 = .ok (.if_icmp .ne 7, 3) := by decide +kernel
theorem dX7_check_200 : dI cX7_check 200 201 (.iconst 0) 1 := ⟨by decide +kernel, rfl⟩
theorem dX7_check_201 : decode cX7_check 201 = .ok (.goto 7, 3) := by decide +kernel
theorem dX7_check_204 : dI cX7_check 204 205 (.iconst 1) 1 := ⟨by decide +kernel, rfl⟩
theorem dX7_check_205 : dI cX7_check 205 207 (.iload 4) 2 := ⟨by decide +kernel, rfl⟩
theorem dX7_check_207 : dI cX7_check 207 208 (.iadd) 1 := ⟨by decide +kernel, rfl⟩
theorem dX7_check_208 : dI cX7_check 208 209 (.ireturn) 1 := ⟨by decide +kernel, rfl⟩
def f_X7_check_b177 (l0 : Nat) (l2 : Int32) (l3 : Int32) (l4 : Int32) (s : hS) : Option (Int32 × hS) :=
  (gR s l0 7 2).bind fun a1 =>
  (gR s l0 7 0).bind fun a2 =>
  (f_X7_copyAll s a1 a2).bind fun p3 =>
  if l4 = l2 then
    if l4 = l3 then
      some ((0 : Int32), p3.2)
    else
      some (((1 : Int32) + l4), p3.2)
  else
    some (((1 : Int32) + l4), p3.2)
theorem b_X7_check_177 (E : jE)  (s : hS) (l0 : Nat) (l2 : Int32) (l3 : Int32) (l4 : Int32)  : Jo E M_X7_check cvI 177 [(0, .ref l0), (2, .int l2), (3, .int l3), (4, .int l4)] [] s (f_X7_check_b177  l0 l2 l3 l4 s) := by
  unfold f_X7_check_b177
  refine Jo_aloadn 0 dX7_check_177 rfl rfl ?_
  refine Jo_getR fF_7_2 fR_7_2 dX7_check_178 w_620 (fun a1 => ?_)
  refine Jo_aloadn 0 dX7_check_181 rfl rfl ?_
  refine Jo_getR fF_7_0 fR_7_0 dX7_check_182 w_598 (fun a2 => ?_)
  refine Jo_callSv (rest := []) [.ref a1, .ref a2] yF_X7_copyAll yS_X7_copyAll w_966 rfl rfl ⟨Nat.le_of_ble_eq_true rfl, Nat.le_of_ble_eq_true rfl, Nat.le_of_ble_eq_true rfl⟩ dX7_check_185 rfl (K_X7_copyAll E s a1 a2) (fun p3 => ?_)
  refine Jo_iload 3 dX7_check_188 rfl ?_
  refine Jo_iloadn 1 dX7_check_190 rfl rfl ?_
  refine Jo_icmp_ne 204 dX7_check_191 (by decide) rfl ?_ ?_
  · refine Jo_iload 3 dX7_check_194 rfl ?_
    refine Jo_iloadn 2 dX7_check_196 rfl rfl ?_
    refine Jo_icmp_ne 204 dX7_check_197 (by decide) rfl ?_ ?_
    · refine Jo_iconst (v := (0 : Int32)) dX7_check_200 (by decide) ?_
      refine Jo_goto 208 dX7_check_201 (by decide) ?_
      exact Jo_iret rfl dX7_check_208
    · refine Jo_iconst (v := (1 : Int32)) dX7_check_204 (by decide) ?_
      refine Jo_iload 3 dX7_check_205 rfl ?_
      refine Jo_iadd dX7_check_207 ?_
      exact Jo_iret rfl dX7_check_208
  · refine Jo_iconst (v := (1 : Int32)) dX7_check_204 (by decide) ?_
    refine Jo_iload 3 dX7_check_205 rfl ?_
    refine Jo_iadd dX7_check_207 ?_
    exact Jo_iret rfl dX7_check_208
def f_X7_check_b168 (k79 : Nat → Int32 → Int32 → Int32 → Int32 → hS → Option (Int32 × hS)) (l0 : Nat) (l2 : Int32) (l3 : Int32) (l5 : Int32) (t0 : Int32) (t1 : Int32) (s : hS) : Option (Int32 × hS) :=
  nmv ((t0 + t1)) fun x1 =>
  k79 l0 l2 l3 x1 (l5 + (1 : Int32)) s
theorem b_X7_check_168 (E : jE) (k79 : Nat → Int32 → Int32 → Int32 → Int32 → hS → Option (Int32 × hS)) (h79 : ∀ (s : hS) (l0 : Nat) (l2 : Int32) (l3 : Int32) (l4 : Int32) (l5 : Int32) , Jo E M_X7_check cvI 79 [(0, .ref l0), (2, .int l2), (3, .int l3), (4, .int l4), (5, .int l5)] [] s (k79 l0 l2 l3 l4 l5 s)) (s : hS) (l0 : Nat) (l2 : Int32) (l3 : Int32) (l5 : Int32) (t0 : Int32) (t1 : Int32) : Jo E M_X7_check cvI 168 [(0, .ref l0), (2, .int l2), (3, .int l3), (5, .int l5)] [.int t1, .int t0] s (f_X7_check_b168 k79 l0 l2 l3 l5 t0 t1 s) := by
  unfold f_X7_check_b168
  refine Jo_iadd dX7_check_168 ?_
  refine Jo_nm (fun x1 => ?_)
  refine Jo_istore (ls' := [(4, .int x1), (0, .ref l0), (2, .int l2), (3, .int l3), (5, .int l5)]) dX7_check_169 (by decide) rfl ?_
  refine Jo_iinc (v := (l5 + (1 : Int32))) (ls' := [(5, .int (l5 + (1 : Int32))), (4, .int x1), (0, .ref l0), (2, .int l2), (3, .int l3)]) 4 dX7_check_171 rfl rfl (by decide) rfl ?_
  refine Jo_goto 79 dX7_check_174 (by decide) ?_
  refine Jo_sub [2, 3, 4, 1, 0] rfl ?_
  exact h79 s l0 l2 l3 x1 (l5 + (1 : Int32))
def f_X7_check_b167 (k79 : Nat → Int32 → Int32 → Int32 → Int32 → hS → Option (Int32 × hS)) (l0 : Nat) (l2 : Int32) (l3 : Int32) (l5 : Int32) (t0 : Int32) (s : hS) : Option (Int32 × hS) :=
  f_X7_check_b168 k79 l0 l2 l3 l5 t0 (0 : Int32) s
theorem b_X7_check_167 (E : jE) (k79 : Nat → Int32 → Int32 → Int32 → Int32 → hS → Option (Int32 × hS)) (h79 : ∀ (s : hS) (l0 : Nat) (l2 : Int32) (l3 : Int32) (l4 : Int32) (l5 : Int32) , Jo E M_X7_check cvI 79 [(0, .ref l0), (2, .int l2), (3, .int l3), (4, .int l4), (5, .int l5)] [] s (k79 l0 l2 l3 l4 l5 s)) (s : hS) (l0 : Nat) (l2 : Int32) (l3 : Int32) (l5 : Int32) (t0 : Int32) : Jo E M_X7_check cvI 167 [(0, .ref l0), (2, .int l2), (3, .int l3), (5, .int l5)] [.int t0] s (f_X7_check_b167 k79 l0 l2 l3 l5 t0 s) := by
  unfold f_X7_check_b167
  refine Jo_iconst (v := (0 : Int32)) dX7_check_167 (by decide) ?_
  exact b_X7_check_168 E k79 h79 s l0 l2 l3 l5 t0 (0 : Int32)
def f_X7_check_b127 (k79 : Nat → Int32 → Int32 → Int32 → Int32 → hS → Option (Int32 × hS)) (l0 : Nat) (l2 : Int32) (l3 : Int32) (l5 : Int32) (t0 : Int32) (t1 : Int32) (s : hS) : Option (Int32 × hS) :=
  nmv ((t0 + t1)) fun x1 =>
  if x1 = (((2 : Int32) * l5) + (1 : Int32)) then
    if l2 ≤ x1 then
      f_X7_check_b167 k79 l0 l2 l3 l5 x1 s
    else
      (gR s l0 7 32).bind fun a2 =>
      (aI s a2 10 x1).bind fun x3 =>
      (cV s l0 7 (f_X7_knownAll s l0)).bind fun p4 =>
      if x3 = p4.1 then
        f_X7_check_b168 k79 l0 l2 l3 l5 x1 (1 : Int32) p4.2
      else
        f_X7_check_b167 k79 l0 l2 l3 l5 x1 p4.2
  else
    f_X7_check_b167 k79 l0 l2 l3 l5 x1 s
theorem b_X7_check_127 (E : jE) (k79 : Nat → Int32 → Int32 → Int32 → Int32 → hS → Option (Int32 × hS)) (h79 : ∀ (s : hS) (l0 : Nat) (l2 : Int32) (l3 : Int32) (l4 : Int32) (l5 : Int32) , Jo E M_X7_check cvI 79 [(0, .ref l0), (2, .int l2), (3, .int l3), (4, .int l4), (5, .int l5)] [] s (k79 l0 l2 l3 l4 l5 s)) (s : hS) (l0 : Nat) (l2 : Int32) (l3 : Int32) (l5 : Int32) (t0 : Int32) (t1 : Int32) : Jo E M_X7_check cvI 127 [(0, .ref l0), (2, .int l2), (3, .int l3), (5, .int l5)] [.int t1, .int t0] s (f_X7_check_b127 k79 l0 l2 l3 l5 t0 t1 s) := by
  unfold f_X7_check_b127
  refine Jo_iadd dX7_check_127 ?_
  refine Jo_nm (fun x1 => ?_)
  refine Jo_istore (ls' := [(4, .int x1), (0, .ref l0), (2, .int l2), (3, .int l3), (5, .int l5)]) dX7_check_128 (by decide) rfl ?_
  refine Jo_iload 0 dX7_check_130 rfl ?_
  refine Jo_iload 0 dX7_check_132 rfl ?_
  refine Jo_iconst (v := (2 : Int32)) dX7_check_134 (by decide) ?_
  refine Jo_iload 4 dX7_check_135 rfl ?_
  refine Jo_imul dX7_check_137 ?_
  refine Jo_iconst (v := (1 : Int32)) dX7_check_138 (by decide) ?_
  refine Jo_iadd dX7_check_139 ?_
  refine Jo_icmp_ne 167 dX7_check_140 (by decide) rfl ?_ ?_
  · refine Jo_iload 0 dX7_check_143 rfl ?_
    refine Jo_iloadn 2 dX7_check_145 rfl rfl ?_
    refine Jo_icmp_ge 167 dX7_check_146 (by decide) rfl ?_ ?_
    · refine Jo_sub [1, 2, 3, 4] rfl ?_
      exact b_X7_check_167 E k79 h79 s l0 l2 l3 l5 x1
    · refine Jo_aloadn 1 dX7_check_149 rfl rfl ?_
      refine Jo_getR fF_7_32 fR_7_32 dX7_check_150 w_599 (fun a2 => ?_)
      refine Jo_iload 0 dX7_check_153 rfl ?_
      refine Jo_iaload dX7_check_155 (fun x3 => ?_)
      refine Jo_aloadn 1 dX7_check_156 rfl rfl ?_
      refine Jo_callVi (a := l0) (rest := [.int x3, .int x1]) [] cc_7 yF_X7_knownAll yV_X7_knownAll w_743 rfl rfl ⟨Nat.le_of_ble_eq_true rfl, Nat.le_of_ble_eq_true rfl, Nat.le_of_ble_eq_true rfl⟩ dX7_check_157 rfl (K_X7_knownAll E s l0) (fun p4 => ?_)
      refine Jo_icmp_ne 167 dX7_check_160 (by decide) rfl ?_ ?_
      · refine Jo_iconst (v := (1 : Int32)) dX7_check_163 (by decide) ?_
        refine Jo_goto 168 dX7_check_164 (by decide) ?_
        refine Jo_sub [1, 2, 3, 4] rfl ?_
        exact b_X7_check_168 E k79 h79 p4.2 l0 l2 l3 l5 x1 (1 : Int32)
      · refine Jo_sub [1, 2, 3, 4] rfl ?_
        exact b_X7_check_167 E k79 h79 p4.2 l0 l2 l3 l5 x1
  · refine Jo_sub [1, 2, 3, 4] rfl ?_
    exact b_X7_check_167 E k79 h79 s l0 l2 l3 l5 x1
def f_X7_check_b126 (k79 : Nat → Int32 → Int32 → Int32 → Int32 → hS → Option (Int32 × hS)) (l0 : Nat) (l2 : Int32) (l3 : Int32) (l5 : Int32) (t0 : Int32) (s : hS) : Option (Int32 × hS) :=
  f_X7_check_b127 k79 l0 l2 l3 l5 t0 (0 : Int32) s
theorem b_X7_check_126 (E : jE) (k79 : Nat → Int32 → Int32 → Int32 → Int32 → hS → Option (Int32 × hS)) (h79 : ∀ (s : hS) (l0 : Nat) (l2 : Int32) (l3 : Int32) (l4 : Int32) (l5 : Int32) , Jo E M_X7_check cvI 79 [(0, .ref l0), (2, .int l2), (3, .int l3), (4, .int l4), (5, .int l5)] [] s (k79 l0 l2 l3 l4 l5 s)) (s : hS) (l0 : Nat) (l2 : Int32) (l3 : Int32) (l5 : Int32) (t0 : Int32) : Jo E M_X7_check cvI 126 [(0, .ref l0), (2, .int l2), (3, .int l3), (5, .int l5)] [.int t0] s (f_X7_check_b126 k79 l0 l2 l3 l5 t0 s) := by
  unfold f_X7_check_b126
  refine Jo_iconst (v := (0 : Int32)) dX7_check_126 (by decide) ?_
  exact b_X7_check_127 E k79 h79 s l0 l2 l3 l5 t0 (0 : Int32)
def f_X7_check_b79 (k79 : Nat → Int32 → Int32 → Int32 → Int32 → hS → Option (Int32 × hS)) (l0 : Nat) (l2 : Int32) (l3 : Int32) (l4 : Int32) (l5 : Int32) (s : hS) : Option (Int32 × hS) :=
  if l3 ≤ ((2 : Int32) * l5) then
    f_X7_check_b177 l0 l2 l3 l4 s
  else
    if l4 = ((2 : Int32) * l5) then
      (cV s l0 7 (f_X7_aRound s l0)).bind fun p1 =>
      if l2 ≤ l4 then
        f_X7_check_b126 k79 l0 l2 l3 l5 l4 p1.2
      else
        (gR p1.2 l0 7 32).bind fun a2 =>
        (aI p1.2 a2 10 l4).bind fun x3 =>
        if x3 = p1.1 then
          f_X7_check_b127 k79 l0 l2 l3 l5 l4 (1 : Int32) p1.2
        else
          f_X7_check_b126 k79 l0 l2 l3 l5 l4 p1.2
    else
      f_X7_check_b177 l0 l2 l3 l4 s
theorem b_X7_check_79 (E : jE) (k79 : Nat → Int32 → Int32 → Int32 → Int32 → hS → Option (Int32 × hS)) (h79 : ∀ (s : hS) (l0 : Nat) (l2 : Int32) (l3 : Int32) (l4 : Int32) (l5 : Int32) , Jo E M_X7_check cvI 79 [(0, .ref l0), (2, .int l2), (3, .int l3), (4, .int l4), (5, .int l5)] [] s (k79 l0 l2 l3 l4 l5 s)) (s : hS) (l0 : Nat) (l2 : Int32) (l3 : Int32) (l4 : Int32) (l5 : Int32)  : Jo E M_X7_check cvI 79 [(0, .ref l0), (2, .int l2), (3, .int l3), (4, .int l4), (5, .int l5)] [] s (f_X7_check_b79 k79 l0 l2 l3 l4 l5 s) := by
  unfold f_X7_check_b79
  refine Jo_iconst (v := (2 : Int32)) dX7_check_79 (by decide) ?_
  refine Jo_iload 4 dX7_check_80 rfl ?_
  refine Jo_imul dX7_check_82 ?_
  refine Jo_iloadn 2 dX7_check_83 rfl rfl ?_
  refine Jo_icmp_ge 177 dX7_check_84 (by decide) rfl ?_ ?_
  · refine Jo_sub [0, 1, 2, 3] rfl ?_
    exact b_X7_check_177 E s l0 l2 l3 l4
  · refine Jo_iload 3 dX7_check_87 rfl ?_
    refine Jo_iconst (v := (2 : Int32)) dX7_check_89 (by decide) ?_
    refine Jo_iload 4 dX7_check_90 rfl ?_
    refine Jo_imul dX7_check_92 ?_
    refine Jo_icmp_ne 177 dX7_check_93 (by decide) rfl ?_ ?_
    · refine Jo_aloadn 0 dX7_check_96 rfl rfl ?_
      refine Jo_callVi (a := l0) (rest := []) [] cc_7 yF_X7_aRound yV_X7_aRound w_810 rfl rfl ⟨Nat.le_of_ble_eq_true rfl, Nat.le_of_ble_eq_true rfl, Nat.le_of_ble_eq_true rfl⟩ dX7_check_97 rfl (K_X7_aRound E s l0) (fun p1 => ?_)
      refine Jo_istore (ls' := [(6, .int p1.1), (0, .ref l0), (2, .int l2), (3, .int l3), (4, .int l4), (5, .int l5)]) dX7_check_100 (by decide) rfl ?_
      refine Jo_iload 4 dX7_check_102 rfl ?_
      refine Jo_iload 4 dX7_check_104 rfl ?_
      refine Jo_iloadn 2 dX7_check_106 rfl rfl ?_
      refine Jo_icmp_ge 126 dX7_check_107 (by decide) rfl ?_ ?_
      · refine Jo_sub [1, 2, 3, 5] rfl ?_
        exact b_X7_check_126 E k79 h79 p1.2 l0 l2 l3 l5 l4
      · refine Jo_aloadn 1 dX7_check_110 rfl rfl ?_
        refine Jo_getR fF_7_32 fR_7_32 dX7_check_111 w_599 (fun a2 => ?_)
        refine Jo_iload 4 dX7_check_114 rfl ?_
        refine Jo_iaload dX7_check_116 (fun x3 => ?_)
        refine Jo_iload 0 dX7_check_117 rfl ?_
        refine Jo_icmp_ne 126 dX7_check_119 (by decide) rfl ?_ ?_
        · refine Jo_iconst (v := (1 : Int32)) dX7_check_122 (by decide) ?_
          refine Jo_goto 127 dX7_check_123 (by decide) ?_
          refine Jo_sub [1, 2, 3, 5] rfl ?_
          exact b_X7_check_127 E k79 h79 p1.2 l0 l2 l3 l5 l4 (1 : Int32)
        · refine Jo_sub [1, 2, 3, 5] rfl ?_
          exact b_X7_check_126 E k79 h79 p1.2 l0 l2 l3 l5 l4
    · refine Jo_sub [0, 1, 2, 3] rfl ?_
      exact b_X7_check_177 E s l0 l2 l3 l4
theorem e_X7_check_79 (E : jE)  (n : Nat) : ∀ (s : hS) (l0 : Nat) (l2 : Int32) (l3 : Int32) (l4 : Int32) (l5 : Int32) , Jo E M_X7_check cvI 79 [(0, .ref l0), (2, .int l2), (3, .int l3), (4, .int l4), (5, .int l5)] [] s ((jL f_X7_check_b79 (fun _ _ _ _ _ _ => none) n) l0 l2 l3 l4 l5 s) :=
  jL_ind (P := fun f => ∀ (s : hS) (l0 : Nat) (l2 : Int32) (l3 : Int32) (l4 : Int32) (l5 : Int32) , Jo E M_X7_check cvI 79 [(0, .ref l0), (2, .int l2), (3, .int l3), (4, .int l4), (5, .int l5)] [] s (f l0 l2 l3 l4 l5 s)) (fun _ _ _ _ _ _ => Jo_none) (fun b hb s l0 l2 l3 l4 l5 => b_X7_check_79 E  b hb s l0 l2 l3 l4 l5) n
def f_X7_check (s : hS) (a0 : Nat) (i1 : Int32) : Option (Int32 × hS) :=
  (gI s a0 7 33).bind fun x1 =>
  (pI s a0 7 33 (0 : Int32)).bind fun s2 =>
  (f_X7_in s2 i1 (1 : Int32) (30 : Int32)).bind fun p3 =>
  if p3.1 = 0 then
    some ((-1000000001 : Int32), p3.2)
  else
    (gI p3.2 a0 7 3).bind fun x4 =>
    if x4 = 0 then
      some ((-1000000002 : Int32), p3.2)
    else
      (gR p3.2 a0 7 0).bind fun a5 =>
      (gR p3.2 a0 7 2).bind fun a6 =>
      (f_X7_copyAll p3.2 a5 a6).bind fun p7 =>
      (gR p7.2 a0 7 1).bind fun a8 =>
      (gR p7.2 a0 7 0).bind fun a9 =>
      (f_X7_copyAll p7.2 a8 a9).bind fun p10 =>
      (gR p10.2 a0 7 0).bind fun a11 =>
      (aI p10.2 a11 10 (5 : Int32)).bind fun x12 =>
      (f_X7_within p10.2 ((999 : Int32) - x12) (0 : Int32) i1).bind fun p13 =>
      nmv (((2 : Int32) * p13.1)) fun x14 =>
      jL f_X7_check_b79 (fun _ _ _ _ _ _ => none) jF a0 x1 x14 (0 : Int32) (0 : Int32) p13.2
theorem b_X7_check_in (E : jE)  (s : hS) (a0 : Nat) (i1 : Int32)  : Jo E M_X7_check cvI 0 [(0, .ref a0), (1, .int i1)] [] s (f_X7_check s a0 i1) := by
  unfold f_X7_check
  refine Jo_aloadn 0 dX7_check_0 rfl rfl ?_
  refine Jo_getI fF_7_33 fI_7_33 dX7_check_1 w_962 (fun x1 => ?_)
  refine Jo_istoren (ls' := [(2, .int x1), (0, .ref a0), (1, .int i1)]) dX7_check_4 rfl (by decide) rfl ?_
  refine Jo_aloadn 1 dX7_check_5 rfl rfl ?_
  refine Jo_iconst (v := (0 : Int32)) dX7_check_6 (by decide) ?_
  refine Jo_putI fF_7_33 fI_7_33 (Or.inl rfl) rfl dX7_check_7 w_962 (fun s2 => ?_)
  refine Jo_iloadn 2 dX7_check_10 rfl rfl ?_
  refine Jo_iconst (v := (1 : Int32)) dX7_check_11 (by decide) ?_
  refine Jo_bipush (v := (30 : Int32)) dX7_check_12 (by decide) ?_
  refine Jo_callSi (rest := []) [.int i1, .int (1 : Int32), .int (30 : Int32)] yF_X7_in yS_X7_in w_635 rfl rfl ⟨Nat.le_of_ble_eq_true rfl, Nat.le_of_ble_eq_true rfl, Nat.le_of_ble_eq_true rfl⟩ dX7_check_14 rfl (K_X7_in E s2 i1 (1 : Int32) (30 : Int32)) (fun p3 => ?_)
  refine Jo_if_ne 23 dX7_check_17 (by decide) rfl ?_ ?_
  · refine Jo_ldc dX7_check_20 w_673 ?_
    exact Jo_iret rfl dX7_check_22
  · refine Jo_aloadn 1 dX7_check_23 rfl rfl ?_
    refine Jo_getI fF_7_3 fI_7_3 dX7_check_24 w_967 (fun x4 => ?_)
    refine Jo_if_ne 33 dX7_check_27 (by decide) rfl ?_ ?_
    · refine Jo_ldc dX7_check_30 w_811 ?_
      exact Jo_iret rfl dX7_check_32
    · refine Jo_aloadn 1 dX7_check_33 rfl rfl ?_
      refine Jo_getR fF_7_0 fR_7_0 dX7_check_34 w_598 (fun a5 => ?_)
      refine Jo_aloadn 1 dX7_check_37 rfl rfl ?_
      refine Jo_getR fF_7_2 fR_7_2 dX7_check_38 w_620 (fun a6 => ?_)
      refine Jo_callSv (rest := []) [.ref a5, .ref a6] yF_X7_copyAll yS_X7_copyAll w_966 rfl rfl ⟨Nat.le_of_ble_eq_true rfl, Nat.le_of_ble_eq_true rfl, Nat.le_of_ble_eq_true rfl⟩ dX7_check_41 rfl (K_X7_copyAll E p3.2 a5 a6) (fun p7 => ?_)
      refine Jo_aloadn 1 dX7_check_44 rfl rfl ?_
      refine Jo_getR fF_7_1 fR_7_1 dX7_check_45 w_621 (fun a8 => ?_)
      refine Jo_aloadn 1 dX7_check_48 rfl rfl ?_
      refine Jo_getR fF_7_0 fR_7_0 dX7_check_49 w_598 (fun a9 => ?_)
      refine Jo_callSv (rest := []) [.ref a8, .ref a9] yF_X7_copyAll yS_X7_copyAll w_966 rfl rfl ⟨Nat.le_of_ble_eq_true rfl, Nat.le_of_ble_eq_true rfl, Nat.le_of_ble_eq_true rfl⟩ dX7_check_52 rfl (K_X7_copyAll E p7.2 a8 a9) (fun p10 => ?_)
      refine Jo_iconst (v := (2 : Int32)) dX7_check_55 (by decide) ?_
      refine Jo_sipush (v := (999 : Int32)) dX7_check_56 (by decide) ?_
      refine Jo_aloadn 1 dX7_check_59 rfl rfl ?_
      refine Jo_getR fF_7_0 fR_7_0 dX7_check_60 w_598 (fun a11 => ?_)
      refine Jo_iconst (v := (5 : Int32)) dX7_check_63 (by decide) ?_
      refine Jo_iaload dX7_check_64 (fun x12 => ?_)
      refine Jo_isub dX7_check_65 ?_
      refine Jo_iconst (v := (0 : Int32)) dX7_check_66 (by decide) ?_
      refine Jo_iloadn 2 dX7_check_67 rfl rfl ?_
      refine Jo_callSi (rest := [.int (2 : Int32)]) [.int ((999 : Int32) - x12), .int (0 : Int32), .int i1] yF_X7_within yS_X7_within w_725 rfl rfl ⟨Nat.le_of_ble_eq_true rfl, Nat.le_of_ble_eq_true rfl, Nat.le_of_ble_eq_true rfl⟩ dX7_check_68 rfl (K_X7_within E p10.2 ((999 : Int32) - x12) (0 : Int32) i1) (fun p13 => ?_)
      refine Jo_imul dX7_check_71 ?_
      refine Jo_nm (fun x14 => ?_)
      refine Jo_istoren (ls' := [(3, .int x14), (2, .int x1), (0, .ref a0), (1, .int i1)]) dX7_check_72 rfl (by decide) rfl ?_
      refine Jo_iconst (v := (0 : Int32)) dX7_check_73 (by decide) ?_
      refine Jo_istore (ls' := [(4, .int (0 : Int32)), (3, .int x14), (2, .int x1), (0, .ref a0), (1, .int i1)]) dX7_check_74 (by decide) rfl ?_
      refine Jo_iconst (v := (0 : Int32)) dX7_check_76 (by decide) ?_
      refine Jo_istore (ls' := [(5, .int (0 : Int32)), (4, .int (0 : Int32)), (3, .int x14), (2, .int x1), (0, .ref a0), (1, .int i1)]) dX7_check_77 (by decide) rfl ?_
      refine Jo_sub [4, 3, 2, 1, 0] rfl ?_
      exact e_X7_check_79 E jF p13.2 a0 x1 x14 (0 : Int32) (0 : Int32)
theorem K_X7_check (E : jE) (s : hS) (a0 : Nat) (i1 : Int32) : jK E yX7_check M_X7_check cvI [.ref a0, .int i1] s (f_X7_check s a0 i1) := jK_of ⟨by decide, rfl, rfl⟩ (Nat.le_of_ble_eq_true rfl) (b_X7_check_in E s a0 i1)
/-! HeronTalkModel.keep()I -/
abbrev M_X7_keep : jM := (RX7, cX7_keep, 1, (some .int), "keep", 1, 22)
theorem yF_X7_keep : yF yX7_keep M_X7_keep 0 := ⟨w_971, w_624, by decide +kernel⟩
theorem yV_X7_keep : Cond.instanceMethod yX7_keep ∈ tbG ∧ Cond.selects yX7_keep.cls yX7_keep yX7_keep ∈ tbG := ⟨w_972, w_973⟩
theorem dX7_keep_0 : dI cX7_keep 0 1 (.aload_n 0) 1 := ⟨by decide +kernel, rfl⟩
theorem dX7_keep_1 : dI cX7_keep 1 4 (.getfield 9) 3 := ⟨by decide +kernel, rfl⟩
theorem dX7_keep_4 : dI cX7_keep 4 5 (.aload_n 0) 1 := ⟨by decide +kernel, rfl⟩
theorem dX7_keep_5 : dI cX7_keep 5 8 (.getfield 13) 3 := ⟨by decide +kernel, rfl⟩
theorem dX7_keep_8 : decode cX7_keep 8 = .ok (.invokestatic 296, 3) := by decide +kernel
theorem dX7_keep_11 : dI cX7_keep 11 12 (.aload_n 0) 1 := ⟨by decide +kernel, rfl⟩
theorem dX7_keep_12 : dI cX7_keep 12 13 (.iconst 1) 1 := ⟨by decide +kernel, rfl⟩
theorem dX7_keep_13 : dI cX7_keep 13 16 (.putfield 292) 3 := ⟨by decide +kernel, rfl⟩
theorem dX7_keep_16 : dI cX7_keep 16 17 (.aload_n 0) 1 := ⟨by decide +kernel, rfl⟩
theorem dX7_keep_17 : dI cX7_keep 17 20 (.getfield 9) 3 := ⟨by decide +kernel, rfl⟩
theorem dX7_keep_20 : dI cX7_keep 20 21 (.iconst 3) 1 := ⟨by decide +kernel, rfl⟩
theorem dX7_keep_21 : dI cX7_keep 21 22 (.iaload) 1 := ⟨by decide +kernel, rfl⟩
theorem dX7_keep_22 : dI cX7_keep 22 23 (.ireturn) 1 := ⟨by decide +kernel, rfl⟩
def f_X7_keep (s : hS) (a0 : Nat) : Option (Int32 × hS) :=
  (gR s a0 7 0).bind fun a1 =>
  (gR s a0 7 1).bind fun a2 =>
  (f_X7_copyAll s a1 a2).bind fun p3 =>
  (pZ p3.2 a0 7 3 (1 : Int32)).bind fun s4 =>
  (gR s4 a0 7 0).bind fun a5 =>
  (aI s4 a5 10 (3 : Int32)).bind fun x6 =>
  some (x6, s4)
theorem b_X7_keep_in (E : jE)  (s : hS) (a0 : Nat)  : Jo E M_X7_keep cvI 0 [(0, .ref a0)] [] s (f_X7_keep s a0) := by
  unfold f_X7_keep
  refine Jo_aloadn 0 dX7_keep_0 rfl rfl ?_
  refine Jo_getR fF_7_0 fR_7_0 dX7_keep_1 w_598 (fun a1 => ?_)
  refine Jo_aloadn 0 dX7_keep_4 rfl rfl ?_
  refine Jo_getR fF_7_1 fR_7_1 dX7_keep_5 w_621 (fun a2 => ?_)
  refine Jo_callSv (rest := []) [.ref a1, .ref a2] yF_X7_copyAll yS_X7_copyAll w_966 rfl rfl ⟨Nat.le_of_ble_eq_true rfl, Nat.le_of_ble_eq_true rfl, Nat.le_of_ble_eq_true rfl⟩ dX7_keep_8 rfl (K_X7_copyAll E s a1 a2) (fun p3 => ?_)
  refine Jo_aloadn 0 dX7_keep_11 rfl rfl ?_
  refine Jo_iconst (v := (1 : Int32)) dX7_keep_12 (by decide) ?_
  refine Jo_putZ fF_7_3 fI_7_3 (Or.inl rfl) rfl dX7_keep_13 w_967 (fun s4 => ?_)
  refine Jo_aloadn 0 dX7_keep_16 rfl rfl ?_
  refine Jo_getR fF_7_0 fR_7_0 dX7_keep_17 w_598 (fun a5 => ?_)
  refine Jo_iconst (v := (3 : Int32)) dX7_keep_20 (by decide) ?_
  refine Jo_iaload dX7_keep_21 (fun x6 => ?_)
  exact Jo_iret rfl dX7_keep_22
theorem K_X7_keep (E : jE) (s : hS) (a0 : Nat) : jK E yX7_keep M_X7_keep cvI [.ref a0] s (f_X7_keep s a0) := jK_of ⟨by decide, rfl, rfl⟩ (Nat.le_of_ble_eq_true rfl) (b_X7_keep_in E s a0)
