/-! HeronTalk$Town.<init>()V -/
abbrev M_X5_init : jM := (RX5, cX5_init, 1, (none : Option Jvm.ClassFile.FieldType), "<init>", 1, 20)
theorem yF_X5_init : yF yX5_init M_X5_init 0 := ⟨w_197, w_198, by decide +kernel⟩
theorem yV_X5_init : Cond.instanceMethod yX5_init ∈ tbG ∧ yX5_init.name = "<init>" := ⟨w_199, rfl⟩
theorem dX5_init_0 : dI cX5_init 0 1 (.aload_n 0) 1 := ⟨by decide +kernel, rfl⟩
theorem dX5_init_1 : dI cX5_init 1 4 (.invokespecial 3) 3 := ⟨by decide +kernel, rfl⟩
theorem dX5_init_4 : dI cX5_init 4 5 (.aload_n 0) 1 := ⟨by decide +kernel, rfl⟩
theorem dX5_init_5 : dI cX5_init 5 6 (.iconst 0) 1 := ⟨by decide +kernel, rfl⟩
theorem dX5_init_6 : dI cX5_init 6 9 (.putfield 9) 3 := ⟨by decide +kernel, rfl⟩
theorem dX5_init_9 : dI cX5_init 9 10 (.aload_n 0) 1 := ⟨by decide +kernel, rfl⟩
theorem dX5_init_10 : dI cX5_init 10 11 (.iconst 0) 1 := ⟨by decide +kernel, rfl⟩
theorem dX5_init_11 : dI cX5_init 11 14 (.putfield 15) 3 := ⟨by decide +kernel, rfl⟩
theorem dX5_init_14 : dI cX5_init 14 15 (.aload_n 0) 1 := ⟨by decide +kernel, rfl⟩
theorem dX5_init_15 : dI cX5_init 15 16 (.iconst 0) 1 := ⟨by decide +kernel, rfl⟩
theorem dX5_init_16 : dI cX5_init 16 19 (.putfield 18) 3 := ⟨by decide +kernel, rfl⟩
theorem dX5_init_19 : dI cX5_init 19 20 (.aload_n 0) 1 := ⟨by decide +kernel, rfl⟩
theorem dX5_init_20 : dI cX5_init 20 21 (.iconst 0) 1 := ⟨by decide +kernel, rfl⟩
theorem dX5_init_21 : dI cX5_init 21 24 (.putfield 21) 3 := ⟨by decide +kernel, rfl⟩
theorem dX5_init_24 : dI cX5_init 24 25 (.aload_n 0) 1 := ⟨by decide +kernel, rfl⟩
theorem dX5_init_25 : dI cX5_init 25 26 (.iconst 0) 1 := ⟨by decide +kernel, rfl⟩
theorem dX5_init_26 : dI cX5_init 26 29 (.putfield 24) 3 := ⟨by decide +kernel, rfl⟩
theorem dX5_init_29 : dI cX5_init 29 30 (.aload_n 0) 1 := ⟨by decide +kernel, rfl⟩
theorem dX5_init_30 : dI cX5_init 30 31 (.iconst 0) 1 := ⟨by decide +kernel, rfl⟩
theorem dX5_init_31 : dI cX5_init 31 34 (.putfield 27) 3 := ⟨by decide +kernel, rfl⟩
theorem dX5_init_34 : dI cX5_init 34 35 (.aload_n 0) 1 := ⟨by decide +kernel, rfl⟩
theorem dX5_init_35 : dI cX5_init 35 36 (.iconst 0) 1 := ⟨by decide +kernel, rfl⟩
theorem dX5_init_36 : dI cX5_init 36 39 (.putfield 30) 3 := ⟨by decide +kernel, rfl⟩
theorem dX5_init_39 : dI cX5_init 39 40 (.aload_n 0) 1 := ⟨by decide +kernel, rfl⟩
theorem dX5_init_40 : dI cX5_init 40 41 (.iconst 1) 1 := ⟨by decide +kernel, rfl⟩
theorem dX5_init_41 : dI cX5_init 41 44 (.putfield 33) 3 := ⟨by decide +kernel, rfl⟩
theorem dX5_init_44 : dI cX5_init 44 45 (.aload_n 0) 1 := ⟨by decide +kernel, rfl⟩
theorem dX5_init_45 : dI cX5_init 45 47 (.bipush 16) 2 := ⟨by decide +kernel, rfl⟩
theorem dX5_init_47 : dI cX5_init 47 49 (.newarray .int) 2 := ⟨by decide +kernel, rfl⟩
theorem dX5_init_49 : dI cX5_init 49 52 (.putfield 36) 3 := ⟨by decide +kernel, rfl⟩
theorem dX5_init_52 : dI cX5_init 52 53 (.aload_n 0) 1 := ⟨by decide +kernel, rfl⟩
theorem dX5_init_53 : dI cX5_init 53 55 (.bipush 16) 2 := ⟨by decide +kernel, rfl⟩
theorem dX5_init_55 : dI cX5_init 55 57 (.newarray .int) 2 := ⟨by decide +kernel, rfl⟩
theorem dX5_init_57 : dI cX5_init 57 60 (.putfield 40) 3 := ⟨by decide +kernel, rfl⟩
theorem dX5_init_60 : dI cX5_init 60 61 (.aload_n 0) 1 := ⟨by decide +kernel, rfl⟩
theorem dX5_init_61 : dI cX5_init 61 63 (.bipush 8) 2 := ⟨by decide +kernel, rfl⟩
theorem dX5_init_63 : dI cX5_init 63 65 (.newarray .int) 2 := ⟨by decide +kernel, rfl⟩
theorem dX5_init_65 : dI cX5_init 65 68 (.putfield 43) 3 := ⟨by decide +kernel, rfl⟩
theorem dX5_init_68 : dI cX5_init 68 69 (.aload_n 0) 1 := ⟨by decide +kernel, rfl⟩
theorem dX5_init_69 : dI cX5_init 69 71 (.bipush 8) 2 := ⟨by decide +kernel, rfl⟩
theorem dX5_init_71 : dI cX5_init 71 73 (.newarray .int) 2 := ⟨by decide +kernel, rfl⟩
theorem dX5_init_73 : dI cX5_init 73 76 (.putfield 46) 3 := ⟨by decide +kernel, rfl⟩
theorem dX5_init_76 : dI cX5_init 76 77 (.aload_n 0) 1 := ⟨by decide +kernel, rfl⟩
theorem dX5_init_77 : dI cX5_init 77 79 (.bipush 8) 2 := ⟨by decide +kernel, rfl⟩
theorem dX5_init_79 : dI cX5_init 79 81 (.newarray .int) 2 := ⟨by decide +kernel, rfl⟩
theorem dX5_init_81 : dI cX5_init 81 84 (.putfield 49) 3 := ⟨by decide +kernel, rfl⟩
theorem dX5_init_84 : dI cX5_init 84 85 (.aload_n 0) 1 := ⟨by decide +kernel, rfl⟩
theorem dX5_init_85 : dI cX5_init 85 87 (.bipush 8) 2 := ⟨by decide +kernel, rfl⟩
theorem dX5_init_87 : dI cX5_init 87 89 (.newarray .int) 2 := ⟨by decide +kernel, rfl⟩
theorem dX5_init_89 : dI cX5_init 89 92 (.putfield 52) 3 := ⟨by decide +kernel, rfl⟩
theorem dX5_init_92 : dI cX5_init 92 93 (.aload_n 0) 1 := ⟨by decide +kernel, rfl⟩
theorem dX5_init_93 : dI cX5_init 93 95 (.bipush 8) 2 := ⟨by decide +kernel, rfl⟩
theorem dX5_init_95 : dI cX5_init 95 97 (.newarray .int) 2 := ⟨by decide +kernel, rfl⟩
theorem dX5_init_97 : dI cX5_init 97 100 (.putfield 55) 3 := ⟨by decide +kernel, rfl⟩
theorem dX5_init_100 : dI cX5_init 100 101 (.aload_n 0) 1 := ⟨by decide +kernel, rfl⟩
theorem dX5_init_101 : dI cX5_init 101 103 (.bipush 8) 2 := ⟨by decide +kernel, rfl⟩
theorem dX5_init_103 : dI cX5_init 103 105 (.newarray .int) 2 := ⟨by decide +kernel, rfl⟩
theorem dX5_init_105 : dI cX5_init 105 108 (.putfield 58) 3 := ⟨by decide +kernel, rfl⟩
theorem dX5_init_108 : dI cX5_init 108 109 (.aload_n 0) 1 := ⟨by decide +kernel, rfl⟩
theorem dX5_init_109 : dI cX5_init 109 111 (.bipush 8) 2 := ⟨by decide +kernel, rfl⟩
theorem dX5_init_111 : dI cX5_init 111 113 (.newarray .int) 2 := ⟨by decide +kernel, rfl⟩
theorem dX5_init_113 : dI cX5_init 113 116 (.putfield 61) 3 := ⟨by decide +kernel, rfl⟩
theorem dX5_init_116 : dI cX5_init 116 117 (.aload_n 0) 1 := ⟨by decide +kernel, rfl⟩
theorem dX5_init_117 : dI cX5_init 117 119 (.bipush 14) 2 := ⟨by decide +kernel, rfl⟩
theorem dX5_init_119 : dI cX5_init 119 122 (.anewarray 64) 3 := ⟨by decide +kernel, rfl⟩
theorem dX5_init_122 : dI cX5_init 122 125 (.putfield 66) 3 := ⟨by decide +kernel, rfl⟩
theorem dX5_init_125 : dI cX5_init 125 126 (.return_) 1 := ⟨by decide +kernel, rfl⟩
def f_X5_init (s : hS) (a0 : Nat) : Option (Unit × hS) :=
  (pI s a0 5 0 (0 : Int32)).bind fun s1 =>
  (pI s1 a0 5 1 (0 : Int32)).bind fun s2 =>
  (pI s2 a0 5 2 (0 : Int32)).bind fun s3 =>
  (pI s3 a0 5 3 (0 : Int32)).bind fun s4 =>
  (pI s4 a0 5 4 (0 : Int32)).bind fun s5 =>
  (pI s5 a0 5 5 (0 : Int32)).bind fun s6 =>
  (pI s6 a0 5 6 (0 : Int32)).bind fun s7 =>
  (pI s7 a0 5 7 (1 : Int32)).bind fun s8 =>
  (nA s8 10 (16 : Int32)).bind fun s9 =>
  (pR s9 a0 5 8 s8.1).bind fun s10 =>
  (nA s10 10 (16 : Int32)).bind fun s11 =>
  (pR s11 a0 5 9 s10.1).bind fun s12 =>
  (nA s12 10 (8 : Int32)).bind fun s13 =>
  (pR s13 a0 5 10 s12.1).bind fun s14 =>
  (nA s14 10 (8 : Int32)).bind fun s15 =>
  (pR s15 a0 5 11 s14.1).bind fun s16 =>
  (nA s16 10 (8 : Int32)).bind fun s17 =>
  (pR s17 a0 5 12 s16.1).bind fun s18 =>
  (nA s18 10 (8 : Int32)).bind fun s19 =>
  (pR s19 a0 5 13 s18.1).bind fun s20 =>
  (nA s20 10 (8 : Int32)).bind fun s21 =>
  (pR s21 a0 5 14 s20.1).bind fun s22 =>
  (nA s22 10 (8 : Int32)).bind fun s23 =>
  (pR s23 a0 5 15 s22.1).bind fun s24 =>
  (nA s24 10 (8 : Int32)).bind fun s25 =>
  (pR s25 a0 5 16 s24.1).bind fun s26 =>
  (nA s26 14 (14 : Int32)).bind fun s27 =>
  (pR s27 a0 5 17 s26.1).bind fun s28 =>
  some ((), s28)
theorem b_X5_init_in (E : jE)  (s : hS) (a0 : Nat)  : Jo E M_X5_init cvV 0 [(0, .ref a0)] [] s (f_X5_init s a0) := by
  unfold f_X5_init
  refine Jo_aloadn 0 dX5_init_0 rfl rfl ?_
  refine Jo_objInit dX5_init_1 ⟨w_196, w_oi1, w_oi2⟩ ⟨by decide, Nat.le_of_ble_eq_true rfl⟩ ?_
  refine Jo_aloadn 0 dX5_init_4 rfl rfl ?_
  refine Jo_iconst (v := (0 : Int32)) dX5_init_5 (by decide) ?_
  refine Jo_putI fF_5_0 fI_5_0 (Or.inl rfl) rfl dX5_init_6 w_195 (fun s1 => ?_)
  refine Jo_aloadn 0 dX5_init_9 rfl rfl ?_
  refine Jo_iconst (v := (0 : Int32)) dX5_init_10 (by decide) ?_
  refine Jo_putI fF_5_1 fI_5_1 (Or.inl rfl) rfl dX5_init_11 w_194 (fun s2 => ?_)
  refine Jo_aloadn 0 dX5_init_14 rfl rfl ?_
  refine Jo_iconst (v := (0 : Int32)) dX5_init_15 (by decide) ?_
  refine Jo_putI fF_5_2 fI_5_2 (Or.inl rfl) rfl dX5_init_16 w_193 (fun s3 => ?_)
  refine Jo_aloadn 0 dX5_init_19 rfl rfl ?_
  refine Jo_iconst (v := (0 : Int32)) dX5_init_20 (by decide) ?_
  refine Jo_putI fF_5_3 fI_5_3 (Or.inl rfl) rfl dX5_init_21 w_192 (fun s4 => ?_)
  refine Jo_aloadn 0 dX5_init_24 rfl rfl ?_
  refine Jo_iconst (v := (0 : Int32)) dX5_init_25 (by decide) ?_
  refine Jo_putI fF_5_4 fI_5_4 (Or.inl rfl) rfl dX5_init_26 w_191 (fun s5 => ?_)
  refine Jo_aloadn 0 dX5_init_29 rfl rfl ?_
  refine Jo_iconst (v := (0 : Int32)) dX5_init_30 (by decide) ?_
  refine Jo_putI fF_5_5 fI_5_5 (Or.inl rfl) rfl dX5_init_31 w_190 (fun s6 => ?_)
  refine Jo_aloadn 0 dX5_init_34 rfl rfl ?_
  refine Jo_iconst (v := (0 : Int32)) dX5_init_35 (by decide) ?_
  refine Jo_putI fF_5_6 fI_5_6 (Or.inl rfl) rfl dX5_init_36 w_189 (fun s7 => ?_)
  refine Jo_aloadn 0 dX5_init_39 rfl rfl ?_
  refine Jo_iconst (v := (1 : Int32)) dX5_init_40 (by decide) ?_
  refine Jo_putI fF_5_7 fI_5_7 (Or.inl rfl) rfl dX5_init_41 w_188 (fun s8 => ?_)
  refine Jo_aloadn 0 dX5_init_44 rfl rfl ?_
  refine Jo_bipush (v := (16 : Int32)) dX5_init_45 (by decide) ?_
  refine Jo_newarr htn_10 nty_10 w_24 dX5_init_47 (fun s9 => ?_)
  refine Jo_putR fF_5_8 fR_5_8 (Or.inr ⟨rfl, rfl, rfl⟩) ⟨rfl, rfl⟩ dX5_init_49 w_187 (fun s10 => ?_)
  refine Jo_aloadn 0 dX5_init_52 rfl rfl ?_
  refine Jo_bipush (v := (16 : Int32)) dX5_init_53 (by decide) ?_
  refine Jo_newarr htn_10 nty_10 w_24 dX5_init_55 (fun s11 => ?_)
  refine Jo_putR fF_5_9 fR_5_9 (Or.inr ⟨rfl, rfl, rfl⟩) ⟨rfl, rfl⟩ dX5_init_57 w_186 (fun s12 => ?_)
  refine Jo_aloadn 0 dX5_init_60 rfl rfl ?_
  refine Jo_bipush (v := (8 : Int32)) dX5_init_61 (by decide) ?_
  refine Jo_newarr htn_10 nty_10 w_24 dX5_init_63 (fun s13 => ?_)
  refine Jo_putR fF_5_10 fR_5_10 (Or.inr ⟨rfl, rfl, rfl⟩) ⟨rfl, rfl⟩ dX5_init_65 w_185 (fun s14 => ?_)
  refine Jo_aloadn 0 dX5_init_68 rfl rfl ?_
  refine Jo_bipush (v := (8 : Int32)) dX5_init_69 (by decide) ?_
  refine Jo_newarr htn_10 nty_10 w_24 dX5_init_71 (fun s15 => ?_)
  refine Jo_putR fF_5_11 fR_5_11 (Or.inr ⟨rfl, rfl, rfl⟩) ⟨rfl, rfl⟩ dX5_init_73 w_184 (fun s16 => ?_)
  refine Jo_aloadn 0 dX5_init_76 rfl rfl ?_
  refine Jo_bipush (v := (8 : Int32)) dX5_init_77 (by decide) ?_
  refine Jo_newarr htn_10 nty_10 w_24 dX5_init_79 (fun s17 => ?_)
  refine Jo_putR fF_5_12 fR_5_12 (Or.inr ⟨rfl, rfl, rfl⟩) ⟨rfl, rfl⟩ dX5_init_81 w_183 (fun s18 => ?_)
  refine Jo_aloadn 0 dX5_init_84 rfl rfl ?_
  refine Jo_bipush (v := (8 : Int32)) dX5_init_85 (by decide) ?_
  refine Jo_newarr htn_10 nty_10 w_24 dX5_init_87 (fun s19 => ?_)
  refine Jo_putR fF_5_13 fR_5_13 (Or.inr ⟨rfl, rfl, rfl⟩) ⟨rfl, rfl⟩ dX5_init_89 w_182 (fun s20 => ?_)
  refine Jo_aloadn 0 dX5_init_92 rfl rfl ?_
  refine Jo_bipush (v := (8 : Int32)) dX5_init_93 (by decide) ?_
  refine Jo_newarr htn_10 nty_10 w_24 dX5_init_95 (fun s21 => ?_)
  refine Jo_putR fF_5_14 fR_5_14 (Or.inr ⟨rfl, rfl, rfl⟩) ⟨rfl, rfl⟩ dX5_init_97 w_181 (fun s22 => ?_)
  refine Jo_aloadn 0 dX5_init_100 rfl rfl ?_
  refine Jo_bipush (v := (8 : Int32)) dX5_init_101 (by decide) ?_
  refine Jo_newarr htn_10 nty_10 w_24 dX5_init_103 (fun s23 => ?_)
  refine Jo_putR fF_5_15 fR_5_15 (Or.inr ⟨rfl, rfl, rfl⟩) ⟨rfl, rfl⟩ dX5_init_105 w_180 (fun s24 => ?_)
  refine Jo_aloadn 0 dX5_init_108 rfl rfl ?_
  refine Jo_bipush (v := (8 : Int32)) dX5_init_109 (by decide) ?_
  refine Jo_newarr htn_10 nty_10 w_24 dX5_init_111 (fun s25 => ?_)
  refine Jo_putR fF_5_16 fR_5_16 (Or.inr ⟨rfl, rfl, rfl⟩) ⟨rfl, rfl⟩ dX5_init_113 w_179 (fun s26 => ?_)
  refine Jo_aloadn 0 dX5_init_116 rfl rfl ?_
  refine Jo_bipush (v := (14 : Int32)) dX5_init_117 (by decide) ?_
  refine Jo_anewarr hta_14 w_178 hao_14 dX5_init_119 (fun s27 => ?_)
  refine Jo_putR fF_5_17 fR_5_17 (Or.inr ⟨rfl, rfl, rfl⟩) ⟨rfl, rfl⟩ dX5_init_122 w_177 (fun s28 => ?_)
  exact Jo_vret rfl dX5_init_125
theorem K_X5_init (E : jE) (s : hS) (a0 : Nat) : jK E yX5_init M_X5_init cvV [.ref a0] s (f_X5_init s a0) := jK_of ⟨by decide, rfl, rfl⟩ (Nat.le_of_ble_eq_true rfl) (b_X5_init_in E s a0)
/-! HeronTalk$Town.becomes(LHeronTalk$Town;)V -/
abbrev M_X5_becomes : jM := (RX5, cX5_becomes, 3, (none : Option Jvm.ClassFile.FieldType), "becomes", 0, 0)
theorem yF_X5_becomes : yF yX5_becomes M_X5_becomes 1 := ⟨w_200, w_198, by decide +kernel⟩
theorem yV_X5_becomes : Cond.instanceMethod yX5_becomes ∈ tbG ∧ Cond.selects yX5_becomes.cls yX5_becomes yX5_becomes ∈ tbG := ⟨w_201, w_202⟩
theorem dX5_becomes_0 : dI cX5_becomes 0 1 (.aload_n 0) 1 := ⟨by decide +kernel, rfl⟩
theorem dX5_becomes_1 : dI cX5_becomes 1 2 (.aload_n 1) 1 := ⟨by decide +kernel, rfl⟩
theorem dX5_becomes_2 : dI cX5_becomes 2 5 (.getfield 9) 3 := ⟨by decide +kernel, rfl⟩
theorem dX5_becomes_5 : dI cX5_becomes 5 8 (.putfield 9) 3 := ⟨by decide +kernel, rfl⟩
theorem dX5_becomes_8 : dI cX5_becomes 8 9 (.aload_n 0) 1 := ⟨by decide +kernel, rfl⟩
theorem dX5_becomes_9 : dI cX5_becomes 9 10 (.aload_n 1) 1 := ⟨by decide +kernel, rfl⟩
theorem dX5_becomes_10 : dI cX5_becomes 10 13 (.getfield 15) 3 := ⟨by decide +kernel, rfl⟩
theorem dX5_becomes_13 : dI cX5_becomes 13 16 (.putfield 15) 3 := ⟨by decide +kernel, rfl⟩
theorem dX5_becomes_16 : dI cX5_becomes 16 17 (.aload_n 0) 1 := ⟨by decide +kernel, rfl⟩
theorem dX5_becomes_17 : dI cX5_becomes 17 18 (.aload_n 1) 1 := ⟨by decide +kernel, rfl⟩
theorem dX5_becomes_18 : dI cX5_becomes 18 21 (.getfield 18) 3 := ⟨by decide +kernel, rfl⟩
theorem dX5_becomes_21 : dI cX5_becomes 21 24 (.putfield 18) 3 := ⟨by decide +kernel, rfl⟩
theorem dX5_becomes_24 : dI cX5_becomes 24 25 (.aload_n 0) 1 := ⟨by decide +kernel, rfl⟩
theorem dX5_becomes_25 : dI cX5_becomes 25 26 (.aload_n 1) 1 := ⟨by decide +kernel, rfl⟩
theorem dX5_becomes_26 : dI cX5_becomes 26 29 (.getfield 21) 3 := ⟨by decide +kernel, rfl⟩
theorem dX5_becomes_29 : dI cX5_becomes 29 32 (.putfield 21) 3 := ⟨by decide +kernel, rfl⟩
theorem dX5_becomes_32 : dI cX5_becomes 32 33 (.aload_n 0) 1 := ⟨by decide +kernel, rfl⟩
theorem dX5_becomes_33 : dI cX5_becomes 33 34 (.aload_n 1) 1 := ⟨by decide +kernel, rfl⟩
theorem dX5_becomes_34 : dI cX5_becomes 34 37 (.getfield 24) 3 := ⟨by decide +kernel, rfl⟩
theorem dX5_becomes_37 : dI cX5_becomes 37 40 (.putfield 24) 3 := ⟨by decide +kernel, rfl⟩
theorem dX5_becomes_40 : dI cX5_becomes 40 41 (.aload_n 0) 1 := ⟨by decide +kernel, rfl⟩
theorem dX5_becomes_41 : dI cX5_becomes 41 42 (.aload_n 1) 1 := ⟨by decide +kernel, rfl⟩
theorem dX5_becomes_42 : dI cX5_becomes 42 45 (.getfield 27) 3 := ⟨by decide +kernel, rfl⟩
theorem dX5_becomes_45 : dI cX5_becomes 45 48 (.putfield 27) 3 := ⟨by decide +kernel, rfl⟩
theorem dX5_becomes_48 : dI cX5_becomes 48 49 (.aload_n 0) 1 := ⟨by decide +kernel, rfl⟩
theorem dX5_becomes_49 : dI cX5_becomes 49 50 (.aload_n 1) 1 := ⟨by decide +kernel, rfl⟩
theorem dX5_becomes_50 : dI cX5_becomes 50 53 (.getfield 30) 3 := ⟨by decide +kernel, rfl⟩
theorem dX5_becomes_53 : dI cX5_becomes 53 56 (.putfield 30) 3 := ⟨by decide +kernel, rfl⟩
theorem dX5_becomes_56 : dI cX5_becomes 56 57 (.aload_n 0) 1 := ⟨by decide +kernel, rfl⟩
theorem dX5_becomes_57 : dI cX5_becomes 57 58 (.aload_n 1) 1 := ⟨by decide +kernel, rfl⟩
theorem dX5_becomes_58 : dI cX5_becomes 58 61 (.getfield 33) 3 := ⟨by decide +kernel, rfl⟩
theorem dX5_becomes_61 : dI cX5_becomes 61 64 (.putfield 33) 3 := ⟨by decide +kernel, rfl⟩
theorem dX5_becomes_64 : dI cX5_becomes 64 65 (.iconst 0) 1 := ⟨by decide +kernel, rfl⟩
theorem dX5_becomes_65 : dI cX5_becomes 65 66 (.istore_n 2) 1 := ⟨by decide +kernel, rfl⟩
theorem dX5_becomes_66 : dI cX5_becomes 66 67 (.iload_n 2) 1 := ⟨by decide +kernel, rfl⟩
theorem dX5_becomes_67 : dI cX5_becomes 67 69 (.bipush 16) 2 := ⟨by decide +kernel, rfl⟩
theorem dX5_becomes_69 : decode cX5_becomes 69 = .ok (.if_icmp .ge 33, 3) := by decide +kernel
theorem dX5_becomes_72 : dI cX5_becomes 72 73 (.aload_n 0) 1 := ⟨by decide +kernel, rfl⟩
theorem dX5_becomes_73 : dI cX5_becomes 73 76 (.getfield 36) 3 := ⟨by decide +kernel, rfl⟩
theorem dX5_becomes_76 : dI cX5_becomes 76 77 (.iload_n 2) 1 := ⟨by decide +kernel, rfl⟩
theorem dX5_becomes_77 : dI cX5_becomes 77 78 (.aload_n 1) 1 := ⟨by decide +kernel, rfl⟩
theorem dX5_becomes_78 : dI cX5_becomes 78 81 (.getfield 36) 3 := ⟨by decide +kernel, rfl⟩
theorem dX5_becomes_81 : dI cX5_becomes 81 82 (.iload_n 2) 1 := ⟨by decide +kernel, rfl⟩
theorem dX5_becomes_82 : dI cX5_becomes 82 83 (.iaload) 1 := ⟨by decide +kernel, rfl⟩
theorem dX5_becomes_83 : dI cX5_becomes 83 84 (.iastore) 1 := ⟨by decide +kernel, rfl⟩
theorem dX5_becomes_84 : dI cX5_becomes 84 85 (.aload_n 0) 1 := ⟨by decide +kernel, rfl⟩
theorem dX5_becomes_85 : dI cX5_becomes 85 88 (.getfield 40) 3 := ⟨by decide +kernel, rfl⟩
theorem dX5_becomes_88 : dI cX5_becomes 88 89 (.iload_n 2) 1 := ⟨by decide +kernel, rfl⟩
theorem dX5_becomes_89 : dI cX5_becomes 89 90 (.aload_n 1) 1 := ⟨by decide +kernel, rfl⟩
theorem dX5_becomes_90 : dI cX5_becomes 90 93 (.getfield 40) 3 := ⟨by decide +kernel, rfl⟩
theorem dX5_becomes_93 : dI cX5_becomes 93 94 (.iload_n 2) 1 := ⟨by decide +kernel, rfl⟩
theorem dX5_becomes_94 : dI cX5_becomes 94 95 (.iaload) 1 := ⟨by decide +kernel, rfl⟩
theorem dX5_becomes_95 : dI cX5_becomes 95 96 (.iastore) 1 := ⟨by decide +kernel, rfl⟩
theorem dX5_becomes_96 : dI cX5_becomes 96 99 (.iinc 2 1) 3 := ⟨by decide +kernel, rfl⟩
theorem dX5_becomes_99 : decode cX5_becomes 99 = .ok (.goto (-33), 3) := by decide +kernel
theorem dX5_becomes_102 : dI cX5_becomes 102 103 (.iconst 0) 1 := ⟨by decide +kernel, rfl⟩
theorem dX5_becomes_103 : dI cX5_becomes 103 104 (.istore_n 2) 1 := ⟨by decide +kernel, rfl⟩
theorem dX5_becomes_104 : dI cX5_becomes 104 105 (.iload_n 2) 1 := ⟨by decide +kernel, rfl⟩
theorem dX5_becomes_105 : dI cX5_becomes 105 107 (.bipush 8) 2 := ⟨by decide +kernel, rfl⟩
theorem dX5_becomes_107 : decode cX5_becomes 107 = .ok (.if_icmp .ge 33, 3) := by decide +kernel
theorem dX5_becomes_110 : dI cX5_becomes 110 111 (.aload_n 0) 1 := ⟨by decide +kernel, rfl⟩
theorem dX5_becomes_111 : dI cX5_becomes 111 114 (.getfield 43) 3 := ⟨by decide +kernel, rfl⟩
theorem dX5_becomes_114 : dI cX5_becomes 114 115 (.iload_n 2) 1 := ⟨by decide +kernel, rfl⟩
theorem dX5_becomes_115 : dI cX5_becomes 115 116 (.aload_n 1) 1 := ⟨by decide +kernel, rfl⟩
theorem dX5_becomes_116 : dI cX5_becomes 116 119 (.getfield 43) 3 := ⟨by decide +kernel, rfl⟩
theorem dX5_becomes_119 : dI cX5_becomes 119 120 (.iload_n 2) 1 := ⟨by decide +kernel, rfl⟩
theorem dX5_becomes_120 : dI cX5_becomes 120 121 (.iaload) 1 := ⟨by decide +kernel, rfl⟩
theorem dX5_becomes_121 : dI cX5_becomes 121 122 (.iastore) 1 := ⟨by decide +kernel, rfl⟩
theorem dX5_becomes_122 : dI cX5_becomes 122 123 (.aload_n 0) 1 := ⟨by decide +kernel, rfl⟩
theorem dX5_becomes_123 : dI cX5_becomes 123 126 (.getfield 46) 3 := ⟨by decide +kernel, rfl⟩
theorem dX5_becomes_126 : dI cX5_becomes 126 127 (.iload_n 2) 1 := ⟨by decide +kernel, rfl⟩
theorem dX5_becomes_127 : dI cX5_becomes 127 128 (.aload_n 1) 1 := ⟨by decide +kernel, rfl⟩
theorem dX5_becomes_128 : dI cX5_becomes 128 131 (.getfield 46) 3 := ⟨by decide +kernel, rfl⟩
theorem dX5_becomes_131 : dI cX5_becomes 131 132 (.iload_n 2) 1 := ⟨by decide +kernel, rfl⟩
theorem dX5_becomes_132 : dI cX5_becomes 132 133 (.iaload) 1 := ⟨by decide +kernel, rfl⟩
theorem dX5_becomes_133 : dI cX5_becomes 133 134 (.iastore) 1 := ⟨by decide +kernel, rfl⟩
theorem dX5_becomes_134 : dI cX5_becomes 134 137 (.iinc 2 1) 3 := ⟨by decide +kernel, rfl⟩
theorem dX5_becomes_137 : decode cX5_becomes 137 = .ok (.goto (-33), 3) := by decide +kernel
theorem dX5_becomes_140 : dI cX5_becomes 140 141 (.iconst 0) 1 := ⟨by decide +kernel, rfl⟩
theorem dX5_becomes_141 : dI cX5_becomes 141 142 (.istore_n 2) 1 := ⟨by decide +kernel, rfl⟩
theorem dX5_becomes_142 : dI cX5_becomes 142 143 (.iload_n 2) 1 := ⟨by decide +kernel, rfl⟩
theorem dX5_becomes_143 : dI cX5_becomes 143 145 (.bipush 8) 2 := ⟨by decide +kernel, rfl⟩
theorem dX5_becomes_145 : decode cX5_becomes 145 = .ok (.if_icmp .ge 33, 3) := by decide +kernel
theorem dX5_becomes_148 : dI cX5_becomes 148 149 (.aload_n 0) 1 := ⟨by decide +kernel, rfl⟩
theorem dX5_becomes_149 : dI cX5_becomes 149 152 (.getfield 49) 3 := ⟨by decide +kernel, rfl⟩
theorem dX5_becomes_152 : dI cX5_becomes 152 153 (.iload_n 2) 1 := ⟨by decide +kernel, rfl⟩
theorem dX5_becomes_153 : dI cX5_becomes 153 154 (.aload_n 1) 1 := ⟨by decide +kernel, rfl⟩
theorem dX5_becomes_154 : dI cX5_becomes 154 157 (.getfield 49) 3 := ⟨by decide +kernel, rfl⟩
theorem dX5_becomes_157 : dI cX5_becomes 157 158 (.iload_n 2) 1 := ⟨by decide +kernel, rfl⟩
theorem dX5_becomes_158 : dI cX5_becomes 158 159 (.iaload) 1 := ⟨by decide +kernel, rfl⟩
theorem dX5_becomes_159 : dI cX5_becomes 159 160 (.iastore) 1 := ⟨by decide +kernel, rfl⟩
theorem dX5_becomes_160 : dI cX5_becomes 160 161 (.aload_n 0) 1 := ⟨by decide +kernel, rfl⟩
theorem dX5_becomes_161 : dI cX5_becomes 161 164 (.getfield 52) 3 := ⟨by decide +kernel, rfl⟩
theorem dX5_becomes_164 : dI cX5_becomes 164 165 (.iload_n 2) 1 := ⟨by decide +kernel, rfl⟩
theorem dX5_becomes_165 : dI cX5_becomes 165 166 (.aload_n 1) 1 := ⟨by decide +kernel, rfl⟩
theorem dX5_becomes_166 : dI cX5_becomes 166 169 (.getfield 52) 3 := ⟨by decide +kernel, rfl⟩
theorem dX5_becomes_169 : dI cX5_becomes 169 170 (.iload_n 2) 1 := ⟨by decide +kernel, rfl⟩
theorem dX5_becomes_170 : dI cX5_becomes 170 171 (.iaload) 1 := ⟨by decide +kernel, rfl⟩
theorem dX5_becomes_171 : dI cX5_becomes 171 172 (.iastore) 1 := ⟨by decide +kernel, rfl⟩
theorem dX5_becomes_172 : dI cX5_becomes 172 175 (.iinc 2 1) 3 := ⟨by decide +kernel, rfl⟩
theorem dX5_becomes_175 : decode cX5_becomes 175 = .ok (.goto (-33), 3) := by decide +kernel
theorem dX5_becomes_178 : dI cX5_becomes 178 179 (.iconst 0) 1 := ⟨by decide +kernel, rfl⟩
theorem dX5_becomes_179 : dI cX5_becomes 179 180 (.istore_n 2) 1 := ⟨by decide +kernel, rfl⟩
theorem dX5_becomes_180 : dI cX5_becomes 180 181 (.iload_n 2) 1 := ⟨by decide +kernel, rfl⟩
theorem dX5_becomes_181 : dI cX5_becomes 181 183 (.bipush 8) 2 := ⟨by decide +kernel, rfl⟩
theorem dX5_becomes_183 : decode cX5_becomes 183 = .ok (.if_icmp .ge 45, 3) := by decide +kernel
theorem dX5_becomes_186 : dI cX5_becomes 186 187 (.aload_n 0) 1 := ⟨by decide +kernel, rfl⟩
theorem dX5_becomes_187 : dI cX5_becomes 187 190 (.getfield 55) 3 := ⟨by decide +kernel, rfl⟩
theorem dX5_becomes_190 : dI cX5_becomes 190 191 (.iload_n 2) 1 := ⟨by decide +kernel, rfl⟩
theorem dX5_becomes_191 : dI cX5_becomes 191 192 (.aload_n 1) 1 := ⟨by decide +kernel, rfl⟩
theorem dX5_becomes_192 : dI cX5_becomes 192 195 (.getfield 55) 3 := ⟨by decide +kernel, rfl⟩
theorem dX5_becomes_195 : dI cX5_becomes 195 196 (.iload_n 2) 1 := ⟨by decide +kernel, rfl⟩
theorem dX5_becomes_196 : dI cX5_becomes 196 197 (.iaload) 1 := ⟨by decide +kernel, rfl⟩
theorem dX5_becomes_197 : dI cX5_becomes 197 198 (.iastore) 1 := ⟨by decide +kernel, rfl⟩
theorem dX5_becomes_198 : dI cX5_becomes 198 199 (.aload_n 0) 1 := ⟨by decide +kernel, rfl⟩
theorem dX5_becomes_199 : dI cX5_becomes 199 202 (.getfield 58) 3 := ⟨by decide +kernel, rfl⟩
theorem dX5_becomes_202 : dI cX5_becomes 202 203 (.iload_n 2) 1 := ⟨by decide +kernel, rfl⟩
theorem dX5_becomes_203 : dI cX5_becomes 203 204 (.aload_n 1) 1 := ⟨by decide +kernel, rfl⟩
theorem dX5_becomes_204 : dI cX5_becomes 204 207 (.getfield 58) 3 := ⟨by decide +kernel, rfl⟩
theorem dX5_becomes_207 : dI cX5_becomes 207 208 (.iload_n 2) 1 := ⟨by decide +kernel, rfl⟩
theorem dX5_becomes_208 : dI cX5_becomes 208 209 (.iaload) 1 := ⟨by decide +kernel, rfl⟩
theorem dX5_becomes_209 : dI cX5_becomes 209 210 (.iastore) 1 := ⟨by decide +kernel, rfl⟩
theorem dX5_becomes_210 : dI cX5_becomes 210 211 (.aload_n 0) 1 := ⟨by decide +kernel, rfl⟩
theorem dX5_becomes_211 : dI cX5_becomes 211 214 (.getfield 61) 3 := ⟨by decide +kernel, rfl⟩
theorem dX5_becomes_214 : dI cX5_becomes 214 215 (.iload_n 2) 1 := ⟨by decide +kernel, rfl⟩
theorem dX5_becomes_215 : dI cX5_becomes 215 216 (.aload_n 1) 1 := ⟨by decide +kernel, rfl⟩
theorem dX5_becomes_216 : dI cX5_becomes 216 219 (.getfield 61) 3 := ⟨by decide +kernel, rfl⟩
theorem dX5_becomes_219 : dI cX5_becomes 219 220 (.iload_n 2) 1 := ⟨by decide +kernel, rfl⟩
theorem dX5_becomes_220 : dI cX5_becomes 220 221 (.iaload) 1 := ⟨by decide +kernel, rfl⟩
theorem dX5_becomes_221 : dI cX5_becomes 221 222 (.iastore) 1 := ⟨by decide +kernel, rfl⟩
theorem dX5_becomes_222 : dI cX5_becomes 222 225 (.iinc 2 1) 3 := ⟨by decide +kernel, rfl⟩
theorem dX5_becomes_225 : decode cX5_becomes 225 = .ok (.goto (-45), 3) := by decide +kernel
theorem dX5_becomes_228 : dI cX5_becomes 228 229 (.iconst 0) 1 := ⟨by decide +kernel, rfl⟩
theorem dX5_becomes_229 : dI cX5_becomes 229 230 (.istore_n 2) 1 := ⟨by decide +kernel, rfl⟩
theorem dX5_becomes_230 : dI cX5_becomes 230 231 (.iload_n 2) 1 := ⟨by decide +kernel, rfl⟩
theorem dX5_becomes_231 : dI cX5_becomes 231 233 (.bipush 14) 2 := ⟨by decide +kernel, rfl⟩
theorem dX5_becomes_233 : decode cX5_becomes 233 = .ok (.if_icmp .ge 21, 3) := by decide +kernel
theorem dX5_becomes_236 : dI cX5_becomes 236 237 (.aload_n 0) 1 := ⟨by decide +kernel, rfl⟩
theorem dX5_becomes_237 : dI cX5_becomes 237 240 (.getfield 66) 3 := ⟨by decide +kernel, rfl⟩
theorem dX5_becomes_240 : dI cX5_becomes 240 241 (.iload_n 2) 1 := ⟨by decide +kernel, rfl⟩
theorem dX5_becomes_241 : dI cX5_becomes 241 242 (.aload_n 1) 1 := ⟨by decide +kernel, rfl⟩
theorem dX5_becomes_242 : dI cX5_becomes 242 245 (.getfield 66) 3 := ⟨by decide +kernel, rfl⟩
theorem dX5_becomes_245 : dI cX5_becomes 245 246 (.iload_n 2) 1 := ⟨by decide +kernel, rfl⟩
theorem dX5_becomes_246 : dI cX5_becomes 246 247 (.aaload) 1 := ⟨by decide +kernel, rfl⟩
theorem dX5_becomes_247 : dI cX5_becomes 247 248 (.aastore) 1 := ⟨by decide +kernel, rfl⟩
theorem dX5_becomes_248 : dI cX5_becomes 248 251 (.iinc 2 1) 3 := ⟨by decide +kernel, rfl⟩
theorem dX5_becomes_251 : decode cX5_becomes 251 = .ok (.goto (-21), 3) := by decide +kernel
theorem dX5_becomes_254 : dI cX5_becomes 254 255 (.return_) 1 := ⟨by decide +kernel, rfl⟩
def f_X5_becomes_b230 (k230 : Nat → Nat → Int32 → hS → Option (Unit × hS)) (l0 : Nat) (l1 : Nat) (l2 : Int32) (s : hS) : Option (Unit × hS) :=
  if (14 : Int32) ≤ l2 then
    some ((), s)
  else
    (gR s l0 5 17).bind fun a1 =>
    (gR s l1 5 17).bind fun a2 =>
    (aN s a2 14 l2).bind fun a3 =>
    (sN s a1 14 l2 4 a3).bind fun s4 =>
    k230 l0 l1 (l2 + (1 : Int32)) s4
theorem b_X5_becomes_230 (E : jE) (k230 : Nat → Nat → Int32 → hS → Option (Unit × hS)) (h230 : ∀ (s : hS) (l0 : Nat) (l1 : Nat) (l2 : Int32) , Jo E M_X5_becomes cvV 230 [(0, .ref l0), (1, .ref l1), (2, .int l2)] [] s (k230 l0 l1 l2 s)) (s : hS) (l0 : Nat) (l1 : Nat) (l2 : Int32)  : Jo E M_X5_becomes cvV 230 [(0, .ref l0), (1, .ref l1), (2, .int l2)] [] s (f_X5_becomes_b230 k230 l0 l1 l2 s) := by
  unfold f_X5_becomes_b230
  refine Jo_iloadn 2 dX5_becomes_230 rfl rfl ?_
  refine Jo_bipush (v := (14 : Int32)) dX5_becomes_231 (by decide) ?_
  refine Jo_icmp_ge 254 dX5_becomes_233 (by decide) rfl ?_ ?_
  · exact Jo_vret rfl dX5_becomes_254
  · refine Jo_aloadn 0 dX5_becomes_236 rfl rfl ?_
    refine Jo_getR fF_5_17 fR_5_17 dX5_becomes_237 w_177 (fun a1 => ?_)
    refine Jo_iloadn 2 dX5_becomes_240 rfl rfl ?_
    refine Jo_aloadn 1 dX5_becomes_241 rfl rfl ?_
    refine Jo_getR fF_5_17 fR_5_17 dX5_becomes_242 w_177 (fun a2 => ?_)
    refine Jo_iloadn 2 dX5_becomes_245 rfl rfl ?_
    refine Jo_aaloadN hta_14 dX5_becomes_246 (fun a3 => ?_)
    refine Jo_aastoreN hts_14 dX5_becomes_247 (fun s4 => ?_)
    refine Jo_iinc (v := (l2 + (1 : Int32))) (ls' := [(2, .int (l2 + (1 : Int32))), (0, .ref l0), (1, .ref l1)]) 2 dX5_becomes_248 rfl rfl (by decide) rfl ?_
    refine Jo_goto 230 dX5_becomes_251 (by decide) ?_
    refine Jo_sub [1, 2, 0] rfl ?_
    exact h230 s4 l0 l1 (l2 + (1 : Int32))
theorem e_X5_becomes_230 (E : jE)  (n : Nat) : ∀ (s : hS) (l0 : Nat) (l1 : Nat) (l2 : Int32) , Jo E M_X5_becomes cvV 230 [(0, .ref l0), (1, .ref l1), (2, .int l2)] [] s ((jL f_X5_becomes_b230 (fun _ _ _ _ => none) n) l0 l1 l2 s) :=
  jL_ind (P := fun f => ∀ (s : hS) (l0 : Nat) (l1 : Nat) (l2 : Int32) , Jo E M_X5_becomes cvV 230 [(0, .ref l0), (1, .ref l1), (2, .int l2)] [] s (f l0 l1 l2 s)) (fun _ _ _ _ => Jo_none) (fun b hb s l0 l1 l2 => b_X5_becomes_230 E  b hb s l0 l1 l2) n
def f_X5_becomes_b180 (k180 : Nat → Nat → Int32 → hS → Option (Unit × hS)) (l0 : Nat) (l1 : Nat) (l2 : Int32) (s : hS) : Option (Unit × hS) :=
  if (8 : Int32) ≤ l2 then
    jL f_X5_becomes_b230 (fun _ _ _ _ => none) jF l0 l1 (0 : Int32) s
  else
    (gR s l0 5 14).bind fun a1 =>
    (gR s l1 5 14).bind fun a2 =>
    (aI s a2 10 l2).bind fun x3 =>
    (sI s a1 10 l2 x3).bind fun s4 =>
    (gR s4 l0 5 15).bind fun a5 =>
    (gR s4 l1 5 15).bind fun a6 =>
    (aI s4 a6 10 l2).bind fun x7 =>
    (sI s4 a5 10 l2 x7).bind fun s8 =>
    (gR s8 l0 5 16).bind fun a9 =>
    (gR s8 l1 5 16).bind fun a10 =>
    (aI s8 a10 10 l2).bind fun x11 =>
    (sI s8 a9 10 l2 x11).bind fun s12 =>
    k180 l0 l1 (l2 + (1 : Int32)) s12
theorem b_X5_becomes_180 (E : jE) (k180 : Nat → Nat → Int32 → hS → Option (Unit × hS)) (h180 : ∀ (s : hS) (l0 : Nat) (l1 : Nat) (l2 : Int32) , Jo E M_X5_becomes cvV 180 [(0, .ref l0), (1, .ref l1), (2, .int l2)] [] s (k180 l0 l1 l2 s)) (s : hS) (l0 : Nat) (l1 : Nat) (l2 : Int32)  : Jo E M_X5_becomes cvV 180 [(0, .ref l0), (1, .ref l1), (2, .int l2)] [] s (f_X5_becomes_b180 k180 l0 l1 l2 s) := by
  unfold f_X5_becomes_b180
  refine Jo_iloadn 2 dX5_becomes_180 rfl rfl ?_
  refine Jo_bipush (v := (8 : Int32)) dX5_becomes_181 (by decide) ?_
  refine Jo_icmp_ge 228 dX5_becomes_183 (by decide) rfl ?_ ?_
  · refine Jo_iconst (v := (0 : Int32)) dX5_becomes_228 (by decide) ?_
    refine Jo_istoren (ls' := [(2, .int (0 : Int32)), (0, .ref l0), (1, .ref l1)]) dX5_becomes_229 rfl (by decide) rfl ?_
    refine Jo_sub [1, 2, 0] rfl ?_
    exact e_X5_becomes_230 E jF s l0 l1 (0 : Int32)
  · refine Jo_aloadn 0 dX5_becomes_186 rfl rfl ?_
    refine Jo_getR fF_5_14 fR_5_14 dX5_becomes_187 w_181 (fun a1 => ?_)
    refine Jo_iloadn 2 dX5_becomes_190 rfl rfl ?_
    refine Jo_aloadn 1 dX5_becomes_191 rfl rfl ?_
    refine Jo_getR fF_5_14 fR_5_14 dX5_becomes_192 w_181 (fun a2 => ?_)
    refine Jo_iloadn 2 dX5_becomes_195 rfl rfl ?_
    refine Jo_iaload dX5_becomes_196 (fun x3 => ?_)
    refine Jo_iastore dX5_becomes_197 (fun s4 => ?_)
    refine Jo_aloadn 0 dX5_becomes_198 rfl rfl ?_
    refine Jo_getR fF_5_15 fR_5_15 dX5_becomes_199 w_180 (fun a5 => ?_)
    refine Jo_iloadn 2 dX5_becomes_202 rfl rfl ?_
    refine Jo_aloadn 1 dX5_becomes_203 rfl rfl ?_
    refine Jo_getR fF_5_15 fR_5_15 dX5_becomes_204 w_180 (fun a6 => ?_)
    refine Jo_iloadn 2 dX5_becomes_207 rfl rfl ?_
    refine Jo_iaload dX5_becomes_208 (fun x7 => ?_)
    refine Jo_iastore dX5_becomes_209 (fun s8 => ?_)
    refine Jo_aloadn 0 dX5_becomes_210 rfl rfl ?_
    refine Jo_getR fF_5_16 fR_5_16 dX5_becomes_211 w_179 (fun a9 => ?_)
    refine Jo_iloadn 2 dX5_becomes_214 rfl rfl ?_
    refine Jo_aloadn 1 dX5_becomes_215 rfl rfl ?_
    refine Jo_getR fF_5_16 fR_5_16 dX5_becomes_216 w_179 (fun a10 => ?_)
    refine Jo_iloadn 2 dX5_becomes_219 rfl rfl ?_
    refine Jo_iaload dX5_becomes_220 (fun x11 => ?_)
    refine Jo_iastore dX5_becomes_221 (fun s12 => ?_)
    refine Jo_iinc (v := (l2 + (1 : Int32))) (ls' := [(2, .int (l2 + (1 : Int32))), (0, .ref l0), (1, .ref l1)]) 2 dX5_becomes_222 rfl rfl (by decide) rfl ?_
    refine Jo_goto 180 dX5_becomes_225 (by decide) ?_
    refine Jo_sub [1, 2, 0] rfl ?_
    exact h180 s12 l0 l1 (l2 + (1 : Int32))
theorem e_X5_becomes_180 (E : jE)  (n : Nat) : ∀ (s : hS) (l0 : Nat) (l1 : Nat) (l2 : Int32) , Jo E M_X5_becomes cvV 180 [(0, .ref l0), (1, .ref l1), (2, .int l2)] [] s ((jL f_X5_becomes_b180 (fun _ _ _ _ => none) n) l0 l1 l2 s) :=
  jL_ind (P := fun f => ∀ (s : hS) (l0 : Nat) (l1 : Nat) (l2 : Int32) , Jo E M_X5_becomes cvV 180 [(0, .ref l0), (1, .ref l1), (2, .int l2)] [] s (f l0 l1 l2 s)) (fun _ _ _ _ => Jo_none) (fun b hb s l0 l1 l2 => b_X5_becomes_180 E  b hb s l0 l1 l2) n
def f_X5_becomes_b142 (k142 : Nat → Nat → Int32 → hS → Option (Unit × hS)) (l0 : Nat) (l1 : Nat) (l2 : Int32) (s : hS) : Option (Unit × hS) :=
  if (8 : Int32) ≤ l2 then
    jL f_X5_becomes_b180 (fun _ _ _ _ => none) jF l0 l1 (0 : Int32) s
  else
    (gR s l0 5 12).bind fun a1 =>
    (gR s l1 5 12).bind fun a2 =>
    (aI s a2 10 l2).bind fun x3 =>
    (sI s a1 10 l2 x3).bind fun s4 =>
    (gR s4 l0 5 13).bind fun a5 =>
    (gR s4 l1 5 13).bind fun a6 =>
    (aI s4 a6 10 l2).bind fun x7 =>
    (sI s4 a5 10 l2 x7).bind fun s8 =>
    k142 l0 l1 (l2 + (1 : Int32)) s8
theorem b_X5_becomes_142 (E : jE) (k142 : Nat → Nat → Int32 → hS → Option (Unit × hS)) (h142 : ∀ (s : hS) (l0 : Nat) (l1 : Nat) (l2 : Int32) , Jo E M_X5_becomes cvV 142 [(0, .ref l0), (1, .ref l1), (2, .int l2)] [] s (k142 l0 l1 l2 s)) (s : hS) (l0 : Nat) (l1 : Nat) (l2 : Int32)  : Jo E M_X5_becomes cvV 142 [(0, .ref l0), (1, .ref l1), (2, .int l2)] [] s (f_X5_becomes_b142 k142 l0 l1 l2 s) := by
  unfold f_X5_becomes_b142
  refine Jo_iloadn 2 dX5_becomes_142 rfl rfl ?_
  refine Jo_bipush (v := (8 : Int32)) dX5_becomes_143 (by decide) ?_
  refine Jo_icmp_ge 178 dX5_becomes_145 (by decide) rfl ?_ ?_
  · refine Jo_iconst (v := (0 : Int32)) dX5_becomes_178 (by decide) ?_
    refine Jo_istoren (ls' := [(2, .int (0 : Int32)), (0, .ref l0), (1, .ref l1)]) dX5_becomes_179 rfl (by decide) rfl ?_
    refine Jo_sub [1, 2, 0] rfl ?_
    exact e_X5_becomes_180 E jF s l0 l1 (0 : Int32)
  · refine Jo_aloadn 0 dX5_becomes_148 rfl rfl ?_
    refine Jo_getR fF_5_12 fR_5_12 dX5_becomes_149 w_183 (fun a1 => ?_)
    refine Jo_iloadn 2 dX5_becomes_152 rfl rfl ?_
    refine Jo_aloadn 1 dX5_becomes_153 rfl rfl ?_
    refine Jo_getR fF_5_12 fR_5_12 dX5_becomes_154 w_183 (fun a2 => ?_)
    refine Jo_iloadn 2 dX5_becomes_157 rfl rfl ?_
    refine Jo_iaload dX5_becomes_158 (fun x3 => ?_)
    refine Jo_iastore dX5_becomes_159 (fun s4 => ?_)
    refine Jo_aloadn 0 dX5_becomes_160 rfl rfl ?_
    refine Jo_getR fF_5_13 fR_5_13 dX5_becomes_161 w_182 (fun a5 => ?_)
    refine Jo_iloadn 2 dX5_becomes_164 rfl rfl ?_
    refine Jo_aloadn 1 dX5_becomes_165 rfl rfl ?_
    refine Jo_getR fF_5_13 fR_5_13 dX5_becomes_166 w_182 (fun a6 => ?_)
    refine Jo_iloadn 2 dX5_becomes_169 rfl rfl ?_
    refine Jo_iaload dX5_becomes_170 (fun x7 => ?_)
    refine Jo_iastore dX5_becomes_171 (fun s8 => ?_)
    refine Jo_iinc (v := (l2 + (1 : Int32))) (ls' := [(2, .int (l2 + (1 : Int32))), (0, .ref l0), (1, .ref l1)]) 2 dX5_becomes_172 rfl rfl (by decide) rfl ?_
    refine Jo_goto 142 dX5_becomes_175 (by decide) ?_
    refine Jo_sub [1, 2, 0] rfl ?_
    exact h142 s8 l0 l1 (l2 + (1 : Int32))
theorem e_X5_becomes_142 (E : jE)  (n : Nat) : ∀ (s : hS) (l0 : Nat) (l1 : Nat) (l2 : Int32) , Jo E M_X5_becomes cvV 142 [(0, .ref l0), (1, .ref l1), (2, .int l2)] [] s ((jL f_X5_becomes_b142 (fun _ _ _ _ => none) n) l0 l1 l2 s) :=
  jL_ind (P := fun f => ∀ (s : hS) (l0 : Nat) (l1 : Nat) (l2 : Int32) , Jo E M_X5_becomes cvV 142 [(0, .ref l0), (1, .ref l1), (2, .int l2)] [] s (f l0 l1 l2 s)) (fun _ _ _ _ => Jo_none) (fun b hb s l0 l1 l2 => b_X5_becomes_142 E  b hb s l0 l1 l2) n
def f_X5_becomes_b104 (k104 : Nat → Nat → Int32 → hS → Option (Unit × hS)) (l0 : Nat) (l1 : Nat) (l2 : Int32) (s : hS) : Option (Unit × hS) :=
  if (8 : Int32) ≤ l2 then
    jL f_X5_becomes_b142 (fun _ _ _ _ => none) jF l0 l1 (0 : Int32) s
  else
    (gR s l0 5 10).bind fun a1 =>
    (gR s l1 5 10).bind fun a2 =>
    (aI s a2 10 l2).bind fun x3 =>
    (sI s a1 10 l2 x3).bind fun s4 =>
    (gR s4 l0 5 11).bind fun a5 =>
    (gR s4 l1 5 11).bind fun a6 =>
    (aI s4 a6 10 l2).bind fun x7 =>
    (sI s4 a5 10 l2 x7).bind fun s8 =>
    k104 l0 l1 (l2 + (1 : Int32)) s8
theorem b_X5_becomes_104 (E : jE) (k104 : Nat → Nat → Int32 → hS → Option (Unit × hS)) (h104 : ∀ (s : hS) (l0 : Nat) (l1 : Nat) (l2 : Int32) , Jo E M_X5_becomes cvV 104 [(0, .ref l0), (1, .ref l1), (2, .int l2)] [] s (k104 l0 l1 l2 s)) (s : hS) (l0 : Nat) (l1 : Nat) (l2 : Int32)  : Jo E M_X5_becomes cvV 104 [(0, .ref l0), (1, .ref l1), (2, .int l2)] [] s (f_X5_becomes_b104 k104 l0 l1 l2 s) := by
  unfold f_X5_becomes_b104
  refine Jo_iloadn 2 dX5_becomes_104 rfl rfl ?_
  refine Jo_bipush (v := (8 : Int32)) dX5_becomes_105 (by decide) ?_
  refine Jo_icmp_ge 140 dX5_becomes_107 (by decide) rfl ?_ ?_
  · refine Jo_iconst (v := (0 : Int32)) dX5_becomes_140 (by decide) ?_
    refine Jo_istoren (ls' := [(2, .int (0 : Int32)), (0, .ref l0), (1, .ref l1)]) dX5_becomes_141 rfl (by decide) rfl ?_
    refine Jo_sub [1, 2, 0] rfl ?_
    exact e_X5_becomes_142 E jF s l0 l1 (0 : Int32)
  · refine Jo_aloadn 0 dX5_becomes_110 rfl rfl ?_
    refine Jo_getR fF_5_10 fR_5_10 dX5_becomes_111 w_185 (fun a1 => ?_)
    refine Jo_iloadn 2 dX5_becomes_114 rfl rfl ?_
    refine Jo_aloadn 1 dX5_becomes_115 rfl rfl ?_
    refine Jo_getR fF_5_10 fR_5_10 dX5_becomes_116 w_185 (fun a2 => ?_)
    refine Jo_iloadn 2 dX5_becomes_119 rfl rfl ?_
    refine Jo_iaload dX5_becomes_120 (fun x3 => ?_)
    refine Jo_iastore dX5_becomes_121 (fun s4 => ?_)
    refine Jo_aloadn 0 dX5_becomes_122 rfl rfl ?_
    refine Jo_getR fF_5_11 fR_5_11 dX5_becomes_123 w_184 (fun a5 => ?_)
    refine Jo_iloadn 2 dX5_becomes_126 rfl rfl ?_
    refine Jo_aloadn 1 dX5_becomes_127 rfl rfl ?_
    refine Jo_getR fF_5_11 fR_5_11 dX5_becomes_128 w_184 (fun a6 => ?_)
    refine Jo_iloadn 2 dX5_becomes_131 rfl rfl ?_
    refine Jo_iaload dX5_becomes_132 (fun x7 => ?_)
    refine Jo_iastore dX5_becomes_133 (fun s8 => ?_)
    refine Jo_iinc (v := (l2 + (1 : Int32))) (ls' := [(2, .int (l2 + (1 : Int32))), (0, .ref l0), (1, .ref l1)]) 2 dX5_becomes_134 rfl rfl (by decide) rfl ?_
    refine Jo_goto 104 dX5_becomes_137 (by decide) ?_
    refine Jo_sub [1, 2, 0] rfl ?_
    exact h104 s8 l0 l1 (l2 + (1 : Int32))
theorem e_X5_becomes_104 (E : jE)  (n : Nat) : ∀ (s : hS) (l0 : Nat) (l1 : Nat) (l2 : Int32) , Jo E M_X5_becomes cvV 104 [(0, .ref l0), (1, .ref l1), (2, .int l2)] [] s ((jL f_X5_becomes_b104 (fun _ _ _ _ => none) n) l0 l1 l2 s) :=
  jL_ind (P := fun f => ∀ (s : hS) (l0 : Nat) (l1 : Nat) (l2 : Int32) , Jo E M_X5_becomes cvV 104 [(0, .ref l0), (1, .ref l1), (2, .int l2)] [] s (f l0 l1 l2 s)) (fun _ _ _ _ => Jo_none) (fun b hb s l0 l1 l2 => b_X5_becomes_104 E  b hb s l0 l1 l2) n
def f_X5_becomes_b66 (k66 : Nat → Nat → Int32 → hS → Option (Unit × hS)) (l0 : Nat) (l1 : Nat) (l2 : Int32) (s : hS) : Option (Unit × hS) :=
  if (16 : Int32) ≤ l2 then
    jL f_X5_becomes_b104 (fun _ _ _ _ => none) jF l0 l1 (0 : Int32) s
  else
    (gR s l0 5 8).bind fun a1 =>
    (gR s l1 5 8).bind fun a2 =>
    (aI s a2 10 l2).bind fun x3 =>
    (sI s a1 10 l2 x3).bind fun s4 =>
    (gR s4 l0 5 9).bind fun a5 =>
    (gR s4 l1 5 9).bind fun a6 =>
    (aI s4 a6 10 l2).bind fun x7 =>
    (sI s4 a5 10 l2 x7).bind fun s8 =>
    k66 l0 l1 (l2 + (1 : Int32)) s8
theorem b_X5_becomes_66 (E : jE) (k66 : Nat → Nat → Int32 → hS → Option (Unit × hS)) (h66 : ∀ (s : hS) (l0 : Nat) (l1 : Nat) (l2 : Int32) , Jo E M_X5_becomes cvV 66 [(0, .ref l0), (1, .ref l1), (2, .int l2)] [] s (k66 l0 l1 l2 s)) (s : hS) (l0 : Nat) (l1 : Nat) (l2 : Int32)  : Jo E M_X5_becomes cvV 66 [(0, .ref l0), (1, .ref l1), (2, .int l2)] [] s (f_X5_becomes_b66 k66 l0 l1 l2 s) := by
  unfold f_X5_becomes_b66
  refine Jo_iloadn 2 dX5_becomes_66 rfl rfl ?_
  refine Jo_bipush (v := (16 : Int32)) dX5_becomes_67 (by decide) ?_
  refine Jo_icmp_ge 102 dX5_becomes_69 (by decide) rfl ?_ ?_
  · refine Jo_iconst (v := (0 : Int32)) dX5_becomes_102 (by decide) ?_
    refine Jo_istoren (ls' := [(2, .int (0 : Int32)), (0, .ref l0), (1, .ref l1)]) dX5_becomes_103 rfl (by decide) rfl ?_
    refine Jo_sub [1, 2, 0] rfl ?_
    exact e_X5_becomes_104 E jF s l0 l1 (0 : Int32)
  · refine Jo_aloadn 0 dX5_becomes_72 rfl rfl ?_
    refine Jo_getR fF_5_8 fR_5_8 dX5_becomes_73 w_187 (fun a1 => ?_)
    refine Jo_iloadn 2 dX5_becomes_76 rfl rfl ?_
    refine Jo_aloadn 1 dX5_becomes_77 rfl rfl ?_
    refine Jo_getR fF_5_8 fR_5_8 dX5_becomes_78 w_187 (fun a2 => ?_)
    refine Jo_iloadn 2 dX5_becomes_81 rfl rfl ?_
    refine Jo_iaload dX5_becomes_82 (fun x3 => ?_)
    refine Jo_iastore dX5_becomes_83 (fun s4 => ?_)
    refine Jo_aloadn 0 dX5_becomes_84 rfl rfl ?_
    refine Jo_getR fF_5_9 fR_5_9 dX5_becomes_85 w_186 (fun a5 => ?_)
    refine Jo_iloadn 2 dX5_becomes_88 rfl rfl ?_
    refine Jo_aloadn 1 dX5_becomes_89 rfl rfl ?_
    refine Jo_getR fF_5_9 fR_5_9 dX5_becomes_90 w_186 (fun a6 => ?_)
    refine Jo_iloadn 2 dX5_becomes_93 rfl rfl ?_
    refine Jo_iaload dX5_becomes_94 (fun x7 => ?_)
    refine Jo_iastore dX5_becomes_95 (fun s8 => ?_)
    refine Jo_iinc (v := (l2 + (1 : Int32))) (ls' := [(2, .int (l2 + (1 : Int32))), (0, .ref l0), (1, .ref l1)]) 2 dX5_becomes_96 rfl rfl (by decide) rfl ?_
    refine Jo_goto 66 dX5_becomes_99 (by decide) ?_
    refine Jo_sub [1, 2, 0] rfl ?_
    exact h66 s8 l0 l1 (l2 + (1 : Int32))
theorem e_X5_becomes_66 (E : jE)  (n : Nat) : ∀ (s : hS) (l0 : Nat) (l1 : Nat) (l2 : Int32) , Jo E M_X5_becomes cvV 66 [(0, .ref l0), (1, .ref l1), (2, .int l2)] [] s ((jL f_X5_becomes_b66 (fun _ _ _ _ => none) n) l0 l1 l2 s) :=
  jL_ind (P := fun f => ∀ (s : hS) (l0 : Nat) (l1 : Nat) (l2 : Int32) , Jo E M_X5_becomes cvV 66 [(0, .ref l0), (1, .ref l1), (2, .int l2)] [] s (f l0 l1 l2 s)) (fun _ _ _ _ => Jo_none) (fun b hb s l0 l1 l2 => b_X5_becomes_66 E  b hb s l0 l1 l2) n
def f_X5_becomes (s : hS) (a0 : Nat) (a1 : Nat) : Option (Unit × hS) :=
  (gI s a1 5 0).bind fun x1 =>
  (pI s a0 5 0 x1).bind fun s2 =>
  (gI s2 a1 5 1).bind fun x3 =>
  (pI s2 a0 5 1 x3).bind fun s4 =>
  (gI s4 a1 5 2).bind fun x5 =>
  (pI s4 a0 5 2 x5).bind fun s6 =>
  (gI s6 a1 5 3).bind fun x7 =>
  (pI s6 a0 5 3 x7).bind fun s8 =>
  (gI s8 a1 5 4).bind fun x9 =>
  (pI s8 a0 5 4 x9).bind fun s10 =>
  (gI s10 a1 5 5).bind fun x11 =>
  (pI s10 a0 5 5 x11).bind fun s12 =>
  (gI s12 a1 5 6).bind fun x13 =>
  (pI s12 a0 5 6 x13).bind fun s14 =>
  (gI s14 a1 5 7).bind fun x15 =>
  (pI s14 a0 5 7 x15).bind fun s16 =>
  jL f_X5_becomes_b66 (fun _ _ _ _ => none) jF a0 a1 (0 : Int32) s16
theorem b_X5_becomes_in (E : jE)  (s : hS) (a0 : Nat) (a1 : Nat)  : Jo E M_X5_becomes cvV 0 [(0, .ref a0), (1, .ref a1)] [] s (f_X5_becomes s a0 a1) := by
  unfold f_X5_becomes
  refine Jo_aloadn 0 dX5_becomes_0 rfl rfl ?_
  refine Jo_aloadn 1 dX5_becomes_1 rfl rfl ?_
  refine Jo_getI fF_5_0 fI_5_0 dX5_becomes_2 w_195 (fun x1 => ?_)
  refine Jo_putI fF_5_0 fI_5_0 (Or.inl rfl) rfl dX5_becomes_5 w_195 (fun s2 => ?_)
  refine Jo_aloadn 0 dX5_becomes_8 rfl rfl ?_
  refine Jo_aloadn 1 dX5_becomes_9 rfl rfl ?_
  refine Jo_getI fF_5_1 fI_5_1 dX5_becomes_10 w_194 (fun x3 => ?_)
  refine Jo_putI fF_5_1 fI_5_1 (Or.inl rfl) rfl dX5_becomes_13 w_194 (fun s4 => ?_)
  refine Jo_aloadn 0 dX5_becomes_16 rfl rfl ?_
  refine Jo_aloadn 1 dX5_becomes_17 rfl rfl ?_
  refine Jo_getI fF_5_2 fI_5_2 dX5_becomes_18 w_193 (fun x5 => ?_)
  refine Jo_putI fF_5_2 fI_5_2 (Or.inl rfl) rfl dX5_becomes_21 w_193 (fun s6 => ?_)
  refine Jo_aloadn 0 dX5_becomes_24 rfl rfl ?_
  refine Jo_aloadn 1 dX5_becomes_25 rfl rfl ?_
  refine Jo_getI fF_5_3 fI_5_3 dX5_becomes_26 w_192 (fun x7 => ?_)
  refine Jo_putI fF_5_3 fI_5_3 (Or.inl rfl) rfl dX5_becomes_29 w_192 (fun s8 => ?_)
  refine Jo_aloadn 0 dX5_becomes_32 rfl rfl ?_
  refine Jo_aloadn 1 dX5_becomes_33 rfl rfl ?_
  refine Jo_getI fF_5_4 fI_5_4 dX5_becomes_34 w_191 (fun x9 => ?_)
  refine Jo_putI fF_5_4 fI_5_4 (Or.inl rfl) rfl dX5_becomes_37 w_191 (fun s10 => ?_)
  refine Jo_aloadn 0 dX5_becomes_40 rfl rfl ?_
  refine Jo_aloadn 1 dX5_becomes_41 rfl rfl ?_
  refine Jo_getI fF_5_5 fI_5_5 dX5_becomes_42 w_190 (fun x11 => ?_)
  refine Jo_putI fF_5_5 fI_5_5 (Or.inl rfl) rfl dX5_becomes_45 w_190 (fun s12 => ?_)
  refine Jo_aloadn 0 dX5_becomes_48 rfl rfl ?_
  refine Jo_aloadn 1 dX5_becomes_49 rfl rfl ?_
  refine Jo_getI fF_5_6 fI_5_6 dX5_becomes_50 w_189 (fun x13 => ?_)
  refine Jo_putI fF_5_6 fI_5_6 (Or.inl rfl) rfl dX5_becomes_53 w_189 (fun s14 => ?_)
  refine Jo_aloadn 0 dX5_becomes_56 rfl rfl ?_
  refine Jo_aloadn 1 dX5_becomes_57 rfl rfl ?_
  refine Jo_getI fF_5_7 fI_5_7 dX5_becomes_58 w_188 (fun x15 => ?_)
  refine Jo_putI fF_5_7 fI_5_7 (Or.inl rfl) rfl dX5_becomes_61 w_188 (fun s16 => ?_)
  refine Jo_iconst (v := (0 : Int32)) dX5_becomes_64 (by decide) ?_
  refine Jo_istoren (ls' := [(2, .int (0 : Int32)), (0, .ref a0), (1, .ref a1)]) dX5_becomes_65 rfl (by decide) rfl ?_
  refine Jo_sub [1, 2, 0] rfl ?_
  exact e_X5_becomes_66 E jF s16 a0 a1 (0 : Int32)
theorem K_X5_becomes (E : jE) (s : hS) (a0 : Nat) (a1 : Nat) : jK E yX5_becomes M_X5_becomes cvV [.ref a0, .ref a1] s (f_X5_becomes s a0 a1) := jK_of ⟨by decide, rfl, rfl⟩ (Nat.le_of_ble_eq_true rfl) (b_X5_becomes_in E s a0 a1)
/-! HeronTalk$Town.addFact(I)I -/
abbrev M_X5_addFact : jM := (RX5, cX5_addFact, 3, (some .int), "addFact", 0, 0)
theorem yF_X5_addFact : yF yX5_addFact M_X5_addFact 1 := ⟨w_203, w_198, by decide +kernel⟩
theorem yV_X5_addFact : Cond.instanceMethod yX5_addFact ∈ tbG ∧ Cond.selects yX5_addFact.cls yX5_addFact yX5_addFact ∈ tbG := ⟨w_204, w_205⟩
theorem dX5_addFact_0 : dI cX5_addFact 0 1 (.aload_n 0) 1 := ⟨by decide +kernel, rfl⟩
theorem dX5_addFact_1 : dI cX5_addFact 1 4 (.getfield 9) 3 := ⟨by decide +kernel, rfl⟩
theorem dX5_addFact_4 : dI cX5_addFact 4 5 (.istore_n 2) 1 := ⟨by decide +kernel, rfl⟩
theorem dX5_addFact_5 : dI cX5_addFact 5 6 (.iload_n 2) 1 := ⟨by decide +kernel, rfl⟩
theorem dX5_addFact_6 : dI cX5_addFact 6 8 (.bipush 16) 2 := ⟨by decide +kernel, rfl⟩
theorem dX5_addFact_8 : decode cX5_addFact 8 = .ok (.if_icmp .ge 29, 3) := by decide +kernel
theorem dX5_addFact_11 : dI cX5_addFact 11 12 (.aload_n 0) 1 := ⟨by decide +kernel, rfl⟩
theorem dX5_addFact_12 : dI cX5_addFact 12 15 (.getfield 36) 3 := ⟨by decide +kernel, rfl⟩
theorem dX5_addFact_15 : dI cX5_addFact 15 16 (.iload_n 2) 1 := ⟨by decide +kernel, rfl⟩
theorem dX5_addFact_16 : dI cX5_addFact 16 17 (.iload_n 1) 1 := ⟨by decide +kernel, rfl⟩
theorem dX5_addFact_17 : dI cX5_addFact 17 18 (.iastore) 1 := ⟨by decide +kernel, rfl⟩
theorem dX5_addFact_18 : dI cX5_addFact 18 19 (.aload_n 0) 1 := ⟨by decide +kernel, rfl⟩
theorem dX5_addFact_19 : dI cX5_addFact 19 22 (.getfield 40) 3 := ⟨by decide +kernel, rfl⟩
theorem dX5_addFact_22 : dI cX5_addFact 22 23 (.iload_n 2) 1 := ⟨by decide +kernel, rfl⟩
theorem dX5_addFact_23 : dI cX5_addFact 23 26 (.sipush 999) 3 := ⟨by decide +kernel, rfl⟩
theorem dX5_addFact_26 : dI cX5_addFact 26 27 (.iastore) 1 := ⟨by decide +kernel, rfl⟩
theorem dX5_addFact_27 : dI cX5_addFact 27 28 (.aload_n 0) 1 := ⟨by decide +kernel, rfl⟩
theorem dX5_addFact_28 : dI cX5_addFact 28 29 (.dup) 1 := ⟨by decide +kernel, rfl⟩
theorem dX5_addFact_29 : dI cX5_addFact 29 32 (.getfield 9) 3 := ⟨by decide +kernel, rfl⟩
theorem dX5_addFact_32 : dI cX5_addFact 32 33 (.iconst 1) 1 := ⟨by decide +kernel, rfl⟩
theorem dX5_addFact_33 : dI cX5_addFact 33 34 (.iadd) 1 := ⟨by decide +kernel, rfl⟩
theorem dX5_addFact_34 : dI cX5_addFact 34 37 (.putfield 9) 3 := ⟨by decide +kernel, rfl⟩
theorem dX5_addFact_37 : dI cX5_addFact 37 38 (.iload_n 2) 1 := ⟨by decide +kernel, rfl⟩
theorem dX5_addFact_38 : dI cX5_addFact 38 39 (.ireturn) 1 := ⟨by decide +kernel, rfl⟩
def f_X5_addFact (s : hS) (a0 : Nat) (i1 : Int32) : Option (Int32 × hS) :=
  (gI s a0 5 0).bind fun x1 =>
  if (16 : Int32) ≤ x1 then
    some (x1, s)
  else
    (gR s a0 5 8).bind fun a2 =>
    (sI s a2 10 x1 i1).bind fun s3 =>
    (gR s3 a0 5 9).bind fun a4 =>
    (sI s3 a4 10 x1 (999 : Int32)).bind fun s5 =>
    (gI s5 a0 5 0).bind fun x6 =>
    (pI s5 a0 5 0 (x6 + (1 : Int32))).bind fun s7 =>
    some (x1, s7)
theorem b_X5_addFact_in (E : jE)  (s : hS) (a0 : Nat) (i1 : Int32)  : Jo E M_X5_addFact cvI 0 [(0, .ref a0), (1, .int i1)] [] s (f_X5_addFact s a0 i1) := by
  unfold f_X5_addFact
  refine Jo_aloadn 0 dX5_addFact_0 rfl rfl ?_
  refine Jo_getI fF_5_0 fI_5_0 dX5_addFact_1 w_195 (fun x1 => ?_)
  refine Jo_istoren (ls' := [(2, .int x1), (0, .ref a0), (1, .int i1)]) dX5_addFact_4 rfl (by decide) rfl ?_
  refine Jo_iloadn 0 dX5_addFact_5 rfl rfl ?_
  refine Jo_bipush (v := (16 : Int32)) dX5_addFact_6 (by decide) ?_
  refine Jo_icmp_ge 37 dX5_addFact_8 (by decide) rfl ?_ ?_
  · refine Jo_iloadn 0 dX5_addFact_37 rfl rfl ?_
    exact Jo_iret rfl dX5_addFact_38
  · refine Jo_aloadn 1 dX5_addFact_11 rfl rfl ?_
    refine Jo_getR fF_5_8 fR_5_8 dX5_addFact_12 w_187 (fun a2 => ?_)
    refine Jo_iloadn 0 dX5_addFact_15 rfl rfl ?_
    refine Jo_iloadn 2 dX5_addFact_16 rfl rfl ?_
    refine Jo_iastore dX5_addFact_17 (fun s3 => ?_)
    refine Jo_aloadn 1 dX5_addFact_18 rfl rfl ?_
    refine Jo_getR fF_5_9 fR_5_9 dX5_addFact_19 w_186 (fun a4 => ?_)
    refine Jo_iloadn 0 dX5_addFact_22 rfl rfl ?_
    refine Jo_sipush (v := (999 : Int32)) dX5_addFact_23 (by decide) ?_
    refine Jo_iastore dX5_addFact_26 (fun s5 => ?_)
    refine Jo_aloadn 1 dX5_addFact_27 rfl rfl ?_
    refine Jo_dup dX5_addFact_28 rfl ?_
    refine Jo_getI fF_5_0 fI_5_0 dX5_addFact_29 w_195 (fun x6 => ?_)
    refine Jo_iconst (v := (1 : Int32)) dX5_addFact_32 (by decide) ?_
    refine Jo_iadd dX5_addFact_33 ?_
    refine Jo_putI fF_5_0 fI_5_0 (Or.inl rfl) rfl dX5_addFact_34 w_195 (fun s7 => ?_)
    refine Jo_iloadn 0 dX5_addFact_37 rfl rfl ?_
    exact Jo_iret rfl dX5_addFact_38
theorem K_X5_addFact (E : jE) (s : hS) (a0 : Nat) (i1 : Int32) : jK E yX5_addFact M_X5_addFact cvI [.ref a0, .int i1] s (f_X5_addFact s a0 i1) := jK_of ⟨by decide, rfl, rfl⟩ (Nat.le_of_ble_eq_true rfl) (b_X5_addFact_in E s a0 i1)
/-! HeronTalk$Town.addPerson()I -/
abbrev M_X5_addPerson : jM := (RX5, cX5_addPerson, 2, (some .int), "addPerson", 0, 0)
theorem yF_X5_addPerson : yF yX5_addPerson M_X5_addPerson 0 := ⟨w_206, w_198, by decide +kernel⟩
theorem yV_X5_addPerson : Cond.instanceMethod yX5_addPerson ∈ tbG ∧ Cond.selects yX5_addPerson.cls yX5_addPerson yX5_addPerson ∈ tbG := ⟨w_207, w_208⟩
theorem dX5_addPerson_0 : dI cX5_addPerson 0 1 (.aload_n 0) 1 := ⟨by decide +kernel, rfl⟩
theorem dX5_addPerson_1 : dI cX5_addPerson 1 4 (.getfield 15) 3 := ⟨by decide +kernel, rfl⟩
theorem dX5_addPerson_4 : dI cX5_addPerson 4 5 (.istore_n 1) 1 := ⟨by decide +kernel, rfl⟩
theorem dX5_addPerson_5 : dI cX5_addPerson 5 6 (.iload_n 1) 1 := ⟨by decide +kernel, rfl⟩
theorem dX5_addPerson_6 : dI cX5_addPerson 6 8 (.bipush 8) 2 := ⟨by decide +kernel, rfl⟩
theorem dX5_addPerson_8 : decode cX5_addPerson 8 = .ok (.if_icmp .ge 27, 3) := by decide +kernel
theorem dX5_addPerson_11 : dI cX5_addPerson 11 12 (.aload_n 0) 1 := ⟨by decide +kernel, rfl⟩
theorem dX5_addPerson_12 : dI cX5_addPerson 12 15 (.getfield 43) 3 := ⟨by decide +kernel, rfl⟩
theorem dX5_addPerson_15 : dI cX5_addPerson 15 16 (.iload_n 1) 1 := ⟨by decide +kernel, rfl⟩
theorem dX5_addPerson_16 : dI cX5_addPerson 16 17 (.iconst 0) 1 := ⟨by decide +kernel, rfl⟩
theorem dX5_addPerson_17 : dI cX5_addPerson 17 18 (.iastore) 1 := ⟨by decide +kernel, rfl⟩
theorem dX5_addPerson_18 : dI cX5_addPerson 18 19 (.aload_n 0) 1 := ⟨by decide +kernel, rfl⟩
theorem dX5_addPerson_19 : dI cX5_addPerson 19 22 (.getfield 46) 3 := ⟨by decide +kernel, rfl⟩
theorem dX5_addPerson_22 : dI cX5_addPerson 22 23 (.iload_n 1) 1 := ⟨by decide +kernel, rfl⟩
theorem dX5_addPerson_23 : dI cX5_addPerson 23 24 (.iconst 0) 1 := ⟨by decide +kernel, rfl⟩
theorem dX5_addPerson_24 : dI cX5_addPerson 24 25 (.iastore) 1 := ⟨by decide +kernel, rfl⟩
theorem dX5_addPerson_25 : dI cX5_addPerson 25 26 (.aload_n 0) 1 := ⟨by decide +kernel, rfl⟩
theorem dX5_addPerson_26 : dI cX5_addPerson 26 27 (.dup) 1 := ⟨by decide +kernel, rfl⟩
theorem dX5_addPerson_27 : dI cX5_addPerson 27 30 (.getfield 15) 3 := ⟨by decide +kernel, rfl⟩
theorem dX5_addPerson_30 : dI cX5_addPerson 30 31 (.iconst 1) 1 := ⟨by decide +kernel, rfl⟩
theorem dX5_addPerson_31 : dI cX5_addPerson 31 32 (.iadd) 1 := ⟨by decide +kernel, rfl⟩
theorem dX5_addPerson_32 : dI cX5_addPerson 32 35 (.putfield 15) 3 := ⟨by decide +kernel, rfl⟩
theorem dX5_addPerson_35 : dI cX5_addPerson 35 36 (.iload_n 1) 1 := ⟨by decide +kernel, rfl⟩
theorem dX5_addPerson_36 : dI cX5_addPerson 36 37 (.ireturn) 1 := ⟨by decide +kernel, rfl⟩
def f_X5_addPerson (s : hS) (a0 : Nat) : Option (Int32 × hS) :=
  (gI s a0 5 1).bind fun x1 =>
  if (8 : Int32) ≤ x1 then
    some (x1, s)
  else
    (gR s a0 5 10).bind fun a2 =>
    (sI s a2 10 x1 (0 : Int32)).bind fun s3 =>
    (gR s3 a0 5 11).bind fun a4 =>
    (sI s3 a4 10 x1 (0 : Int32)).bind fun s5 =>
    (gI s5 a0 5 1).bind fun x6 =>
    (pI s5 a0 5 1 (x6 + (1 : Int32))).bind fun s7 =>
    some (x1, s7)
theorem b_X5_addPerson_in (E : jE)  (s : hS) (a0 : Nat)  : Jo E M_X5_addPerson cvI 0 [(0, .ref a0)] [] s (f_X5_addPerson s a0) := by
  unfold f_X5_addPerson
  refine Jo_aloadn 0 dX5_addPerson_0 rfl rfl ?_
  refine Jo_getI fF_5_1 fI_5_1 dX5_addPerson_1 w_194 (fun x1 => ?_)
  refine Jo_istoren (ls' := [(1, .int x1), (0, .ref a0)]) dX5_addPerson_4 rfl (by decide) rfl ?_
  refine Jo_iloadn 0 dX5_addPerson_5 rfl rfl ?_
  refine Jo_bipush (v := (8 : Int32)) dX5_addPerson_6 (by decide) ?_
  refine Jo_icmp_ge 35 dX5_addPerson_8 (by decide) rfl ?_ ?_
  · refine Jo_iloadn 0 dX5_addPerson_35 rfl rfl ?_
    exact Jo_iret rfl dX5_addPerson_36
  · refine Jo_aloadn 1 dX5_addPerson_11 rfl rfl ?_
    refine Jo_getR fF_5_10 fR_5_10 dX5_addPerson_12 w_185 (fun a2 => ?_)
    refine Jo_iloadn 0 dX5_addPerson_15 rfl rfl ?_
    refine Jo_iconst (v := (0 : Int32)) dX5_addPerson_16 (by decide) ?_
    refine Jo_iastore dX5_addPerson_17 (fun s3 => ?_)
    refine Jo_aloadn 1 dX5_addPerson_18 rfl rfl ?_
    refine Jo_getR fF_5_11 fR_5_11 dX5_addPerson_19 w_184 (fun a4 => ?_)
    refine Jo_iloadn 0 dX5_addPerson_22 rfl rfl ?_
    refine Jo_iconst (v := (0 : Int32)) dX5_addPerson_23 (by decide) ?_
    refine Jo_iastore dX5_addPerson_24 (fun s5 => ?_)
    refine Jo_aloadn 1 dX5_addPerson_25 rfl rfl ?_
    refine Jo_dup dX5_addPerson_26 rfl ?_
    refine Jo_getI fF_5_1 fI_5_1 dX5_addPerson_27 w_194 (fun x6 => ?_)
    refine Jo_iconst (v := (1 : Int32)) dX5_addPerson_30 (by decide) ?_
    refine Jo_iadd dX5_addPerson_31 ?_
    refine Jo_putI fF_5_1 fI_5_1 (Or.inl rfl) rfl dX5_addPerson_32 w_194 (fun s7 => ?_)
    refine Jo_iloadn 0 dX5_addPerson_35 rfl rfl ?_
    exact Jo_iret rfl dX5_addPerson_36
theorem K_X5_addPerson (E : jE) (s : hS) (a0 : Nat) : jK E yX5_addPerson M_X5_addPerson cvI [.ref a0] s (f_X5_addPerson s a0) := jK_of ⟨by decide, rfl, rfl⟩ (Nat.le_of_ble_eq_true rfl) (b_X5_addPerson_in E s a0)
/-! HeronTalk$Town.withWhatFollows(I)I -/
abbrev M_X5_withWhatFollows : jM := (RX5, cX5_withWhatFollows, 6, (some .int), "withWhatFollows", 0, 0)
theorem yF_X5_withWhatFollows : yF yX5_withWhatFollows M_X5_withWhatFollows 1 := ⟨w_209, w_198, by decide +kernel⟩
theorem yV_X5_withWhatFollows : Cond.instanceMethod yX5_withWhatFollows ∈ tbG ∧ Cond.selects yX5_withWhatFollows.cls yX5_withWhatFollows yX5_withWhatFollows ∈ tbG := ⟨w_210, w_211⟩
theorem dX5_withWhatFollows_0 : dI cX5_withWhatFollows 0 1 (.iload_n 1) 1 := ⟨by decide +kernel, rfl⟩
theorem dX5_withWhatFollows_1 : dI cX5_withWhatFollows 1 2 (.istore_n 2) 1 := ⟨by decide +kernel, rfl⟩
theorem dX5_withWhatFollows_2 : dI cX5_withWhatFollows 2 3 (.iconst 0) 1 := ⟨by decide +kernel, rfl⟩
theorem dX5_withWhatFollows_3 : dI cX5_withWhatFollows 3 4 (.istore_n 3) 1 := ⟨by decide +kernel, rfl⟩
theorem dX5_withWhatFollows_4 : dI cX5_withWhatFollows 4 5 (.iload_n 3) 1 := ⟨by decide +kernel, rfl⟩
theorem dX5_withWhatFollows_5 : dI cX5_withWhatFollows 5 6 (.aload_n 0) 1 := ⟨by decide +kernel, rfl⟩
theorem dX5_withWhatFollows_6 : dI cX5_withWhatFollows 6 9 (.getfield 18) 3 := ⟨by decide +kernel, rfl⟩
theorem dX5_withWhatFollows_9 : decode cX5_withWhatFollows 9 = .ok (.if_icmp .ge 68, 3) := by decide +kernel
theorem dX5_withWhatFollows_12 : dI cX5_withWhatFollows 12 13 (.iload_n 2) 1 := ⟨by decide +kernel, rfl⟩
theorem dX5_withWhatFollows_13 : dI cX5_withWhatFollows 13 15 (.istore 4) 2 := ⟨by decide +kernel, rfl⟩
theorem dX5_withWhatFollows_15 : dI cX5_withWhatFollows 15 16 (.iconst 0) 1 := ⟨by decide +kernel, rfl⟩
theorem dX5_withWhatFollows_16 : dI cX5_withWhatFollows 16 18 (.istore 5) 2 := ⟨by decide +kernel, rfl⟩
theorem dX5_withWhatFollows_18 : dI cX5_withWhatFollows 18 20 (.iload 5) 2 := ⟨by decide +kernel, rfl⟩
theorem dX5_withWhatFollows_20 : dI cX5_withWhatFollows 20 21 (.aload_n 0) 1 := ⟨by decide +kernel, rfl⟩
theorem dX5_withWhatFollows_21 : dI cX5_withWhatFollows 21 24 (.getfield 18) 3 := ⟨by decide +kernel, rfl⟩
theorem dX5_withWhatFollows_24 : decode cX5_withWhatFollows 24 = .ok (.if_icmp .ge 38, 3) := by decide +kernel
theorem dX5_withWhatFollows_27 : dI cX5_withWhatFollows 27 28 (.iload_n 2) 1 := ⟨by decide +kernel, rfl⟩
theorem dX5_withWhatFollows_28 : dI cX5_withWhatFollows 28 29 (.aload_n 0) 1 := ⟨by decide +kernel, rfl⟩
theorem dX5_withWhatFollows_29 : dI cX5_withWhatFollows 29 32 (.getfield 49) 3 := ⟨by decide +kernel, rfl⟩
theorem dX5_withWhatFollows_32 : dI cX5_withWhatFollows 32 34 (.iload 5) 2 := ⟨by decide +kernel, rfl⟩
theorem dX5_withWhatFollows_34 : dI cX5_withWhatFollows 34 35 (.iaload) 1 := ⟨by decide +kernel, rfl⟩
theorem dX5_withWhatFollows_35 : dI cX5_withWhatFollows 35 36 (.iand) 1 := ⟨by decide +kernel, rfl⟩
theorem dX5_withWhatFollows_36 : dI cX5_withWhatFollows 36 37 (.aload_n 0) 1 := ⟨by decide +kernel, rfl⟩
theorem dX5_withWhatFollows_37 : dI cX5_withWhatFollows 37 40 (.getfield 49) 3 := ⟨by decide +kernel, rfl⟩
theorem dX5_withWhatFollows_40 : dI cX5_withWhatFollows 40 42 (.iload 5) 2 := ⟨by decide +kernel, rfl⟩
theorem dX5_withWhatFollows_42 : dI cX5_withWhatFollows 42 43 (.iaload) 1 := ⟨by decide +kernel, rfl⟩
theorem dX5_withWhatFollows_43 : decode cX5_withWhatFollows 43 = .ok (.if_icmp .ne 13, 3) := by decide +kernel
theorem dX5_withWhatFollows_46 : dI cX5_withWhatFollows 46 47 (.iload_n 2) 1 := ⟨by decide +kernel, rfl⟩
theorem dX5_withWhatFollows_47 : dI cX5_withWhatFollows 47 48 (.aload_n 0) 1 := ⟨by decide +kernel, rfl⟩
theorem dX5_withWhatFollows_48 : dI cX5_withWhatFollows 48 51 (.getfield 52) 3 := ⟨by decide +kernel, rfl⟩
theorem dX5_withWhatFollows_51 : dI cX5_withWhatFollows 51 53 (.iload 5) 2 := ⟨by decide +kernel, rfl⟩
theorem dX5_withWhatFollows_53 : dI cX5_withWhatFollows 53 54 (.iaload) 1 := ⟨by decide +kernel, rfl⟩
theorem dX5_withWhatFollows_54 : dI cX5_withWhatFollows 54 55 (.ior) 1 := ⟨by decide +kernel, rfl⟩
theorem dX5_withWhatFollows_55 : dI cX5_withWhatFollows 55 56 (.istore_n 2) 1 := ⟨by decide +kernel, rfl⟩
theorem dX5_withWhatFollows_56 : dI cX5_withWhatFollows 56 59 (.iinc 5 1) 3 := ⟨by decide +kernel, rfl⟩
theorem dX5_withWhatFollows_59 : decode cX5_withWhatFollows 59 = .ok (.goto (-41), 3) := by decide +kernel
theorem dX5_withWhatFollows_62 : dI cX5_withWhatFollows 62 63 (.iload_n 2) 1 := ⟨by decide +kernel, rfl⟩
theorem dX5_withWhatFollows_63 : dI cX5_withWhatFollows 63 65 (.iload 4) 2 := ⟨by decide +kernel, rfl⟩
theorem dX5_withWhatFollows_65 : decode cX5_withWhatFollows 65 = .ok (.if_icmp .ne 6, 3) := by decide +kernel
theorem dX5_withWhatFollows_68 : decode cX5_withWhatFollows 68 = .ok (.goto 9, 3) := by decide +kernel
theorem dX5_withWhatFollows_71 : dI cX5_withWhatFollows 71 74 (.iinc 3 1) 3 := ⟨by decide +kernel, rfl⟩
theorem dX5_withWhatFollows_74 : decode cX5_withWhatFollows 74 = .ok (.goto (-70), 3) := by decide +kernel
theorem dX5_withWhatFollows_77 : dI cX5_withWhatFollows 77 78 (.iload_n 2) 1 := ⟨by decide +kernel, rfl⟩
theorem dX5_withWhatFollows_78 : dI cX5_withWhatFollows 78 79 (.ireturn) 1 := ⟨by decide +kernel, rfl⟩
def f_X5_withWhatFollows_b56 (k4 : Nat → Int32 → Int32 → hS → Option (Int32 × hS)) (k18 : Nat → Int32 → Int32 → Int32 → Int32 → hS → Option (Int32 × hS)) (l0 : Nat) (l2 : Int32) (l3 : Int32) (l4 : Int32) (l5 : Int32) (s : hS) : Option (Int32 × hS) :=
  k18 l0 l2 l3 l4 (l5 + (1 : Int32)) s
theorem b_X5_withWhatFollows_56 (E : jE) (k4 : Nat → Int32 → Int32 → hS → Option (Int32 × hS)) (h4 : ∀ (s : hS) (l0 : Nat) (l2 : Int32) (l3 : Int32) , Jo E M_X5_withWhatFollows cvI 4 [(0, .ref l0), (2, .int l2), (3, .int l3)] [] s (k4 l0 l2 l3 s)) (k18 : Nat → Int32 → Int32 → Int32 → Int32 → hS → Option (Int32 × hS)) (h18 : ∀ (s : hS) (l0 : Nat) (l2 : Int32) (l3 : Int32) (l4 : Int32) (l5 : Int32) , Jo E M_X5_withWhatFollows cvI 18 [(0, .ref l0), (2, .int l2), (3, .int l3), (4, .int l4), (5, .int l5)] [] s (k18 l0 l2 l3 l4 l5 s)) (s : hS) (l0 : Nat) (l2 : Int32) (l3 : Int32) (l4 : Int32) (l5 : Int32)  : Jo E M_X5_withWhatFollows cvI 56 [(0, .ref l0), (2, .int l2), (3, .int l3), (4, .int l4), (5, .int l5)] [] s (f_X5_withWhatFollows_b56 k4 k18 l0 l2 l3 l4 l5 s) := by
  unfold f_X5_withWhatFollows_b56
  refine Jo_iinc (v := (l5 + (1 : Int32))) (ls' := [(5, .int (l5 + (1 : Int32))), (0, .ref l0), (2, .int l2), (3, .int l3), (4, .int l4)]) 4 dX5_withWhatFollows_56 rfl rfl (by decide) rfl ?_
  refine Jo_goto 18 dX5_withWhatFollows_59 (by decide) ?_
  refine Jo_sub [1, 2, 3, 4, 0] rfl ?_
  exact h18 s l0 l2 l3 l4 (l5 + (1 : Int32))
def f_X5_withWhatFollows_b18 (k4 : Nat → Int32 → Int32 → hS → Option (Int32 × hS)) (k18 : Nat → Int32 → Int32 → Int32 → Int32 → hS → Option (Int32 × hS)) (l0 : Nat) (l2 : Int32) (l3 : Int32) (l4 : Int32) (l5 : Int32) (s : hS) : Option (Int32 × hS) :=
  (gI s l0 5 2).bind fun x1 =>
  if x1 ≤ l5 then
    if l2 = l4 then
      some (l2, s)
    else
      k4 l0 l2 (l3 + (1 : Int32)) s
  else
    (gR s l0 5 12).bind fun a2 =>
    (aI s a2 10 l5).bind fun x3 =>
    (gR s l0 5 12).bind fun a4 =>
    (aI s a4 10 l5).bind fun x5 =>
    if (l2 &&& x3) = x5 then
      (gR s l0 5 13).bind fun a6 =>
      (aI s a6 10 l5).bind fun x7 =>
      nmv ((l2 ||| x7)) fun x8 =>
      f_X5_withWhatFollows_b56 k4 k18 l0 x8 l3 l4 l5 s
    else
      f_X5_withWhatFollows_b56 k4 k18 l0 l2 l3 l4 l5 s
theorem b_X5_withWhatFollows_18 (E : jE) (k4 : Nat → Int32 → Int32 → hS → Option (Int32 × hS)) (h4 : ∀ (s : hS) (l0 : Nat) (l2 : Int32) (l3 : Int32) , Jo E M_X5_withWhatFollows cvI 4 [(0, .ref l0), (2, .int l2), (3, .int l3)] [] s (k4 l0 l2 l3 s)) (k18 : Nat → Int32 → Int32 → Int32 → Int32 → hS → Option (Int32 × hS)) (h18 : ∀ (s : hS) (l0 : Nat) (l2 : Int32) (l3 : Int32) (l4 : Int32) (l5 : Int32) , Jo E M_X5_withWhatFollows cvI 18 [(0, .ref l0), (2, .int l2), (3, .int l3), (4, .int l4), (5, .int l5)] [] s (k18 l0 l2 l3 l4 l5 s)) (s : hS) (l0 : Nat) (l2 : Int32) (l3 : Int32) (l4 : Int32) (l5 : Int32)  : Jo E M_X5_withWhatFollows cvI 18 [(0, .ref l0), (2, .int l2), (3, .int l3), (4, .int l4), (5, .int l5)] [] s (f_X5_withWhatFollows_b18 k4 k18 l0 l2 l3 l4 l5 s) := by
  unfold f_X5_withWhatFollows_b18
  refine Jo_iload 4 dX5_withWhatFollows_18 rfl ?_
  refine Jo_aloadn 0 dX5_withWhatFollows_20 rfl rfl ?_
  refine Jo_getI fF_5_2 fI_5_2 dX5_withWhatFollows_21 w_193 (fun x1 => ?_)
  refine Jo_icmp_ge 62 dX5_withWhatFollows_24 (by decide) rfl ?_ ?_
  · refine Jo_iloadn 1 dX5_withWhatFollows_62 rfl rfl ?_
    refine Jo_iload 3 dX5_withWhatFollows_63 rfl ?_
    refine Jo_icmp_ne 71 dX5_withWhatFollows_65 (by decide) rfl ?_ ?_
    · refine Jo_goto 77 dX5_withWhatFollows_68 (by decide) ?_
      refine Jo_iloadn 1 dX5_withWhatFollows_77 rfl rfl ?_
      exact Jo_iret rfl dX5_withWhatFollows_78
    · refine Jo_iinc (v := (l3 + (1 : Int32))) (ls' := [(3, .int (l3 + (1 : Int32))), (0, .ref l0), (2, .int l2), (4, .int l4), (5, .int l5)]) 2 dX5_withWhatFollows_71 rfl rfl (by decide) rfl ?_
      refine Jo_goto 4 dX5_withWhatFollows_74 (by decide) ?_
      refine Jo_sub [1, 2, 0] rfl ?_
      exact h4 s l0 l2 (l3 + (1 : Int32))
  · refine Jo_iloadn 1 dX5_withWhatFollows_27 rfl rfl ?_
    refine Jo_aloadn 0 dX5_withWhatFollows_28 rfl rfl ?_
    refine Jo_getR fF_5_12 fR_5_12 dX5_withWhatFollows_29 w_183 (fun a2 => ?_)
    refine Jo_iload 4 dX5_withWhatFollows_32 rfl ?_
    refine Jo_iaload dX5_withWhatFollows_34 (fun x3 => ?_)
    refine Jo_iand dX5_withWhatFollows_35 ?_
    refine Jo_aloadn 0 dX5_withWhatFollows_36 rfl rfl ?_
    refine Jo_getR fF_5_12 fR_5_12 dX5_withWhatFollows_37 w_183 (fun a4 => ?_)
    refine Jo_iload 4 dX5_withWhatFollows_40 rfl ?_
    refine Jo_iaload dX5_withWhatFollows_42 (fun x5 => ?_)
    refine Jo_icmp_ne 56 dX5_withWhatFollows_43 (by decide) rfl ?_ ?_
    · refine Jo_iloadn 1 dX5_withWhatFollows_46 rfl rfl ?_
      refine Jo_aloadn 0 dX5_withWhatFollows_47 rfl rfl ?_
      refine Jo_getR fF_5_13 fR_5_13 dX5_withWhatFollows_48 w_182 (fun a6 => ?_)
      refine Jo_iload 4 dX5_withWhatFollows_51 rfl ?_
      refine Jo_iaload dX5_withWhatFollows_53 (fun x7 => ?_)
      refine Jo_ior dX5_withWhatFollows_54 ?_
      refine Jo_nm (fun x8 => ?_)
      refine Jo_istoren (ls' := [(2, .int x8), (0, .ref l0), (3, .int l3), (4, .int l4), (5, .int l5)]) dX5_withWhatFollows_55 rfl (by decide) rfl ?_
      refine Jo_sub [1, 0, 2, 3, 4] rfl ?_
      exact b_X5_withWhatFollows_56 E k4 h4 k18 h18 s l0 x8 l3 l4 l5
    · exact b_X5_withWhatFollows_56 E k4 h4 k18 h18 s l0 l2 l3 l4 l5
theorem e_X5_withWhatFollows_18 (E : jE) (k4 : Nat → Int32 → Int32 → hS → Option (Int32 × hS)) (h4 : ∀ (s : hS) (l0 : Nat) (l2 : Int32) (l3 : Int32) , Jo E M_X5_withWhatFollows cvI 4 [(0, .ref l0), (2, .int l2), (3, .int l3)] [] s (k4 l0 l2 l3 s)) (n : Nat) : ∀ (s : hS) (l0 : Nat) (l2 : Int32) (l3 : Int32) (l4 : Int32) (l5 : Int32) , Jo E M_X5_withWhatFollows cvI 18 [(0, .ref l0), (2, .int l2), (3, .int l3), (4, .int l4), (5, .int l5)] [] s ((jL (f_X5_withWhatFollows_b18 k4) (fun _ _ _ _ _ _ => none) n) l0 l2 l3 l4 l5 s) :=
  jL_ind (P := fun f => ∀ (s : hS) (l0 : Nat) (l2 : Int32) (l3 : Int32) (l4 : Int32) (l5 : Int32) , Jo E M_X5_withWhatFollows cvI 18 [(0, .ref l0), (2, .int l2), (3, .int l3), (4, .int l4), (5, .int l5)] [] s (f l0 l2 l3 l4 l5 s)) (fun _ _ _ _ _ _ => Jo_none) (fun b hb s l0 l2 l3 l4 l5 => b_X5_withWhatFollows_18 E k4 h4 b hb s l0 l2 l3 l4 l5) n
def f_X5_withWhatFollows_b4 (k4 : Nat → Int32 → Int32 → hS → Option (Int32 × hS)) (l0 : Nat) (l2 : Int32) (l3 : Int32) (s : hS) : Option (Int32 × hS) :=
  (gI s l0 5 2).bind fun x1 =>
  if x1 ≤ l3 then
    some (l2, s)
  else
    jL (f_X5_withWhatFollows_b18 k4) (fun _ _ _ _ _ _ => none) jF l0 l2 l3 l2 (0 : Int32) s
theorem b_X5_withWhatFollows_4 (E : jE) (k4 : Nat → Int32 → Int32 → hS → Option (Int32 × hS)) (h4 : ∀ (s : hS) (l0 : Nat) (l2 : Int32) (l3 : Int32) , Jo E M_X5_withWhatFollows cvI 4 [(0, .ref l0), (2, .int l2), (3, .int l3)] [] s (k4 l0 l2 l3 s)) (s : hS) (l0 : Nat) (l2 : Int32) (l3 : Int32)  : Jo E M_X5_withWhatFollows cvI 4 [(0, .ref l0), (2, .int l2), (3, .int l3)] [] s (f_X5_withWhatFollows_b4 k4 l0 l2 l3 s) := by
  unfold f_X5_withWhatFollows_b4
  refine Jo_iloadn 2 dX5_withWhatFollows_4 rfl rfl ?_
  refine Jo_aloadn 0 dX5_withWhatFollows_5 rfl rfl ?_
  refine Jo_getI fF_5_2 fI_5_2 dX5_withWhatFollows_6 w_193 (fun x1 => ?_)
  refine Jo_icmp_ge 77 dX5_withWhatFollows_9 (by decide) rfl ?_ ?_
  · refine Jo_iloadn 1 dX5_withWhatFollows_77 rfl rfl ?_
    exact Jo_iret rfl dX5_withWhatFollows_78
  · refine Jo_iloadn 1 dX5_withWhatFollows_12 rfl rfl ?_
    refine Jo_istore (ls' := [(4, .int l2), (0, .ref l0), (2, .int l2), (3, .int l3)]) dX5_withWhatFollows_13 (by decide) rfl ?_
    refine Jo_iconst (v := (0 : Int32)) dX5_withWhatFollows_15 (by decide) ?_
    refine Jo_istore (ls' := [(5, .int (0 : Int32)), (4, .int l2), (0, .ref l0), (2, .int l2), (3, .int l3)]) dX5_withWhatFollows_16 (by decide) rfl ?_
    refine Jo_sub [2, 3, 4, 1, 0] rfl ?_
    exact e_X5_withWhatFollows_18 E k4 h4 jF s l0 l2 l3 l2 (0 : Int32)
theorem e_X5_withWhatFollows_4 (E : jE)  (n : Nat) : ∀ (s : hS) (l0 : Nat) (l2 : Int32) (l3 : Int32) , Jo E M_X5_withWhatFollows cvI 4 [(0, .ref l0), (2, .int l2), (3, .int l3)] [] s ((jL f_X5_withWhatFollows_b4 (fun _ _ _ _ => none) n) l0 l2 l3 s) :=
  jL_ind (P := fun f => ∀ (s : hS) (l0 : Nat) (l2 : Int32) (l3 : Int32) , Jo E M_X5_withWhatFollows cvI 4 [(0, .ref l0), (2, .int l2), (3, .int l3)] [] s (f l0 l2 l3 s)) (fun _ _ _ _ => Jo_none) (fun b hb s l0 l2 l3 => b_X5_withWhatFollows_4 E  b hb s l0 l2 l3) n
def f_X5_withWhatFollows (s : hS) (a0 : Nat) (i1 : Int32) : Option (Int32 × hS) :=
  jL f_X5_withWhatFollows_b4 (fun _ _ _ _ => none) jF a0 i1 (0 : Int32) s
theorem b_X5_withWhatFollows_in (E : jE)  (s : hS) (a0 : Nat) (i1 : Int32)  : Jo E M_X5_withWhatFollows cvI 0 [(0, .ref a0), (1, .int i1)] [] s (f_X5_withWhatFollows s a0 i1) := by
  unfold f_X5_withWhatFollows
  refine Jo_iloadn 1 dX5_withWhatFollows_0 rfl rfl ?_
  refine Jo_istoren (ls' := [(2, .int i1), (0, .ref a0), (1, .int i1)]) dX5_withWhatFollows_1 rfl (by decide) rfl ?_
  refine Jo_iconst (v := (0 : Int32)) dX5_withWhatFollows_2 (by decide) ?_
  refine Jo_istoren (ls' := [(3, .int (0 : Int32)), (2, .int i1), (0, .ref a0), (1, .int i1)]) dX5_withWhatFollows_3 rfl (by decide) rfl ?_
  refine Jo_sub [2, 1, 0] rfl ?_
  exact e_X5_withWhatFollows_4 E jF s a0 i1 (0 : Int32)
theorem K_X5_withWhatFollows (E : jE) (s : hS) (a0 : Nat) (i1 : Int32) : jK E yX5_withWhatFollows M_X5_withWhatFollows cvI [.ref a0, .int i1] s (f_X5_withWhatFollows s a0 i1) := jK_of ⟨by decide, rfl, rfl⟩ (Nat.le_of_ble_eq_true rfl) (b_X5_withWhatFollows_in E s a0 i1)
