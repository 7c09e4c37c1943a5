/-! Written by wip/whole/gen. Names and words of what is walked by hand. -/
abbrev b_W_act : ByteArray := prog_1_method_31_code
abbrev y_W_act : MethodName := ⟨"WhoRules", "act", "(III)I"⟩
theorem d_W_act_0 : decode b_W_act 0 = .ok (.aload_n 0, 1) := by decide +kernel
theorem d_W_act_1 : decode b_W_act 1 = .ok (.getfield 11, 3) := by decide +kernel
theorem d_W_act_4 : decode b_W_act 4 = .ok (.bipush 20, 2) := by decide +kernel
theorem d_W_act_6 : decode b_W_act 6 = .ok (.iconst 0, 1) := by decide +kernel
theorem d_W_act_7 : decode b_W_act 7 = .ok (.iastore, 1) := by decide +kernel
theorem d_W_act_8 : decode b_W_act 8 = .ok (.aload_n 0, 1) := by decide +kernel
theorem d_W_act_9 : decode b_W_act 9 = .ok (.getfield 18, 3) := by decide +kernel
theorem d_W_act_12 : decode b_W_act 12 = .ok (.iload_n 1, 1) := by decide +kernel
theorem d_W_act_13 : decode b_W_act 13 = .ok (.invokevirtual 291, 3) := by decide +kernel
theorem d_W_act_16 : decode b_W_act 16 = .ok (.astore 4, 2) := by decide +kernel
theorem d_W_act_18 : decode b_W_act 18 = .ok (.aload 4, 2) := by decide +kernel
theorem d_W_act_20 : decode b_W_act 20 = .ok (.ifnonnull 5, 3) := by decide +kernel
theorem d_W_act_23 : decode b_W_act 23 = .ok (.iconst 0, 1) := by decide +kernel
theorem d_W_act_24 : decode b_W_act 24 = .ok (.ireturn, 1) := by decide +kernel
theorem d_W_act_25 : decode b_W_act 25 = .ok (.iload_n 2, 1) := by decide +kernel
theorem d_W_act_26 : decode b_W_act 26 = .ok (.tableswitch 47 0 2 #[26, 33, 40], 26) := by decide +kernel
theorem d_W_act_52 : decode b_W_act 52 = .ok (.aload 4, 2) := by decide +kernel
theorem d_W_act_54 : decode b_W_act 54 = .ok (.iload_n 3, 1) := by decide +kernel
theorem d_W_act_55 : decode b_W_act 55 = .ok (.invokevirtual 295, 3) := by decide +kernel
theorem d_W_act_58 : decode b_W_act 58 = .ok (.ireturn, 1) := by decide +kernel
theorem d_W_act_59 : decode b_W_act 59 = .ok (.aload 4, 2) := by decide +kernel
theorem d_W_act_61 : decode b_W_act 61 = .ok (.iload_n 3, 1) := by decide +kernel
theorem d_W_act_62 : decode b_W_act 62 = .ok (.invokevirtual 300, 3) := by decide +kernel
theorem d_W_act_65 : decode b_W_act 65 = .ok (.ireturn, 1) := by decide +kernel
theorem d_W_act_66 : decode b_W_act 66 = .ok (.aload 4, 2) := by decide +kernel
theorem d_W_act_68 : decode b_W_act 68 = .ok (.iload_n 3, 1) := by decide +kernel
theorem d_W_act_69 : decode b_W_act 69 = .ok (.invokevirtual 303, 3) := by decide +kernel
theorem d_W_act_72 : decode b_W_act 72 = .ok (.ireturn, 1) := by decide +kernel
theorem d_W_act_73 : decode b_W_act 73 = .ok (.iconst 0, 1) := by decide +kernel
theorem d_W_act_74 : decode b_W_act 74 = .ok (.ireturn, 1) := by decide +kernel
abbrev b_W_taken : ByteArray := prog_1_method_33_code
abbrev y_W_taken : MethodName := ⟨"WhoRules", "taken", "(II)I"⟩
theorem d_W_taken_0 : decode b_W_taken 0 = .ok (.iload_n 2, 1) := by decide +kernel
theorem d_W_taken_1 : decode b_W_taken 1 = .ok (.ifCond .lt 8, 3) := by decide +kernel
theorem d_W_taken_4 : decode b_W_taken 4 = .ok (.iload_n 2, 1) := by decide +kernel
theorem d_W_taken_5 : decode b_W_taken 5 = .ok (.iconst 5, 1) := by decide +kernel
theorem d_W_taken_6 : decode b_W_taken 6 = .ok (.if_icmp .le 6, 3) := by decide +kernel
theorem d_W_taken_9 : decode b_W_taken 9 = .ok (.bipush (-2), 2) := by decide +kernel
theorem d_W_taken_11 : decode b_W_taken 11 = .ok (.ireturn, 1) := by decide +kernel
theorem d_W_taken_12 : decode b_W_taken 12 = .ok (.aload_n 0, 1) := by decide +kernel
theorem d_W_taken_13 : decode b_W_taken 13 = .ok (.getfield 18, 3) := by decide +kernel
theorem d_W_taken_16 : decode b_W_taken 16 = .ok (.iload_n 1, 1) := by decide +kernel
theorem d_W_taken_17 : decode b_W_taken 17 = .ok (.invokevirtual 291, 3) := by decide +kernel
theorem d_W_taken_20 : decode b_W_taken 20 = .ok (.astore_n 3, 1) := by decide +kernel
theorem d_W_taken_21 : decode b_W_taken 21 = .ok (.aload_n 3, 1) := by decide +kernel
theorem d_W_taken_22 : decode b_W_taken 22 = .ok (.ifnonnull 6, 3) := by decide +kernel
theorem d_W_taken_25 : decode b_W_taken 25 = .ok (.bipush (-11), 2) := by decide +kernel
theorem d_W_taken_27 : decode b_W_taken 27 = .ok (.ireturn, 1) := by decide +kernel
theorem d_W_taken_28 : decode b_W_taken 28 = .ok (.aload_n 3, 1) := by decide +kernel
theorem d_W_taken_29 : decode b_W_taken 29 = .ok (.iload_n 2, 1) := by decide +kernel
theorem d_W_taken_30 : decode b_W_taken 30 = .ok (.invokevirtual 306, 3) := by decide +kernel
theorem d_W_taken_33 : decode b_W_taken 33 = .ok (.ifCond .eq 15, 3) := by decide +kernel
theorem d_W_taken_36 : decode b_W_taken 36 = .ok (.aload_n 0, 1) := by decide +kernel
theorem d_W_taken_37 : decode b_W_taken 37 = .ok (.getfield 18, 3) := by decide +kernel
theorem d_W_taken_40 : decode b_W_taken 40 = .ok (.getfield 309, 3) := by decide +kernel
theorem d_W_taken_43 : decode b_W_taken 43 = .ok (.iload_n 1, 1) := by decide +kernel
theorem d_W_taken_44 : decode b_W_taken 44 = .ok (.iaload, 1) := by decide +kernel
theorem d_W_taken_45 : decode b_W_taken 45 = .ok (.goto 5, 3) := by decide +kernel
theorem d_W_taken_48 : decode b_W_taken 48 = .ok (.bipush (-12), 2) := by decide +kernel
theorem d_W_taken_50 : decode b_W_taken 50 = .ok (.ireturn, 1) := by decide +kernel
abbrev b_W_holder : ByteArray := prog_1_method_3_code
abbrev y_W_holder : MethodName := ⟨"WhoRules", "holder", "(II)I"⟩
theorem d_W_holder_0 : decode b_W_holder 0 = .ok (.iload_n 1, 1) := by decide +kernel
theorem d_W_holder_1 : decode b_W_holder 1 = .ok (.ifCond .lt 8, 3) := by decide +kernel
theorem d_W_holder_4 : decode b_W_holder 4 = .ok (.iload_n 1, 1) := by decide +kernel
theorem d_W_holder_5 : decode b_W_holder 5 = .ok (.iconst 5, 1) := by decide +kernel
theorem d_W_holder_6 : decode b_W_holder 6 = .ok (.if_icmp .le 5, 3) := by decide +kernel
theorem d_W_holder_9 : decode b_W_holder 9 = .ok (.iconst (-1), 1) := by decide +kernel
theorem d_W_holder_10 : decode b_W_holder 10 = .ok (.ireturn, 1) := by decide +kernel
theorem d_W_holder_11 : decode b_W_holder 11 = .ok (.iload_n 1, 1) := by decide +kernel
theorem d_W_holder_12 : decode b_W_holder 12 = .ok (.iconst 3, 1) := by decide +kernel
theorem d_W_holder_13 : decode b_W_holder 13 = .ok (.if_icmp .ne 14, 3) := by decide +kernel
theorem d_W_holder_16 : decode b_W_holder 16 = .ok (.iload_n 2, 1) := by decide +kernel
theorem d_W_holder_17 : decode b_W_holder 17 = .ok (.ifCond .lt 8, 3) := by decide +kernel
theorem d_W_holder_20 : decode b_W_holder 20 = .ok (.iload_n 2, 1) := by decide +kernel
theorem d_W_holder_21 : decode b_W_holder 21 = .ok (.iconst 4, 1) := by decide +kernel
theorem d_W_holder_22 : decode b_W_holder 22 = .ok (.if_icmp .lt 5, 3) := by decide +kernel
theorem d_W_holder_25 : decode b_W_holder 25 = .ok (.iconst (-1), 1) := by decide +kernel
theorem d_W_holder_26 : decode b_W_holder 26 = .ok (.ireturn, 1) := by decide +kernel
theorem d_W_holder_27 : decode b_W_holder 27 = .ok (.aload_n 0, 1) := by decide +kernel
theorem d_W_holder_28 : decode b_W_holder 28 = .ok (.getfield 18, 3) := by decide +kernel
theorem d_W_holder_31 : decode b_W_holder 31 = .ok (.iload_n 1, 1) := by decide +kernel
theorem d_W_holder_32 : decode b_W_holder 32 = .ok (.iload_n 1, 1) := by decide +kernel
theorem d_W_holder_33 : decode b_W_holder 33 = .ok (.iconst 3, 1) := by decide +kernel
theorem d_W_holder_34 : decode b_W_holder 34 = .ok (.if_icmp .ne 7, 3) := by decide +kernel
theorem d_W_holder_37 : decode b_W_holder 37 = .ok (.iload_n 2, 1) := by decide +kernel
theorem d_W_holder_38 : decode b_W_holder 38 = .ok (.goto 4, 3) := by decide +kernel
theorem d_W_holder_41 : decode b_W_holder 41 = .ok (.iconst 0, 1) := by decide +kernel
theorem d_W_holder_42 : decode b_W_holder 42 = .ok (.aload_n 0, 1) := by decide +kernel
theorem d_W_holder_43 : decode b_W_holder 43 = .ok (.getfield 11, 3) := by decide +kernel
theorem d_W_holder_46 : decode b_W_holder 46 = .ok (.invokevirtual 83, 3) := by decide +kernel
theorem d_W_holder_49 : decode b_W_holder 49 = .ok (.ireturn, 1) := by decide +kernel
abbrev b_R_holderAt : ByteArray := prog_10_method_9_code
abbrev y_R_holderAt : MethodName := ⟨"WhoRules$Register", "holderAt", "(I)LWhoRules$Holder;"⟩
theorem d_R_holderAt_0 : decode b_R_holderAt 0 = .ok (.aload_n 0, 1) := by decide +kernel
theorem d_R_holderAt_1 : decode b_R_holderAt 1 = .ok (.iload_n 1, 1) := by decide +kernel
theorem d_R_holderAt_2 : decode b_R_holderAt 2 = .ok (.invokevirtual 61, 3) := by decide +kernel
theorem d_R_holderAt_5 : decode b_R_holderAt 5 = .ok (.ifCond .eq 12, 3) := by decide +kernel
theorem d_R_holderAt_8 : decode b_R_holderAt 8 = .ok (.aload_n 0, 1) := by decide +kernel
theorem d_R_holderAt_9 : decode b_R_holderAt 9 = .ok (.getfield 11, 3) := by decide +kernel
theorem d_R_holderAt_12 : decode b_R_holderAt 12 = .ok (.iload_n 1, 1) := by decide +kernel
theorem d_R_holderAt_13 : decode b_R_holderAt 13 = .ok (.aaload, 1) := by decide +kernel
theorem d_R_holderAt_14 : decode b_R_holderAt 14 = .ok (.goto 4, 3) := by decide +kernel
theorem d_R_holderAt_17 : decode b_R_holderAt 17 = .ok (.aconst_null, 1) := by decide +kernel
theorem d_R_holderAt_18 : decode b_R_holderAt 18 = .ok (.areturn, 1) := by decide +kernel
abbrev b_R_headOf : ByteArray := prog_10_method_12_code
abbrev y_R_headOf : MethodName := ⟨"WhoRules$Register", "headOf", "(II)I"⟩
theorem d_R_headOf_0 : decode b_R_headOf 0 = .ok (.iconst 0, 1) := by decide +kernel
theorem d_R_headOf_1 : decode b_R_headOf 1 = .ok (.istore_n 3, 1) := by decide +kernel
theorem d_R_headOf_2 : decode b_R_headOf 2 = .ok (.iload_n 3, 1) := by decide +kernel
theorem d_R_headOf_3 : decode b_R_headOf 3 = .ok (.iload_n 2, 1) := by decide +kernel
theorem d_R_headOf_4 : decode b_R_headOf 4 = .ok (.if_icmp .ge 43, 3) := by decide +kernel
theorem d_R_headOf_7 : decode b_R_headOf 7 = .ok (.aload_n 0, 1) := by decide +kernel
theorem d_R_headOf_8 : decode b_R_headOf 8 = .ok (.getfield 17, 3) := by decide +kernel
theorem d_R_headOf_11 : decode b_R_headOf 11 = .ok (.iload_n 3, 1) := by decide +kernel
theorem d_R_headOf_12 : decode b_R_headOf 12 = .ok (.iaload, 1) := by decide +kernel
theorem d_R_headOf_13 : decode b_R_headOf 13 = .ok (.iconst 3, 1) := by decide +kernel
theorem d_R_headOf_14 : decode b_R_headOf 14 = .ok (.if_icmp .ne 27, 3) := by decide +kernel
theorem d_R_headOf_17 : decode b_R_headOf 17 = .ok (.aload_n 0, 1) := by decide +kernel
theorem d_R_headOf_18 : decode b_R_headOf 18 = .ok (.getfield 11, 3) := by decide +kernel
theorem d_R_headOf_21 : decode b_R_headOf 21 = .ok (.iload_n 3, 1) := by decide +kernel
theorem d_R_headOf_22 : decode b_R_headOf 22 = .ok (.aaload, 1) := by decide +kernel
theorem d_R_headOf_23 : decode b_R_headOf 23 = .ok (.ifnull 18, 3) := by decide +kernel
theorem d_R_headOf_26 : decode b_R_headOf 26 = .ok (.aload_n 0, 1) := by decide +kernel
theorem d_R_headOf_27 : decode b_R_headOf 27 = .ok (.getfield 11, 3) := by decide +kernel
theorem d_R_headOf_30 : decode b_R_headOf 30 = .ok (.iload_n 3, 1) := by decide +kernel
theorem d_R_headOf_31 : decode b_R_headOf 31 = .ok (.aaload, 1) := by decide +kernel
theorem d_R_headOf_32 : decode b_R_headOf 32 = .ok (.getfield 108, 3) := by decide +kernel
theorem d_R_headOf_35 : decode b_R_headOf 35 = .ok (.iload_n 1, 1) := by decide +kernel
theorem d_R_headOf_36 : decode b_R_headOf 36 = .ok (.if_icmp .ne 5, 3) := by decide +kernel
theorem d_R_headOf_39 : decode b_R_headOf 39 = .ok (.iload_n 3, 1) := by decide +kernel
theorem d_R_headOf_40 : decode b_R_headOf 40 = .ok (.ireturn, 1) := by decide +kernel
theorem d_R_headOf_41 : decode b_R_headOf 41 = .ok (.iinc 3 1, 3) := by decide +kernel
theorem d_R_headOf_44 : decode b_R_headOf 44 = .ok (.goto (-42), 3) := by decide +kernel
theorem d_R_headOf_47 : decode b_R_headOf 47 = .ok (.iload_n 2, 1) := by decide +kernel
theorem d_R_headOf_48 : decode b_R_headOf 48 = .ok (.ireturn, 1) := by decide +kernel
abbrev b_R_made : ByteArray := prog_10_method_11_code
abbrev y_R_made : MethodName := ⟨"WhoRules$Register", "made", "(III[I)LWhoRules$Holder;"⟩
theorem d_R_made_0 : decode b_R_made 0 = .ok (.iload_n 0, 1) := by decide +kernel
theorem d_R_made_1 : decode b_R_made 1 = .ok (.tableswitch 87 1 5 #[35, 45, 56, 67, 77], 35) := by decide +kernel
theorem d_R_made_36 : decode b_R_made 36 = .ok (.new 88, 3) := by decide +kernel
theorem d_R_made_39 : decode b_R_made 39 = .ok (.dup, 1) := by decide +kernel
theorem d_R_made_40 : decode b_R_made 40 = .ok (.iload_n 1, 1) := by decide +kernel
theorem d_R_made_41 : decode b_R_made 41 = .ok (.aload_n 3, 1) := by decide +kernel
theorem d_R_made_42 : decode b_R_made 42 = .ok (.invokespecial 90, 3) := by decide +kernel
theorem d_R_made_45 : decode b_R_made 45 = .ok (.areturn, 1) := by decide +kernel
theorem d_R_made_46 : decode b_R_made 46 = .ok (.new 93, 3) := by decide +kernel
theorem d_R_made_49 : decode b_R_made 49 = .ok (.dup, 1) := by decide +kernel
theorem d_R_made_50 : decode b_R_made 50 = .ok (.iload_n 1, 1) := by decide +kernel
theorem d_R_made_51 : decode b_R_made 51 = .ok (.iconst 0, 1) := by decide +kernel
theorem d_R_made_52 : decode b_R_made 52 = .ok (.aload_n 3, 1) := by decide +kernel
theorem d_R_made_53 : decode b_R_made 53 = .ok (.invokespecial 95, 3) := by decide +kernel
theorem d_R_made_56 : decode b_R_made 56 = .ok (.areturn, 1) := by decide +kernel
theorem d_R_made_57 : decode b_R_made 57 = .ok (.new 98, 3) := by decide +kernel
theorem d_R_made_60 : decode b_R_made 60 = .ok (.dup, 1) := by decide +kernel
theorem d_R_made_61 : decode b_R_made 61 = .ok (.iload_n 1, 1) := by decide +kernel
theorem d_R_made_62 : decode b_R_made 62 = .ok (.iload_n 2, 1) := by decide +kernel
theorem d_R_made_63 : decode b_R_made 63 = .ok (.aload_n 3, 1) := by decide +kernel
theorem d_R_made_64 : decode b_R_made 64 = .ok (.invokespecial 100, 3) := by decide +kernel
theorem d_R_made_67 : decode b_R_made 67 = .ok (.areturn, 1) := by decide +kernel
theorem d_R_made_68 : decode b_R_made 68 = .ok (.new 101, 3) := by decide +kernel
theorem d_R_made_71 : decode b_R_made 71 = .ok (.dup, 1) := by decide +kernel
theorem d_R_made_72 : decode b_R_made 72 = .ok (.iload_n 1, 1) := by decide +kernel
theorem d_R_made_73 : decode b_R_made 73 = .ok (.aload_n 3, 1) := by decide +kernel
theorem d_R_made_74 : decode b_R_made 74 = .ok (.invokespecial 103, 3) := by decide +kernel
theorem d_R_made_77 : decode b_R_made 77 = .ok (.areturn, 1) := by decide +kernel
theorem d_R_made_78 : decode b_R_made 78 = .ok (.new 104, 3) := by decide +kernel
theorem d_R_made_81 : decode b_R_made 81 = .ok (.dup, 1) := by decide +kernel
theorem d_R_made_82 : decode b_R_made 82 = .ok (.iload_n 1, 1) := by decide +kernel
theorem d_R_made_83 : decode b_R_made 83 = .ok (.aload_n 3, 1) := by decide +kernel
theorem d_R_made_84 : decode b_R_made 84 = .ok (.invokespecial 106, 3) := by decide +kernel
theorem d_R_made_87 : decode b_R_made 87 = .ok (.areturn, 1) := by decide +kernel
theorem d_R_made_88 : decode b_R_made 88 = .ok (.new 9, 3) := by decide +kernel
theorem d_R_made_91 : decode b_R_made 91 = .ok (.dup, 1) := by decide +kernel
theorem d_R_made_92 : decode b_R_made 92 = .ok (.iload_n 1, 1) := by decide +kernel
theorem d_R_made_93 : decode b_R_made 93 = .ok (.iconst 0, 1) := by decide +kernel
theorem d_R_made_94 : decode b_R_made 94 = .ok (.aload_n 3, 1) := by decide +kernel
theorem d_R_made_95 : decode b_R_made 95 = .ok (.invokespecial 107, 3) := by decide +kernel
theorem d_R_made_98 : decode b_R_made 98 = .ok (.areturn, 1) := by decide +kernel
abbrev b_R_enter : ByteArray := prog_10_method_10_code
abbrev y_R_enter : MethodName := ⟨"WhoRules$Register", "enter", "(II[I)I"⟩
theorem d_R_enter_0 : decode b_R_enter 0 = .ok (.aload_n 0, 1) := by decide +kernel
theorem d_R_enter_1 : decode b_R_enter 1 = .ok (.getfield 57, 3) := by decide +kernel
theorem d_R_enter_4 : decode b_R_enter 4 = .ok (.bipush 16, 2) := by decide +kernel
theorem d_R_enter_6 : decode b_R_enter 6 = .ok (.if_icmp .ge 17, 3) := by decide +kernel
theorem d_R_enter_9 : decode b_R_enter 9 = .ok (.iload_n 1, 1) := by decide +kernel
theorem d_R_enter_10 : decode b_R_enter 10 = .ok (.iconst 1, 1) := by decide +kernel
theorem d_R_enter_11 : decode b_R_enter 11 = .ok (.if_icmp .ne 15, 3) := by decide +kernel
theorem d_R_enter_14 : decode b_R_enter 14 = .ok (.aload_n 0, 1) := by decide +kernel
theorem d_R_enter_15 : decode b_R_enter 15 = .ok (.getfield 71, 3) := by decide +kernel
theorem d_R_enter_18 : decode b_R_enter 18 = .ok (.bipush 7, 2) := by decide +kernel
theorem d_R_enter_20 : decode b_R_enter 20 = .ok (.if_icmp .lt 6, 3) := by decide +kernel
theorem d_R_enter_23 : decode b_R_enter 23 = .ok (.bipush (-4), 2) := by decide +kernel
theorem d_R_enter_25 : decode b_R_enter 25 = .ok (.ireturn, 1) := by decide +kernel
theorem d_R_enter_26 : decode b_R_enter 26 = .ok (.aload_n 0, 1) := by decide +kernel
theorem d_R_enter_27 : decode b_R_enter 27 = .ok (.getfield 57, 3) := by decide +kernel
theorem d_R_enter_30 : decode b_R_enter 30 = .ok (.istore 4, 2) := by decide +kernel
theorem d_R_enter_32 : decode b_R_enter 32 = .ok (.aload_n 0, 1) := by decide +kernel
theorem d_R_enter_33 : decode b_R_enter 33 = .ok (.getfield 11, 3) := by decide +kernel
theorem d_R_enter_36 : decode b_R_enter 36 = .ok (.iload 4, 2) := by decide +kernel
theorem d_R_enter_38 : decode b_R_enter 38 = .ok (.iload_n 1, 1) := by decide +kernel
theorem d_R_enter_39 : decode b_R_enter 39 = .ok (.iload 4, 2) := by decide +kernel
theorem d_R_enter_41 : decode b_R_enter 41 = .ok (.iload_n 2, 1) := by decide +kernel
theorem d_R_enter_42 : decode b_R_enter 42 = .ok (.aload_n 3, 1) := by decide +kernel
theorem d_R_enter_43 : decode b_R_enter 43 = .ok (.invokestatic 74, 3) := by decide +kernel
theorem d_R_enter_46 : decode b_R_enter 46 = .ok (.aastore, 1) := by decide +kernel
theorem d_R_enter_47 : decode b_R_enter 47 = .ok (.aload_n 0, 1) := by decide +kernel
theorem d_R_enter_48 : decode b_R_enter 48 = .ok (.getfield 17, 3) := by decide +kernel
theorem d_R_enter_51 : decode b_R_enter 51 = .ok (.iload 4, 2) := by decide +kernel
theorem d_R_enter_53 : decode b_R_enter 53 = .ok (.iload_n 1, 1) := by decide +kernel
theorem d_R_enter_54 : decode b_R_enter 54 = .ok (.iastore, 1) := by decide +kernel
theorem d_R_enter_55 : decode b_R_enter 55 = .ok (.aload_n 0, 1) := by decide +kernel
theorem d_R_enter_56 : decode b_R_enter 56 = .ok (.getfield 21, 3) := by decide +kernel
theorem d_R_enter_59 : decode b_R_enter 59 = .ok (.iload 4, 2) := by decide +kernel
theorem d_R_enter_61 : decode b_R_enter 61 = .ok (.iload_n 1, 1) := by decide +kernel
theorem d_R_enter_62 : decode b_R_enter 62 = .ok (.iconst 3, 1) := by decide +kernel
theorem d_R_enter_63 : decode b_R_enter 63 = .ok (.if_icmp .ne 13, 3) := by decide +kernel
theorem d_R_enter_66 : decode b_R_enter 66 = .ok (.aload_n 0, 1) := by decide +kernel
theorem d_R_enter_67 : decode b_R_enter 67 = .ok (.iload_n 2, 1) := by decide +kernel
theorem d_R_enter_68 : decode b_R_enter 68 = .ok (.iload 4, 2) := by decide +kernel
theorem d_R_enter_70 : decode b_R_enter 70 = .ok (.invokevirtual 78, 3) := by decide +kernel
theorem d_R_enter_73 : decode b_R_enter 73 = .ok (.goto 5, 3) := by decide +kernel
theorem d_R_enter_76 : decode b_R_enter 76 = .ok (.iload 4, 2) := by decide +kernel
theorem d_R_enter_78 : decode b_R_enter 78 = .ok (.iastore, 1) := by decide +kernel
theorem d_R_enter_79 : decode b_R_enter 79 = .ok (.aload_n 0, 1) := by decide +kernel
theorem d_R_enter_80 : decode b_R_enter 80 = .ok (.dup, 1) := by decide +kernel
theorem d_R_enter_81 : decode b_R_enter 81 = .ok (.getfield 57, 3) := by decide +kernel
theorem d_R_enter_84 : decode b_R_enter 84 = .ok (.iconst 1, 1) := by decide +kernel
theorem d_R_enter_85 : decode b_R_enter 85 = .ok (.iadd, 1) := by decide +kernel
theorem d_R_enter_86 : decode b_R_enter 86 = .ok (.putfield 57, 3) := by decide +kernel
theorem d_R_enter_89 : decode b_R_enter 89 = .ok (.iload_n 1, 1) := by decide +kernel
theorem d_R_enter_90 : decode b_R_enter 90 = .ok (.iconst 1, 1) := by decide +kernel
theorem d_R_enter_91 : decode b_R_enter 91 = .ok (.if_icmp .ne 24, 3) := by decide +kernel
theorem d_R_enter_94 : decode b_R_enter 94 = .ok (.aload_n 0, 1) := by decide +kernel
theorem d_R_enter_95 : decode b_R_enter 95 = .ok (.getfield 24, 3) := by decide +kernel
theorem d_R_enter_98 : decode b_R_enter 98 = .ok (.aload_n 0, 1) := by decide +kernel
theorem d_R_enter_99 : decode b_R_enter 99 = .ok (.getfield 71, 3) := by decide +kernel
theorem d_R_enter_102 : decode b_R_enter 102 = .ok (.iload 4, 2) := by decide +kernel
theorem d_R_enter_104 : decode b_R_enter 104 = .ok (.iastore, 1) := by decide +kernel
theorem d_R_enter_105 : decode b_R_enter 105 = .ok (.aload_n 0, 1) := by decide +kernel
theorem d_R_enter_106 : decode b_R_enter 106 = .ok (.dup, 1) := by decide +kernel
theorem d_R_enter_107 : decode b_R_enter 107 = .ok (.getfield 71, 3) := by decide +kernel
theorem d_R_enter_110 : decode b_R_enter 110 = .ok (.iconst 1, 1) := by decide +kernel
theorem d_R_enter_111 : decode b_R_enter 111 = .ok (.iadd, 1) := by decide +kernel
theorem d_R_enter_112 : decode b_R_enter 112 = .ok (.putfield 71, 3) := by decide +kernel
theorem d_R_enter_115 : decode b_R_enter 115 = .ok (.aload_n 0, 1) := by decide +kernel
theorem d_R_enter_116 : decode b_R_enter 116 = .ok (.iload 4, 2) := by decide +kernel
theorem d_R_enter_118 : decode b_R_enter 118 = .ok (.invokevirtual 82, 3) := by decide +kernel
theorem d_R_enter_121 : decode b_R_enter 121 = .ok (.ifCond .eq 24, 3) := by decide +kernel
theorem d_R_enter_124 : decode b_R_enter 124 = .ok (.aload_n 0, 1) := by decide +kernel
theorem d_R_enter_125 : decode b_R_enter 125 = .ok (.getfield 27, 3) := by decide +kernel
theorem d_R_enter_128 : decode b_R_enter 128 = .ok (.aload_n 0, 1) := by decide +kernel
theorem d_R_enter_129 : decode b_R_enter 129 = .ok (.getfield 85, 3) := by decide +kernel
theorem d_R_enter_132 : decode b_R_enter 132 = .ok (.iload 4, 2) := by decide +kernel
theorem d_R_enter_134 : decode b_R_enter 134 = .ok (.iastore, 1) := by decide +kernel
theorem d_R_enter_135 : decode b_R_enter 135 = .ok (.aload_n 0, 1) := by decide +kernel
theorem d_R_enter_136 : decode b_R_enter 136 = .ok (.dup, 1) := by decide +kernel
theorem d_R_enter_137 : decode b_R_enter 137 = .ok (.getfield 85, 3) := by decide +kernel
theorem d_R_enter_140 : decode b_R_enter 140 = .ok (.iconst 1, 1) := by decide +kernel
theorem d_R_enter_141 : decode b_R_enter 141 = .ok (.iadd, 1) := by decide +kernel
theorem d_R_enter_142 : decode b_R_enter 142 = .ok (.putfield 85, 3) := by decide +kernel
theorem d_R_enter_145 : decode b_R_enter 145 = .ok (.iload 4, 2) := by decide +kernel
theorem d_R_enter_147 : decode b_R_enter 147 = .ok (.ireturn, 1) := by decide +kernel
abbrev b_W_init : ByteArray := prog_1_method_1_code
abbrev y_W_init : MethodName := ⟨"WhoRules", "<init>", "()V"⟩
theorem d_W_init_0 : decode b_W_init 0 = .ok (.aload_n 0, 1) := by decide +kernel
theorem d_W_init_1 : decode b_W_init 1 = .ok (.invokespecial 3, 3) := by decide +kernel
theorem d_W_init_4 : decode b_W_init 4 = .ok (.aload_n 0, 1) := by decide +kernel
theorem d_W_init_5 : decode b_W_init 5 = .ok (.bipush 21, 2) := by decide +kernel
theorem d_W_init_7 : decode b_W_init 7 = .ok (.newarray .int, 2) := by decide +kernel
theorem d_W_init_9 : decode b_W_init 9 = .ok (.putfield 11, 3) := by decide +kernel
theorem d_W_init_12 : decode b_W_init 12 = .ok (.aload_n 0, 1) := by decide +kernel
theorem d_W_init_13 : decode b_W_init 13 = .ok (.new 15, 3) := by decide +kernel
theorem d_W_init_16 : decode b_W_init 16 = .ok (.dup, 1) := by decide +kernel
theorem d_W_init_17 : decode b_W_init 17 = .ok (.invokespecial 17, 3) := by decide +kernel
theorem d_W_init_20 : decode b_W_init 20 = .ok (.putfield 18, 3) := by decide +kernel
theorem d_W_init_23 : decode b_W_init 23 = .ok (.aload_n 0, 1) := by decide +kernel
theorem d_W_init_24 : decode b_W_init 24 = .ok (.new 22, 3) := by decide +kernel
theorem d_W_init_27 : decode b_W_init 27 = .ok (.dup, 1) := by decide +kernel
theorem d_W_init_28 : decode b_W_init 28 = .ok (.invokespecial 24, 3) := by decide +kernel
theorem d_W_init_31 : decode b_W_init 31 = .ok (.putfield 25, 3) := by decide +kernel
theorem d_W_init_34 : decode b_W_init 34 = .ok (.aload_n 0, 1) := by decide +kernel
theorem d_W_init_35 : decode b_W_init 35 = .ok (.new 29, 3) := by decide +kernel
theorem d_W_init_38 : decode b_W_init 38 = .ok (.dup, 1) := by decide +kernel
theorem d_W_init_39 : decode b_W_init 39 = .ok (.aload_n 0, 1) := by decide +kernel
theorem d_W_init_40 : decode b_W_init 40 = .ok (.getfield 18, 3) := by decide +kernel
theorem d_W_init_43 : decode b_W_init 43 = .ok (.aload_n 0, 1) := by decide +kernel
theorem d_W_init_44 : decode b_W_init 44 = .ok (.getfield 25, 3) := by decide +kernel
theorem d_W_init_47 : decode b_W_init 47 = .ok (.invokespecial 31, 3) := by decide +kernel
theorem d_W_init_50 : decode b_W_init 50 = .ok (.putfield 34, 3) := by decide +kernel
theorem d_W_init_53 : decode b_W_init 53 = .ok (.aload_n 0, 1) := by decide +kernel
theorem d_W_init_54 : decode b_W_init 54 = .ok (.new 38, 3) := by decide +kernel
theorem d_W_init_57 : decode b_W_init 57 = .ok (.dup, 1) := by decide +kernel
theorem d_W_init_58 : decode b_W_init 58 = .ok (.aload_n 0, 1) := by decide +kernel
theorem d_W_init_59 : decode b_W_init 59 = .ok (.getfield 18, 3) := by decide +kernel
theorem d_W_init_62 : decode b_W_init 62 = .ok (.aload_n 0, 1) := by decide +kernel
theorem d_W_init_63 : decode b_W_init 63 = .ok (.getfield 34, 3) := by decide +kernel
theorem d_W_init_66 : decode b_W_init 66 = .ok (.invokespecial 40, 3) := by decide +kernel
theorem d_W_init_69 : decode b_W_init 69 = .ok (.putfield 43, 3) := by decide +kernel
theorem d_W_init_72 : decode b_W_init 72 = .ok (.aload_n 0, 1) := by decide +kernel
theorem d_W_init_73 : decode b_W_init 73 = .ok (.new 47, 3) := by decide +kernel
theorem d_W_init_76 : decode b_W_init 76 = .ok (.dup, 1) := by decide +kernel
theorem d_W_init_77 : decode b_W_init 77 = .ok (.aload_n 0, 1) := by decide +kernel
theorem d_W_init_78 : decode b_W_init 78 = .ok (.getfield 18, 3) := by decide +kernel
theorem d_W_init_81 : decode b_W_init 81 = .ok (.invokespecial 49, 3) := by decide +kernel
theorem d_W_init_84 : decode b_W_init 84 = .ok (.putfield 52, 3) := by decide +kernel
theorem d_W_init_87 : decode b_W_init 87 = .ok (.aload_n 0, 1) := by decide +kernel
theorem d_W_init_88 : decode b_W_init 88 = .ok (.bipush 30, 2) := by decide +kernel
theorem d_W_init_90 : decode b_W_init 90 = .ok (.newarray .int, 2) := by decide +kernel
theorem d_W_init_92 : decode b_W_init 92 = .ok (.putfield 56, 3) := by decide +kernel
theorem d_W_init_95 : decode b_W_init 95 = .ok (.aload_n 0, 1) := by decide +kernel
theorem d_W_init_96 : decode b_W_init 96 = .ok (.bipush 30, 2) := by decide +kernel
theorem d_W_init_98 : decode b_W_init 98 = .ok (.newarray .int, 2) := by decide +kernel
theorem d_W_init_100 : decode b_W_init 100 = .ok (.putfield 59, 3) := by decide +kernel
theorem d_W_init_103 : decode b_W_init 103 = .ok (.aload_n 0, 1) := by decide +kernel
theorem d_W_init_104 : decode b_W_init 104 = .ok (.bipush 6, 2) := by decide +kernel
theorem d_W_init_106 : decode b_W_init 106 = .ok (.newarray .int, 2) := by decide +kernel
theorem d_W_init_108 : decode b_W_init 108 = .ok (.putfield 62, 3) := by decide +kernel
theorem d_W_init_111 : decode b_W_init 111 = .ok (.aload_n 0, 1) := by decide +kernel
theorem d_W_init_112 : decode b_W_init 112 = .ok (.bipush 6, 2) := by decide +kernel
theorem d_W_init_114 : decode b_W_init 114 = .ok (.newarray .int, 2) := by decide +kernel
theorem d_W_init_116 : decode b_W_init 116 = .ok (.putfield 65, 3) := by decide +kernel
theorem d_W_init_119 : decode b_W_init 119 = .ok (.aload_n 0, 1) := by decide +kernel
theorem d_W_init_120 : decode b_W_init 120 = .ok (.bipush 6, 2) := by decide +kernel
theorem d_W_init_122 : decode b_W_init 122 = .ok (.bipush 60, 2) := by decide +kernel
theorem d_W_init_124 : decode b_W_init 124 = .ok (.multianewarray 68 2, 4) := by decide +kernel
theorem d_W_init_128 : decode b_W_init 128 = .ok (.putfield 70, 3) := by decide +kernel
theorem d_W_init_131 : decode b_W_init 131 = .ok (.aload_n 0, 1) := by decide +kernel
theorem d_W_init_132 : decode b_W_init 132 = .ok (.getfield 62, 3) := by decide +kernel
theorem d_W_init_135 : decode b_W_init 135 = .ok (.iconst (-1), 1) := by decide +kernel
theorem d_W_init_136 : decode b_W_init 136 = .ok (.invokestatic 73, 3) := by decide +kernel
theorem d_W_init_139 : decode b_W_init 139 = .ok (.return_, 1) := by decide +kernel
abbrev b_R_init : ByteArray := prog_10_method_1_code
abbrev y_R_init : MethodName := ⟨"WhoRules$Register", "<init>", "()V"⟩
theorem d_R_init_0 : decode b_R_init 0 = .ok (.aload_n 0, 1) := by decide +kernel
theorem d_R_init_1 : decode b_R_init 1 = .ok (.invokespecial 3, 3) := by decide +kernel
theorem d_R_init_4 : decode b_R_init 4 = .ok (.aload_n 0, 1) := by decide +kernel
theorem d_R_init_5 : decode b_R_init 5 = .ok (.bipush 16, 2) := by decide +kernel
theorem d_R_init_7 : decode b_R_init 7 = .ok (.anewarray 9, 3) := by decide +kernel
theorem d_R_init_10 : decode b_R_init 10 = .ok (.putfield 11, 3) := by decide +kernel
theorem d_R_init_13 : decode b_R_init 13 = .ok (.aload_n 0, 1) := by decide +kernel
theorem d_R_init_14 : decode b_R_init 14 = .ok (.bipush 16, 2) := by decide +kernel
theorem d_R_init_16 : decode b_R_init 16 = .ok (.newarray .int, 2) := by decide +kernel
theorem d_R_init_18 : decode b_R_init 18 = .ok (.putfield 17, 3) := by decide +kernel
theorem d_R_init_21 : decode b_R_init 21 = .ok (.aload_n 0, 1) := by decide +kernel
theorem d_R_init_22 : decode b_R_init 22 = .ok (.bipush 16, 2) := by decide +kernel
theorem d_R_init_24 : decode b_R_init 24 = .ok (.newarray .int, 2) := by decide +kernel
theorem d_R_init_26 : decode b_R_init 26 = .ok (.putfield 21, 3) := by decide +kernel
theorem d_R_init_29 : decode b_R_init 29 = .ok (.aload_n 0, 1) := by decide +kernel
theorem d_R_init_30 : decode b_R_init 30 = .ok (.bipush 7, 2) := by decide +kernel
theorem d_R_init_32 : decode b_R_init 32 = .ok (.newarray .int, 2) := by decide +kernel
theorem d_R_init_34 : decode b_R_init 34 = .ok (.putfield 24, 3) := by decide +kernel
theorem d_R_init_37 : decode b_R_init 37 = .ok (.aload_n 0, 1) := by decide +kernel
theorem d_R_init_38 : decode b_R_init 38 = .ok (.bipush 16, 2) := by decide +kernel
theorem d_R_init_40 : decode b_R_init 40 = .ok (.newarray .int, 2) := by decide +kernel
theorem d_R_init_42 : decode b_R_init 42 = .ok (.putfield 27, 3) := by decide +kernel
theorem d_R_init_45 : decode b_R_init 45 = .ok (.aload_n 0, 1) := by decide +kernel
theorem d_R_init_46 : decode b_R_init 46 = .ok (.bipush 40, 2) := by decide +kernel
theorem d_R_init_48 : decode b_R_init 48 = .ok (.newarray .int, 2) := by decide +kernel
theorem d_R_init_50 : decode b_R_init 50 = .ok (.putfield 30, 3) := by decide +kernel
theorem d_R_init_53 : decode b_R_init 53 = .ok (.aload_n 0, 1) := by decide +kernel
theorem d_R_init_54 : decode b_R_init 54 = .ok (.bipush 40, 2) := by decide +kernel
theorem d_R_init_56 : decode b_R_init 56 = .ok (.newarray .int, 2) := by decide +kernel
theorem d_R_init_58 : decode b_R_init 58 = .ok (.putfield 33, 3) := by decide +kernel
theorem d_R_init_61 : decode b_R_init 61 = .ok (.aload_n 0, 1) := by decide +kernel
theorem d_R_init_62 : decode b_R_init 62 = .ok (.bipush 40, 2) := by decide +kernel
theorem d_R_init_64 : decode b_R_init 64 = .ok (.newarray .int, 2) := by decide +kernel
theorem d_R_init_66 : decode b_R_init 66 = .ok (.putfield 36, 3) := by decide +kernel
theorem d_R_init_69 : decode b_R_init 69 = .ok (.aload_n 0, 1) := by decide +kernel
theorem d_R_init_70 : decode b_R_init 70 = .ok (.bipush 40, 2) := by decide +kernel
theorem d_R_init_72 : decode b_R_init 72 = .ok (.newarray .int, 2) := by decide +kernel
theorem d_R_init_74 : decode b_R_init 74 = .ok (.putfield 39, 3) := by decide +kernel
theorem d_R_init_77 : decode b_R_init 77 = .ok (.aload_n 0, 1) := by decide +kernel
theorem d_R_init_78 : decode b_R_init 78 = .ok (.bipush 40, 2) := by decide +kernel
theorem d_R_init_80 : decode b_R_init 80 = .ok (.newarray .int, 2) := by decide +kernel
theorem d_R_init_82 : decode b_R_init 82 = .ok (.putfield 42, 3) := by decide +kernel
theorem d_R_init_85 : decode b_R_init 85 = .ok (.aload_n 0, 1) := by decide +kernel
theorem d_R_init_86 : decode b_R_init 86 = .ok (.bipush 40, 2) := by decide +kernel
theorem d_R_init_88 : decode b_R_init 88 = .ok (.newarray .int, 2) := by decide +kernel
theorem d_R_init_90 : decode b_R_init 90 = .ok (.putfield 45, 3) := by decide +kernel
theorem d_R_init_93 : decode b_R_init 93 = .ok (.aload_n 0, 1) := by decide +kernel
theorem d_R_init_94 : decode b_R_init 94 = .ok (.sipush 160, 3) := by decide +kernel
theorem d_R_init_97 : decode b_R_init 97 = .ok (.newarray .int, 2) := by decide +kernel
theorem d_R_init_99 : decode b_R_init 99 = .ok (.putfield 48, 3) := by decide +kernel
theorem d_R_init_102 : decode b_R_init 102 = .ok (.aload_n 0, 1) := by decide +kernel
theorem d_R_init_103 : decode b_R_init 103 = .ok (.sipush 160, 3) := by decide +kernel
theorem d_R_init_106 : decode b_R_init 106 = .ok (.newarray .int, 2) := by decide +kernel
theorem d_R_init_108 : decode b_R_init 108 = .ok (.putfield 51, 3) := by decide +kernel
theorem d_R_init_111 : decode b_R_init 111 = .ok (.aload_n 0, 1) := by decide +kernel
theorem d_R_init_112 : decode b_R_init 112 = .ok (.sipush 160, 3) := by decide +kernel
theorem d_R_init_115 : decode b_R_init 115 = .ok (.newarray .int, 2) := by decide +kernel
theorem d_R_init_117 : decode b_R_init 117 = .ok (.putfield 54, 3) := by decide +kernel
theorem d_R_init_120 : decode b_R_init 120 = .ok (.return_, 1) := by decide +kernel
abbrev b_C_init : ByteArray := prog_2_method_1_code
abbrev y_C_init : MethodName := ⟨"WhoRules$Charters", "<init>", "()V"⟩
theorem d_C_init_0 : decode b_C_init 0 = .ok (.aload_n 0, 1) := by decide +kernel
theorem d_C_init_1 : decode b_C_init 1 = .ok (.invokespecial 3, 3) := by decide +kernel
theorem d_C_init_4 : decode b_C_init 4 = .ok (.aload_n 0, 1) := by decide +kernel
theorem d_C_init_5 : decode b_C_init 5 = .ok (.bipush 100, 2) := by decide +kernel
theorem d_C_init_7 : decode b_C_init 7 = .ok (.newarray .byte, 2) := by decide +kernel
theorem d_C_init_9 : decode b_C_init 9 = .ok (.putfield 11, 3) := by decide +kernel
theorem d_C_init_12 : decode b_C_init 12 = .ok (.aload_n 0, 1) := by decide +kernel
theorem d_C_init_13 : decode b_C_init 13 = .ok (.bipush 20, 2) := by decide +kernel
theorem d_C_init_15 : decode b_C_init 15 = .ok (.newarray .int, 2) := by decide +kernel
theorem d_C_init_17 : decode b_C_init 17 = .ok (.putfield 15, 3) := by decide +kernel
theorem d_C_init_20 : decode b_C_init 20 = .ok (.aload_n 0, 1) := by decide +kernel
theorem d_C_init_21 : decode b_C_init 21 = .ok (.bipush 20, 2) := by decide +kernel
theorem d_C_init_23 : decode b_C_init 23 = .ok (.newarray .int, 2) := by decide +kernel
theorem d_C_init_25 : decode b_C_init 25 = .ok (.putfield 19, 3) := by decide +kernel
theorem d_C_init_28 : decode b_C_init 28 = .ok (.aload_n 0, 1) := by decide +kernel
theorem d_C_init_29 : decode b_C_init 29 = .ok (.bipush 20, 2) := by decide +kernel
theorem d_C_init_31 : decode b_C_init 31 = .ok (.newarray .int, 2) := by decide +kernel
theorem d_C_init_33 : decode b_C_init 33 = .ok (.putfield 22, 3) := by decide +kernel
theorem d_C_init_36 : decode b_C_init 36 = .ok (.aload_n 0, 1) := by decide +kernel
theorem d_C_init_37 : decode b_C_init 37 = .ok (.bipush 120, 2) := by decide +kernel
theorem d_C_init_39 : decode b_C_init 39 = .ok (.newarray .int, 2) := by decide +kernel
theorem d_C_init_41 : decode b_C_init 41 = .ok (.putfield 25, 3) := by decide +kernel
theorem d_C_init_44 : decode b_C_init 44 = .ok (.aload_n 0, 1) := by decide +kernel
theorem d_C_init_45 : decode b_C_init 45 = .ok (.bipush 120, 2) := by decide +kernel
theorem d_C_init_47 : decode b_C_init 47 = .ok (.newarray .int, 2) := by decide +kernel
theorem d_C_init_49 : decode b_C_init 49 = .ok (.putfield 28, 3) := by decide +kernel
theorem d_C_init_52 : decode b_C_init 52 = .ok (.aload_n 0, 1) := by decide +kernel
theorem d_C_init_53 : decode b_C_init 53 = .ok (.bipush 120, 2) := by decide +kernel
theorem d_C_init_55 : decode b_C_init 55 = .ok (.newarray .int, 2) := by decide +kernel
theorem d_C_init_57 : decode b_C_init 57 = .ok (.putfield 31, 3) := by decide +kernel
theorem d_C_init_60 : decode b_C_init 60 = .ok (.aload_n 0, 1) := by decide +kernel
theorem d_C_init_61 : decode b_C_init 61 = .ok (.sipush 2000, 3) := by decide +kernel
theorem d_C_init_64 : decode b_C_init 64 = .ok (.newarray .int, 2) := by decide +kernel
theorem d_C_init_66 : decode b_C_init 66 = .ok (.putfield 34, 3) := by decide +kernel
theorem d_C_init_69 : decode b_C_init 69 = .ok (.return_, 1) := by decide +kernel
abbrev b_U_init : ByteArray := prog_11_method_1_code
abbrev y_U_init : MethodName := ⟨"WhoRules$Rule", "<init>", "(LWhoRules$Register;LWhoRules$Charters;)V"⟩
theorem d_U_init_0 : decode b_U_init 0 = .ok (.aload_n 0, 1) := by decide +kernel
theorem d_U_init_1 : decode b_U_init 1 = .ok (.invokespecial 3, 3) := by decide +kernel
theorem d_U_init_4 : decode b_U_init 4 = .ok (.aload_n 0, 1) := by decide +kernel
theorem d_U_init_5 : decode b_U_init 5 = .ok (.bipush 16, 2) := by decide +kernel
theorem d_U_init_7 : decode b_U_init 7 = .ok (.iconst 5, 1) := by decide +kernel
theorem d_U_init_8 : decode b_U_init 8 = .ok (.multianewarray 9 2, 4) := by decide +kernel
theorem d_U_init_12 : decode b_U_init 12 = .ok (.putfield 11, 3) := by decide +kernel
theorem d_U_init_15 : decode b_U_init 15 = .ok (.aload_n 0, 1) := by decide +kernel
theorem d_U_init_16 : decode b_U_init 16 = .ok (.bipush 40, 2) := by decide +kernel
theorem d_U_init_18 : decode b_U_init 18 = .ok (.newarray .int, 2) := by decide +kernel
theorem d_U_init_20 : decode b_U_init 20 = .ok (.putfield 16, 3) := by decide +kernel
theorem d_U_init_23 : decode b_U_init 23 = .ok (.aload_n 0, 1) := by decide +kernel
theorem d_U_init_24 : decode b_U_init 24 = .ok (.bipush 40, 2) := by decide +kernel
theorem d_U_init_26 : decode b_U_init 26 = .ok (.newarray .int, 2) := by decide +kernel
theorem d_U_init_28 : decode b_U_init 28 = .ok (.putfield 20, 3) := by decide +kernel
theorem d_U_init_31 : decode b_U_init 31 = .ok (.aload_n 0, 1) := by decide +kernel
theorem d_U_init_32 : decode b_U_init 32 = .ok (.iconst 5, 1) := by decide +kernel
theorem d_U_init_33 : decode b_U_init 33 = .ok (.newarray .int, 2) := by decide +kernel
theorem d_U_init_35 : decode b_U_init 35 = .ok (.putfield 25, 3) := by decide +kernel
theorem d_U_init_38 : decode b_U_init 38 = .ok (.aload_n 0, 1) := by decide +kernel
theorem d_U_init_39 : decode b_U_init 39 = .ok (.bipush 16, 2) := by decide +kernel
theorem d_U_init_41 : decode b_U_init 41 = .ok (.bipush 16, 2) := by decide +kernel
theorem d_U_init_43 : decode b_U_init 43 = .ok (.multianewarray 9 2, 4) := by decide +kernel
theorem d_U_init_47 : decode b_U_init 47 = .ok (.putfield 28, 3) := by decide +kernel
theorem d_U_init_50 : decode b_U_init 50 = .ok (.aload_n 0, 1) := by decide +kernel
theorem d_U_init_51 : decode b_U_init 51 = .ok (.bipush 16, 2) := by decide +kernel
theorem d_U_init_53 : decode b_U_init 53 = .ok (.newarray .int, 2) := by decide +kernel
theorem d_U_init_55 : decode b_U_init 55 = .ok (.putfield 31, 3) := by decide +kernel
theorem d_U_init_58 : decode b_U_init 58 = .ok (.aload_n 0, 1) := by decide +kernel
theorem d_U_init_59 : decode b_U_init 59 = .ok (.bipush 16, 2) := by decide +kernel
theorem d_U_init_61 : decode b_U_init 61 = .ok (.newarray .int, 2) := by decide +kernel
theorem d_U_init_63 : decode b_U_init 63 = .ok (.putfield 34, 3) := by decide +kernel
theorem d_U_init_66 : decode b_U_init 66 = .ok (.aload_n 0, 1) := by decide +kernel
theorem d_U_init_67 : decode b_U_init 67 = .ok (.bipush 16, 2) := by decide +kernel
theorem d_U_init_69 : decode b_U_init 69 = .ok (.newarray .int, 2) := by decide +kernel
theorem d_U_init_71 : decode b_U_init 71 = .ok (.putfield 37, 3) := by decide +kernel
theorem d_U_init_74 : decode b_U_init 74 = .ok (.aload_n 0, 1) := by decide +kernel
theorem d_U_init_75 : decode b_U_init 75 = .ok (.bipush 16, 2) := by decide +kernel
theorem d_U_init_77 : decode b_U_init 77 = .ok (.bipush 16, 2) := by decide +kernel
theorem d_U_init_79 : decode b_U_init 79 = .ok (.multianewarray 9 2, 4) := by decide +kernel
theorem d_U_init_83 : decode b_U_init 83 = .ok (.putfield 40, 3) := by decide +kernel
theorem d_U_init_86 : decode b_U_init 86 = .ok (.aload_n 0, 1) := by decide +kernel
theorem d_U_init_87 : decode b_U_init 87 = .ok (.bipush 7, 2) := by decide +kernel
theorem d_U_init_89 : decode b_U_init 89 = .ok (.newarray .int, 2) := by decide +kernel
theorem d_U_init_91 : decode b_U_init 91 = .ok (.putfield 43, 3) := by decide +kernel
theorem d_U_init_94 : decode b_U_init 94 = .ok (.aload_n 0, 1) := by decide +kernel
theorem d_U_init_95 : decode b_U_init 95 = .ok (.aload_n 1, 1) := by decide +kernel
theorem d_U_init_96 : decode b_U_init 96 = .ok (.putfield 46, 3) := by decide +kernel
theorem d_U_init_99 : decode b_U_init 99 = .ok (.aload_n 0, 1) := by decide +kernel
theorem d_U_init_100 : decode b_U_init 100 = .ok (.aload_n 2, 1) := by decide +kernel
theorem d_U_init_101 : decode b_U_init 101 = .ok (.putfield 50, 3) := by decide +kernel
theorem d_U_init_104 : decode b_U_init 104 = .ok (.return_, 1) := by decide +kernel
abbrev b_S_init : ByteArray := prog_12_method_1_code
abbrev y_S_init : MethodName := ⟨"WhoRules$Search", "<init>", "(LWhoRules$Register;LWhoRules$Rule;)V"⟩
theorem d_S_init_0 : decode b_S_init 0 = .ok (.aload_n 0, 1) := by decide +kernel
theorem d_S_init_1 : decode b_S_init 1 = .ok (.invokespecial 3, 3) := by decide +kernel
theorem d_S_init_4 : decode b_S_init 4 = .ok (.aload_n 0, 1) := by decide +kernel
theorem d_S_init_5 : decode b_S_init 5 = .ok (.bipush 8, 2) := by decide +kernel
theorem d_S_init_7 : decode b_S_init 7 = .ok (.newarray .int, 2) := by decide +kernel
theorem d_S_init_9 : decode b_S_init 9 = .ok (.putfield 11, 3) := by decide +kernel
theorem d_S_init_12 : decode b_S_init 12 = .ok (.aload_n 0, 1) := by decide +kernel
theorem d_S_init_13 : decode b_S_init 13 = .ok (.iconst 5, 1) := by decide +kernel
theorem d_S_init_14 : decode b_S_init 14 = .ok (.iconst 4, 1) := by decide +kernel
theorem d_S_init_15 : decode b_S_init 15 = .ok (.multianewarray 15 2, 4) := by decide +kernel
theorem d_S_init_19 : decode b_S_init 19 = .ok (.putfield 17, 3) := by decide +kernel
theorem d_S_init_22 : decode b_S_init 22 = .ok (.aload_n 0, 1) := by decide +kernel
theorem d_S_init_23 : decode b_S_init 23 = .ok (.iconst 5, 1) := by decide +kernel
theorem d_S_init_24 : decode b_S_init 24 = .ok (.newarray .int, 2) := by decide +kernel
theorem d_S_init_26 : decode b_S_init 26 = .ok (.putfield 20, 3) := by decide +kernel
theorem d_S_init_29 : decode b_S_init 29 = .ok (.aload_n 0, 1) := by decide +kernel
theorem d_S_init_30 : decode b_S_init 30 = .ok (.iconst 5, 1) := by decide +kernel
theorem d_S_init_31 : decode b_S_init 31 = .ok (.newarray .int, 2) := by decide +kernel
theorem d_S_init_33 : decode b_S_init 33 = .ok (.putfield 23, 3) := by decide +kernel
theorem d_S_init_36 : decode b_S_init 36 = .ok (.aload_n 0, 1) := by decide +kernel
theorem d_S_init_37 : decode b_S_init 37 = .ok (.bipush 16, 2) := by decide +kernel
theorem d_S_init_39 : decode b_S_init 39 = .ok (.newarray .int, 2) := by decide +kernel
theorem d_S_init_41 : decode b_S_init 41 = .ok (.putfield 26, 3) := by decide +kernel
theorem d_S_init_44 : decode b_S_init 44 = .ok (.aload_n 0, 1) := by decide +kernel
theorem d_S_init_45 : decode b_S_init 45 = .ok (.bipush 16, 2) := by decide +kernel
theorem d_S_init_47 : decode b_S_init 47 = .ok (.newarray .int, 2) := by decide +kernel
theorem d_S_init_49 : decode b_S_init 49 = .ok (.putfield 29, 3) := by decide +kernel
theorem d_S_init_52 : decode b_S_init 52 = .ok (.aload_n 0, 1) := by decide +kernel
theorem d_S_init_53 : decode b_S_init 53 = .ok (.bipush 16, 2) := by decide +kernel
theorem d_S_init_55 : decode b_S_init 55 = .ok (.newarray .int, 2) := by decide +kernel
theorem d_S_init_57 : decode b_S_init 57 = .ok (.putfield 32, 3) := by decide +kernel
theorem d_S_init_60 : decode b_S_init 60 = .ok (.aload_n 0, 1) := by decide +kernel
theorem d_S_init_61 : decode b_S_init 61 = .ok (.bipush 17, 2) := by decide +kernel
theorem d_S_init_63 : decode b_S_init 63 = .ok (.newarray .int, 2) := by decide +kernel
theorem d_S_init_65 : decode b_S_init 65 = .ok (.putfield 35, 3) := by decide +kernel
theorem d_S_init_68 : decode b_S_init 68 = .ok (.aload_n 0, 1) := by decide +kernel
theorem d_S_init_69 : decode b_S_init 69 = .ok (.aload_n 1, 1) := by decide +kernel
theorem d_S_init_70 : decode b_S_init 70 = .ok (.putfield 38, 3) := by decide +kernel
theorem d_S_init_73 : decode b_S_init 73 = .ok (.aload_n 0, 1) := by decide +kernel
theorem d_S_init_74 : decode b_S_init 74 = .ok (.aload_n 2, 1) := by decide +kernel
theorem d_S_init_75 : decode b_S_init 75 = .ok (.putfield 42, 3) := by decide +kernel
theorem d_S_init_78 : decode b_S_init 78 = .ok (.return_, 1) := by decide +kernel
abbrev b_F_init : ByteArray := prog_5_method_1_code
abbrev y_F_init : MethodName := ⟨"WhoRules$Flow", "<init>", "(LWhoRules$Register;)V"⟩
theorem d_F_init_0 : decode b_F_init 0 = .ok (.aload_n 0, 1) := by decide +kernel
theorem d_F_init_1 : decode b_F_init 1 = .ok (.invokespecial 3, 3) := by decide +kernel
theorem d_F_init_4 : decode b_F_init 4 = .ok (.aload_n 0, 1) := by decide +kernel
theorem d_F_init_5 : decode b_F_init 5 = .ok (.bipush 16, 2) := by decide +kernel
theorem d_F_init_7 : decode b_F_init 7 = .ok (.bipush 16, 2) := by decide +kernel
theorem d_F_init_9 : decode b_F_init 9 = .ok (.multianewarray 9 2, 4) := by decide +kernel
theorem d_F_init_13 : decode b_F_init 13 = .ok (.putfield 11, 3) := by decide +kernel
theorem d_F_init_16 : decode b_F_init 16 = .ok (.aload_n 0, 1) := by decide +kernel
theorem d_F_init_17 : decode b_F_init 17 = .ok (.bipush 16, 2) := by decide +kernel
theorem d_F_init_19 : decode b_F_init 19 = .ok (.newarray .int, 2) := by decide +kernel
theorem d_F_init_21 : decode b_F_init 21 = .ok (.putfield 16, 3) := by decide +kernel
theorem d_F_init_24 : decode b_F_init 24 = .ok (.aload_n 0, 1) := by decide +kernel
theorem d_F_init_25 : decode b_F_init 25 = .ok (.bipush 16, 2) := by decide +kernel
theorem d_F_init_27 : decode b_F_init 27 = .ok (.newarray .int, 2) := by decide +kernel
theorem d_F_init_29 : decode b_F_init 29 = .ok (.putfield 20, 3) := by decide +kernel
theorem d_F_init_32 : decode b_F_init 32 = .ok (.aload_n 0, 1) := by decide +kernel
theorem d_F_init_33 : decode b_F_init 33 = .ok (.bipush 7, 2) := by decide +kernel
theorem d_F_init_35 : decode b_F_init 35 = .ok (.newarray .int, 2) := by decide +kernel
theorem d_F_init_37 : decode b_F_init 37 = .ok (.putfield 23, 3) := by decide +kernel
theorem d_F_init_40 : decode b_F_init 40 = .ok (.aload_n 0, 1) := by decide +kernel
theorem d_F_init_41 : decode b_F_init 41 = .ok (.bipush 12, 2) := by decide +kernel
theorem d_F_init_43 : decode b_F_init 43 = .ok (.newarray .int, 2) := by decide +kernel
theorem d_F_init_45 : decode b_F_init 45 = .ok (.putfield 26, 3) := by decide +kernel
theorem d_F_init_48 : decode b_F_init 48 = .ok (.aload_n 0, 1) := by decide +kernel
theorem d_F_init_49 : decode b_F_init 49 = .ok (.bipush 7, 2) := by decide +kernel
theorem d_F_init_51 : decode b_F_init 51 = .ok (.newarray .int, 2) := by decide +kernel
theorem d_F_init_53 : decode b_F_init 53 = .ok (.putfield 29, 3) := by decide +kernel
theorem d_F_init_56 : decode b_F_init 56 = .ok (.aload_n 0, 1) := by decide +kernel
theorem d_F_init_57 : decode b_F_init 57 = .ok (.bipush 7, 2) := by decide +kernel
theorem d_F_init_59 : decode b_F_init 59 = .ok (.bipush 8, 2) := by decide +kernel
theorem d_F_init_61 : decode b_F_init 61 = .ok (.multianewarray 32 2, 4) := by decide +kernel
theorem d_F_init_65 : decode b_F_init 65 = .ok (.putfield 34, 3) := by decide +kernel
theorem d_F_init_68 : decode b_F_init 68 = .ok (.aload_n 0, 1) := by decide +kernel
theorem d_F_init_69 : decode b_F_init 69 = .ok (.aload_n 1, 1) := by decide +kernel
theorem d_F_init_70 : decode b_F_init 70 = .ok (.putfield 37, 3) := by decide +kernel
theorem d_F_init_73 : decode b_F_init 73 = .ok (.return_, 1) := by decide +kernel
abbrev b_H_init : ByteArray := prog_7_method_1_code
abbrev y_H_init : MethodName := ⟨"WhoRules$Holder", "<init>", "(II[I)V"⟩
theorem d_H_init_0 : decode b_H_init 0 = .ok (.aload_n 0, 1) := by decide +kernel
theorem d_H_init_1 : decode b_H_init 1 = .ok (.invokespecial 3, 3) := by decide +kernel
theorem d_H_init_4 : decode b_H_init 4 = .ok (.aload_n 0, 1) := by decide +kernel
theorem d_H_init_5 : decode b_H_init 5 = .ok (.iload_n 1, 1) := by decide +kernel
theorem d_H_init_6 : decode b_H_init 6 = .ok (.putfield 9, 3) := by decide +kernel
theorem d_H_init_9 : decode b_H_init 9 = .ok (.aload_n 0, 1) := by decide +kernel
theorem d_H_init_10 : decode b_H_init 10 = .ok (.iload_n 2, 1) := by decide +kernel
theorem d_H_init_11 : decode b_H_init 11 = .ok (.putfield 15, 3) := by decide +kernel
theorem d_H_init_14 : decode b_H_init 14 = .ok (.aload_n 0, 1) := by decide +kernel
theorem d_H_init_15 : decode b_H_init 15 = .ok (.aload_n 3, 1) := by decide +kernel
theorem d_H_init_16 : decode b_H_init 16 = .ok (.putfield 18, 3) := by decide +kernel
theorem d_H_init_19 : decode b_H_init 19 = .ok (.return_, 1) := by decide +kernel
abbrev b_Hf_init : ByteArray := prog_4_method_1_code
abbrev y_Hf_init : MethodName := ⟨"WhoRules$Firm", "<init>", "(I[I)V"⟩
theorem d_Hf_init_0 : decode b_Hf_init 0 = .ok (.aload_n 0, 1) := by decide +kernel
theorem d_Hf_init_1 : decode b_Hf_init 1 = .ok (.iload_n 1, 1) := by decide +kernel
theorem d_Hf_init_2 : decode b_Hf_init 2 = .ok (.iconst 0, 1) := by decide +kernel
theorem d_Hf_init_3 : decode b_Hf_init 3 = .ok (.aload_n 2, 1) := by decide +kernel
theorem d_Hf_init_4 : decode b_Hf_init 4 = .ok (.invokespecial 1, 3) := by decide +kernel
theorem d_Hf_init_7 : decode b_Hf_init 7 = .ok (.return_, 1) := by decide +kernel
abbrev b_Hp_init : ByteArray := prog_9_method_1_code
abbrev y_Hp_init : MethodName := ⟨"WhoRules$Person", "<init>", "(II[I)V"⟩
theorem d_Hp_init_0 : decode b_Hp_init 0 = .ok (.aload_n 0, 1) := by decide +kernel
theorem d_Hp_init_1 : decode b_Hp_init 1 = .ok (.iload_n 1, 1) := by decide +kernel
theorem d_Hp_init_2 : decode b_Hp_init 2 = .ok (.iload_n 2, 1) := by decide +kernel
theorem d_Hp_init_3 : decode b_Hp_init 3 = .ok (.aload_n 3, 1) := by decide +kernel
theorem d_Hp_init_4 : decode b_Hp_init 4 = .ok (.invokespecial 1, 3) := by decide +kernel
theorem d_Hp_init_7 : decode b_Hp_init 7 = .ok (.return_, 1) := by decide +kernel
abbrev b_Hk_init : ByteArray := prog_8_method_1_code
abbrev y_Hk_init : MethodName := ⟨"WhoRules$Kin", "<init>", "(II[I)V"⟩
theorem d_Hk_init_0 : decode b_Hk_init 0 = .ok (.aload_n 0, 1) := by decide +kernel
theorem d_Hk_init_1 : decode b_Hk_init 1 = .ok (.iload_n 1, 1) := by decide +kernel
theorem d_Hk_init_2 : decode b_Hk_init 2 = .ok (.iload_n 2, 1) := by decide +kernel
theorem d_Hk_init_3 : decode b_Hk_init 3 = .ok (.aload_n 3, 1) := by decide +kernel
theorem d_Hk_init_4 : decode b_Hk_init 4 = .ok (.invokespecial 1, 3) := by decide +kernel
theorem d_Hk_init_7 : decode b_Hk_init 7 = .ok (.return_, 1) := by decide +kernel
abbrev b_Hu_init : ByteArray := prog_6_method_1_code
abbrev y_Hu_init : MethodName := ⟨"WhoRules$Fund", "<init>", "(I[I)V"⟩
theorem d_Hu_init_0 : decode b_Hu_init 0 = .ok (.aload_n 0, 1) := by decide +kernel
theorem d_Hu_init_1 : decode b_Hu_init 1 = .ok (.iload_n 1, 1) := by decide +kernel
theorem d_Hu_init_2 : decode b_Hu_init 2 = .ok (.iconst 0, 1) := by decide +kernel
theorem d_Hu_init_3 : decode b_Hu_init 3 = .ok (.aload_n 2, 1) := by decide +kernel
theorem d_Hu_init_4 : decode b_Hu_init 4 = .ok (.invokespecial 1, 3) := by decide +kernel
theorem d_Hu_init_7 : decode b_Hu_init 7 = .ok (.return_, 1) := by decide +kernel
abbrev b_Hc_init : ByteArray := prog_3_method_1_code
abbrev y_Hc_init : MethodName := ⟨"WhoRules$Club", "<init>", "(I[I)V"⟩
theorem d_Hc_init_0 : decode b_Hc_init 0 = .ok (.aload_n 0, 1) := by decide +kernel
theorem d_Hc_init_1 : decode b_Hc_init 1 = .ok (.iload_n 1, 1) := by decide +kernel
theorem d_Hc_init_2 : decode b_Hc_init 2 = .ok (.aload_n 2, 1) := by decide +kernel
theorem d_Hc_init_3 : decode b_Hc_init 3 = .ok (.invokespecial 1, 3) := by decide +kernel
theorem d_Hc_init_6 : decode b_Hc_init 6 = .ok (.return_, 1) := by decide +kernel
abbrev b_m_init : ByteArray := prog_14_method_1_code
abbrev y_m_init : MethodName := ⟨"WhoRulesModel", "<init>", "()V"⟩
theorem d_m_init_0 : decode b_m_init 0 = .ok (.aload_n 0, 1) := by decide +kernel
theorem d_m_init_1 : decode b_m_init 1 = .ok (.invokespecial 1, 3) := by decide +kernel
theorem d_m_init_4 : decode b_m_init 4 = .ok (.aload_n 0, 1) := by decide +kernel
theorem d_m_init_5 : decode b_m_init 5 = .ok (.iconst 0, 1) := by decide +kernel
theorem d_m_init_6 : decode b_m_init 6 = .ok (.putfield 7, 3) := by decide +kernel
theorem d_m_init_9 : decode b_m_init 9 = .ok (.aload_n 0, 1) := by decide +kernel
theorem d_m_init_10 : decode b_m_init 10 = .ok (.iconst 0, 1) := by decide +kernel
theorem d_m_init_11 : decode b_m_init 11 = .ok (.putfield 13, 3) := by decide +kernel
theorem d_m_init_14 : decode b_m_init 14 = .ok (.aload_n 0, 1) := by decide +kernel
theorem d_m_init_15 : decode b_m_init 15 = .ok (.iconst 0, 1) := by decide +kernel
theorem d_m_init_16 : decode b_m_init 16 = .ok (.putfield 16, 3) := by decide +kernel
theorem d_m_init_19 : decode b_m_init 19 = .ok (.aload_n 0, 1) := by decide +kernel
theorem d_m_init_20 : decode b_m_init 20 = .ok (.iconst 0, 1) := by decide +kernel
theorem d_m_init_21 : decode b_m_init 21 = .ok (.putfield 19, 3) := by decide +kernel
theorem d_m_init_24 : decode b_m_init 24 = .ok (.aload_n 0, 1) := by decide +kernel
theorem d_m_init_25 : decode b_m_init 25 = .ok (.iconst 0, 1) := by decide +kernel
theorem d_m_init_26 : decode b_m_init 26 = .ok (.putfield 22, 3) := by decide +kernel
theorem d_m_init_29 : decode b_m_init 29 = .ok (.aload_n 0, 1) := by decide +kernel
theorem d_m_init_30 : decode b_m_init 30 = .ok (.bipush 16, 2) := by decide +kernel
theorem d_m_init_32 : decode b_m_init 32 = .ok (.newarray .int, 2) := by decide +kernel
theorem d_m_init_34 : decode b_m_init 34 = .ok (.putfield 25, 3) := by decide +kernel
theorem d_m_init_37 : decode b_m_init 37 = .ok (.aload_n 0, 1) := by decide +kernel
theorem d_m_init_38 : decode b_m_init 38 = .ok (.bipush 16, 2) := by decide +kernel
theorem d_m_init_40 : decode b_m_init 40 = .ok (.newarray .int, 2) := by decide +kernel
theorem d_m_init_42 : decode b_m_init 42 = .ok (.putfield 29, 3) := by decide +kernel
theorem d_m_init_45 : decode b_m_init 45 = .ok (.aload_n 0, 1) := by decide +kernel
theorem d_m_init_46 : decode b_m_init 46 = .ok (.bipush 40, 2) := by decide +kernel
theorem d_m_init_48 : decode b_m_init 48 = .ok (.newarray .int, 2) := by decide +kernel
theorem d_m_init_50 : decode b_m_init 50 = .ok (.putfield 32, 3) := by decide +kernel
theorem d_m_init_53 : decode b_m_init 53 = .ok (.aload_n 0, 1) := by decide +kernel
theorem d_m_init_54 : decode b_m_init 54 = .ok (.bipush 40, 2) := by decide +kernel
theorem d_m_init_56 : decode b_m_init 56 = .ok (.newarray .int, 2) := by decide +kernel
theorem d_m_init_58 : decode b_m_init 58 = .ok (.putfield 35, 3) := by decide +kernel
theorem d_m_init_61 : decode b_m_init 61 = .ok (.aload_n 0, 1) := by decide +kernel
theorem d_m_init_62 : decode b_m_init 62 = .ok (.bipush 40, 2) := by decide +kernel
theorem d_m_init_64 : decode b_m_init 64 = .ok (.newarray .int, 2) := by decide +kernel
theorem d_m_init_66 : decode b_m_init 66 = .ok (.putfield 38, 3) := by decide +kernel
theorem d_m_init_69 : decode b_m_init 69 = .ok (.aload_n 0, 1) := by decide +kernel
theorem d_m_init_70 : decode b_m_init 70 = .ok (.bipush 40, 2) := by decide +kernel
theorem d_m_init_72 : decode b_m_init 72 = .ok (.newarray .int, 2) := by decide +kernel
theorem d_m_init_74 : decode b_m_init 74 = .ok (.putfield 41, 3) := by decide +kernel
theorem d_m_init_77 : decode b_m_init 77 = .ok (.aload_n 0, 1) := by decide +kernel
theorem d_m_init_78 : decode b_m_init 78 = .ok (.bipush 40, 2) := by decide +kernel
theorem d_m_init_80 : decode b_m_init 80 = .ok (.newarray .int, 2) := by decide +kernel
theorem d_m_init_82 : decode b_m_init 82 = .ok (.putfield 44, 3) := by decide +kernel
theorem d_m_init_85 : decode b_m_init 85 = .ok (.aload_n 0, 1) := by decide +kernel
theorem d_m_init_86 : decode b_m_init 86 = .ok (.bipush 40, 2) := by decide +kernel
theorem d_m_init_88 : decode b_m_init 88 = .ok (.newarray .int, 2) := by decide +kernel
theorem d_m_init_90 : decode b_m_init 90 = .ok (.putfield 47, 3) := by decide +kernel
theorem d_m_init_93 : decode b_m_init 93 = .ok (.aload_n 0, 1) := by decide +kernel
theorem d_m_init_94 : decode b_m_init 94 = .ok (.bipush 120, 2) := by decide +kernel
theorem d_m_init_96 : decode b_m_init 96 = .ok (.newarray .int, 2) := by decide +kernel
theorem d_m_init_98 : decode b_m_init 98 = .ok (.putfield 50, 3) := by decide +kernel
theorem d_m_init_101 : decode b_m_init 101 = .ok (.aload_n 0, 1) := by decide +kernel
theorem d_m_init_102 : decode b_m_init 102 = .ok (.bipush 120, 2) := by decide +kernel
theorem d_m_init_104 : decode b_m_init 104 = .ok (.newarray .int, 2) := by decide +kernel
theorem d_m_init_106 : decode b_m_init 106 = .ok (.putfield 53, 3) := by decide +kernel
theorem d_m_init_109 : decode b_m_init 109 = .ok (.aload_n 0, 1) := by decide +kernel
theorem d_m_init_110 : decode b_m_init 110 = .ok (.bipush 120, 2) := by decide +kernel
theorem d_m_init_112 : decode b_m_init 112 = .ok (.newarray .int, 2) := by decide +kernel
theorem d_m_init_114 : decode b_m_init 114 = .ok (.putfield 56, 3) := by decide +kernel
theorem d_m_init_117 : decode b_m_init 117 = .ok (.aload_n 0, 1) := by decide +kernel
theorem d_m_init_118 : decode b_m_init 118 = .ok (.iconst (-1), 1) := by decide +kernel
theorem d_m_init_119 : decode b_m_init 119 = .ok (.putfield 59, 3) := by decide +kernel
theorem d_m_init_122 : decode b_m_init 122 = .ok (.aload_n 0, 1) := by decide +kernel
theorem d_m_init_123 : decode b_m_init 123 = .ok (.iconst (-1), 1) := by decide +kernel
theorem d_m_init_124 : decode b_m_init 124 = .ok (.putfield 62, 3) := by decide +kernel
theorem d_m_init_127 : decode b_m_init 127 = .ok (.aload_n 0, 1) := by decide +kernel
theorem d_m_init_128 : decode b_m_init 128 = .ok (.iconst 0, 1) := by decide +kernel
theorem d_m_init_129 : decode b_m_init 129 = .ok (.putfield 65, 3) := by decide +kernel
theorem d_m_init_132 : decode b_m_init 132 = .ok (.aload_n 0, 1) := by decide +kernel
theorem d_m_init_133 : decode b_m_init 133 = .ok (.iconst 0, 1) := by decide +kernel
theorem d_m_init_134 : decode b_m_init 134 = .ok (.putfield 68, 3) := by decide +kernel
theorem d_m_init_137 : decode b_m_init 137 = .ok (.aload_n 0, 1) := by decide +kernel
theorem d_m_init_138 : decode b_m_init 138 = .ok (.bipush 20, 2) := by decide +kernel
theorem d_m_init_140 : decode b_m_init 140 = .ok (.newarray .int, 2) := by decide +kernel
theorem d_m_init_142 : decode b_m_init 142 = .ok (.putfield 71, 3) := by decide +kernel
theorem d_m_init_145 : decode b_m_init 145 = .ok (.aload_n 0, 1) := by decide +kernel
theorem d_m_init_146 : decode b_m_init 146 = .ok (.bipush 20, 2) := by decide +kernel
theorem d_m_init_148 : decode b_m_init 148 = .ok (.newarray .int, 2) := by decide +kernel
theorem d_m_init_150 : decode b_m_init 150 = .ok (.putfield 74, 3) := by decide +kernel
theorem d_m_init_153 : decode b_m_init 153 = .ok (.aload_n 0, 1) := by decide +kernel
theorem d_m_init_154 : decode b_m_init 154 = .ok (.sipush 2100, 3) := by decide +kernel
theorem d_m_init_157 : decode b_m_init 157 = .ok (.newarray .int, 2) := by decide +kernel
theorem d_m_init_159 : decode b_m_init 159 = .ok (.putfield 77, 3) := by decide +kernel
theorem d_m_init_162 : decode b_m_init 162 = .ok (.aload_n 0, 1) := by decide +kernel
theorem d_m_init_163 : decode b_m_init 163 = .ok (.bipush 21, 2) := by decide +kernel
theorem d_m_init_165 : decode b_m_init 165 = .ok (.newarray .int, 2) := by decide +kernel
theorem d_m_init_167 : decode b_m_init 167 = .ok (.putfield 80, 3) := by decide +kernel
theorem d_m_init_170 : decode b_m_init 170 = .ok (.aload_n 0, 1) := by decide +kernel
theorem d_m_init_171 : decode b_m_init 171 = .ok (.iconst 5, 1) := by decide +kernel
theorem d_m_init_172 : decode b_m_init 172 = .ok (.newarray .int, 2) := by decide +kernel
theorem d_m_init_174 : decode b_m_init 174 = .ok (.putfield 83, 3) := by decide +kernel
theorem d_m_init_177 : decode b_m_init 177 = .ok (.aload_n 0, 1) := by decide +kernel
theorem d_m_init_178 : decode b_m_init 178 = .ok (.iconst 5, 1) := by decide +kernel
theorem d_m_init_179 : decode b_m_init 179 = .ok (.newarray .int, 2) := by decide +kernel
theorem d_m_init_181 : decode b_m_init 181 = .ok (.putfield 86, 3) := by decide +kernel
theorem d_m_init_184 : decode b_m_init 184 = .ok (.aload_n 0, 1) := by decide +kernel
theorem d_m_init_185 : decode b_m_init 185 = .ok (.iconst 5, 1) := by decide +kernel
theorem d_m_init_186 : decode b_m_init 186 = .ok (.newarray .int, 2) := by decide +kernel
theorem d_m_init_188 : decode b_m_init 188 = .ok (.putfield 89, 3) := by decide +kernel
theorem d_m_init_191 : decode b_m_init 191 = .ok (.aload_n 0, 1) := by decide +kernel
theorem d_m_init_192 : decode b_m_init 192 = .ok (.iconst 5, 1) := by decide +kernel
theorem d_m_init_193 : decode b_m_init 193 = .ok (.newarray .int, 2) := by decide +kernel
theorem d_m_init_195 : decode b_m_init 195 = .ok (.putfield 92, 3) := by decide +kernel
theorem d_m_init_198 : decode b_m_init 198 = .ok (.aload_n 0, 1) := by decide +kernel
theorem d_m_init_199 : decode b_m_init 199 = .ok (.iconst 0, 1) := by decide +kernel
theorem d_m_init_200 : decode b_m_init 200 = .ok (.putfield 95, 3) := by decide +kernel
theorem d_m_init_203 : decode b_m_init 203 = .ok (.aload_n 0, 1) := by decide +kernel
theorem d_m_init_204 : decode b_m_init 204 = .ok (.iconst 0, 1) := by decide +kernel
theorem d_m_init_205 : decode b_m_init 205 = .ok (.putfield 99, 3) := by decide +kernel
theorem d_m_init_208 : decode b_m_init 208 = .ok (.aload_n 0, 1) := by decide +kernel
theorem d_m_init_209 : decode b_m_init 209 = .ok (.iconst 0, 1) := by decide +kernel
theorem d_m_init_210 : decode b_m_init 210 = .ok (.putfield 102, 3) := by decide +kernel
theorem d_m_init_213 : decode b_m_init 213 = .ok (.aload_n 0, 1) := by decide +kernel
theorem d_m_init_214 : decode b_m_init 214 = .ok (.iconst 0, 1) := by decide +kernel
theorem d_m_init_215 : decode b_m_init 215 = .ok (.putfield 105, 3) := by decide +kernel
theorem d_m_init_218 : decode b_m_init 218 = .ok (.aload_n 0, 1) := by decide +kernel
theorem d_m_init_219 : decode b_m_init 219 = .ok (.iconst 0, 1) := by decide +kernel
theorem d_m_init_220 : decode b_m_init 220 = .ok (.putfield 108, 3) := by decide +kernel
theorem d_m_init_223 : decode b_m_init 223 = .ok (.aload_n 0, 1) := by decide +kernel
theorem d_m_init_224 : decode b_m_init 224 = .ok (.iconst 0, 1) := by decide +kernel
theorem d_m_init_225 : decode b_m_init 225 = .ok (.putfield 111, 3) := by decide +kernel
theorem d_m_init_228 : decode b_m_init 228 = .ok (.aload_n 0, 1) := by decide +kernel
theorem d_m_init_229 : decode b_m_init 229 = .ok (.bipush 101, 2) := by decide +kernel
theorem d_m_init_231 : decode b_m_init 231 = .ok (.newarray .int, 2) := by decide +kernel
theorem d_m_init_233 : decode b_m_init 233 = .ok (.putfield 114, 3) := by decide +kernel
theorem d_m_init_236 : decode b_m_init 236 = .ok (.aload_n 0, 1) := by decide +kernel
theorem d_m_init_237 : decode b_m_init 237 = .ok (.bipush 101, 2) := by decide +kernel
theorem d_m_init_239 : decode b_m_init 239 = .ok (.newarray .boolean, 2) := by decide +kernel
theorem d_m_init_241 : decode b_m_init 241 = .ok (.putfield 117, 3) := by decide +kernel
theorem d_m_init_244 : decode b_m_init 244 = .ok (.aload_n 0, 1) := by decide +kernel
theorem d_m_init_245 : decode b_m_init 245 = .ok (.iconst 0, 1) := by decide +kernel
theorem d_m_init_246 : decode b_m_init 246 = .ok (.putfield 121, 3) := by decide +kernel
theorem d_m_init_249 : decode b_m_init 249 = .ok (.aload_n 0, 1) := by decide +kernel
theorem d_m_init_250 : decode b_m_init 250 = .ok (.iconst 0, 1) := by decide +kernel
theorem d_m_init_251 : decode b_m_init 251 = .ok (.putfield 124, 3) := by decide +kernel
theorem d_m_init_254 : decode b_m_init 254 = .ok (.aload_n 0, 1) := by decide +kernel
theorem d_m_init_255 : decode b_m_init 255 = .ok (.iconst 0, 1) := by decide +kernel
theorem d_m_init_256 : decode b_m_init 256 = .ok (.putfield 127, 3) := by decide +kernel
theorem d_m_init_259 : decode b_m_init 259 = .ok (.aload_n 0, 1) := by decide +kernel
theorem d_m_init_260 : decode b_m_init 260 = .ok (.bipush 40, 2) := by decide +kernel
theorem d_m_init_262 : decode b_m_init 262 = .ok (.newarray .int, 2) := by decide +kernel
theorem d_m_init_264 : decode b_m_init 264 = .ok (.putfield 130, 3) := by decide +kernel
theorem d_m_init_267 : decode b_m_init 267 = .ok (.aload_n 0, 1) := by decide +kernel
theorem d_m_init_268 : decode b_m_init 268 = .ok (.bipush 40, 2) := by decide +kernel
theorem d_m_init_270 : decode b_m_init 270 = .ok (.newarray .int, 2) := by decide +kernel
theorem d_m_init_272 : decode b_m_init 272 = .ok (.putfield 133, 3) := by decide +kernel
theorem d_m_init_275 : decode b_m_init 275 = .ok (.aload_n 0, 1) := by decide +kernel
theorem d_m_init_276 : decode b_m_init 276 = .ok (.sipush 256, 3) := by decide +kernel
theorem d_m_init_279 : decode b_m_init 279 = .ok (.newarray .int, 2) := by decide +kernel
theorem d_m_init_281 : decode b_m_init 281 = .ok (.putfield 136, 3) := by decide +kernel
theorem d_m_init_284 : decode b_m_init 284 = .ok (.aload_n 0, 1) := by decide +kernel
theorem d_m_init_285 : decode b_m_init 285 = .ok (.bipush 16, 2) := by decide +kernel
theorem d_m_init_287 : decode b_m_init 287 = .ok (.newarray .int, 2) := by decide +kernel
theorem d_m_init_289 : decode b_m_init 289 = .ok (.putfield 139, 3) := by decide +kernel
theorem d_m_init_292 : decode b_m_init 292 = .ok (.aload_n 0, 1) := by decide +kernel
theorem d_m_init_293 : decode b_m_init 293 = .ok (.bipush 16, 2) := by decide +kernel
theorem d_m_init_295 : decode b_m_init 295 = .ok (.newarray .int, 2) := by decide +kernel
theorem d_m_init_297 : decode b_m_init 297 = .ok (.putfield 142, 3) := by decide +kernel
theorem d_m_init_300 : decode b_m_init 300 = .ok (.aload_n 0, 1) := by decide +kernel
theorem d_m_init_301 : decode b_m_init 301 = .ok (.bipush 16, 2) := by decide +kernel
theorem d_m_init_303 : decode b_m_init 303 = .ok (.newarray .int, 2) := by decide +kernel
theorem d_m_init_305 : decode b_m_init 305 = .ok (.putfield 145, 3) := by decide +kernel
theorem d_m_init_308 : decode b_m_init 308 = .ok (.aload_n 0, 1) := by decide +kernel
theorem d_m_init_309 : decode b_m_init 309 = .ok (.bipush 16, 2) := by decide +kernel
theorem d_m_init_311 : decode b_m_init 311 = .ok (.newarray .int, 2) := by decide +kernel
theorem d_m_init_313 : decode b_m_init 313 = .ok (.putfield 148, 3) := by decide +kernel
theorem d_m_init_316 : decode b_m_init 316 = .ok (.aload_n 0, 1) := by decide +kernel
theorem d_m_init_317 : decode b_m_init 317 = .ok (.bipush 16, 2) := by decide +kernel
theorem d_m_init_319 : decode b_m_init 319 = .ok (.newarray .int, 2) := by decide +kernel
theorem d_m_init_321 : decode b_m_init 321 = .ok (.putfield 151, 3) := by decide +kernel
theorem d_m_init_324 : decode b_m_init 324 = .ok (.aload_n 0, 1) := by decide +kernel
theorem d_m_init_325 : decode b_m_init 325 = .ok (.bipush 7, 2) := by decide +kernel
theorem d_m_init_327 : decode b_m_init 327 = .ok (.newarray .int, 2) := by decide +kernel
theorem d_m_init_329 : decode b_m_init 329 = .ok (.putfield 154, 3) := by decide +kernel
theorem d_m_init_332 : decode b_m_init 332 = .ok (.aload_n 0, 1) := by decide +kernel
theorem d_m_init_333 : decode b_m_init 333 = .ok (.iconst 0, 1) := by decide +kernel
theorem d_m_init_334 : decode b_m_init 334 = .ok (.putfield 157, 3) := by decide +kernel
theorem d_m_init_337 : decode b_m_init 337 = .ok (.aload_n 0, 1) := by decide +kernel
theorem d_m_init_338 : decode b_m_init 338 = .ok (.bipush 16, 2) := by decide +kernel
theorem d_m_init_340 : decode b_m_init 340 = .ok (.newarray .int, 2) := by decide +kernel
theorem d_m_init_342 : decode b_m_init 342 = .ok (.putfield 160, 3) := by decide +kernel
theorem d_m_init_345 : decode b_m_init 345 = .ok (.aload_n 0, 1) := by decide +kernel
theorem d_m_init_346 : decode b_m_init 346 = .ok (.bipush 7, 2) := by decide +kernel
theorem d_m_init_348 : decode b_m_init 348 = .ok (.newarray .int, 2) := by decide +kernel
theorem d_m_init_350 : decode b_m_init 350 = .ok (.putfield 163, 3) := by decide +kernel
theorem d_m_init_353 : decode b_m_init 353 = .ok (.aload_n 0, 1) := by decide +kernel
theorem d_m_init_354 : decode b_m_init 354 = .ok (.iconst 0, 1) := by decide +kernel
theorem d_m_init_355 : decode b_m_init 355 = .ok (.putfield 166, 3) := by decide +kernel
theorem d_m_init_358 : decode b_m_init 358 = .ok (.aload_n 0, 1) := by decide +kernel
theorem d_m_init_359 : decode b_m_init 359 = .ok (.bipush 56, 2) := by decide +kernel
theorem d_m_init_361 : decode b_m_init 361 = .ok (.newarray .long, 2) := by decide +kernel
theorem d_m_init_363 : decode b_m_init 363 = .ok (.putfield 169, 3) := by decide +kernel
theorem d_m_init_366 : decode b_m_init 366 = .ok (.aload_n 0, 1) := by decide +kernel
theorem d_m_init_367 : decode b_m_init 367 = .ok (.bipush 7, 2) := by decide +kernel
theorem d_m_init_369 : decode b_m_init 369 = .ok (.newarray .int, 2) := by decide +kernel
theorem d_m_init_371 : decode b_m_init 371 = .ok (.putfield 173, 3) := by decide +kernel
theorem d_m_init_374 : decode b_m_init 374 = .ok (.aload_n 0, 1) := by decide +kernel
theorem d_m_init_375 : decode b_m_init 375 = .ok (.bipush 16, 2) := by decide +kernel
theorem d_m_init_377 : decode b_m_init 377 = .ok (.newarray .int, 2) := by decide +kernel
theorem d_m_init_379 : decode b_m_init 379 = .ok (.putfield 176, 3) := by decide +kernel
theorem d_m_init_382 : decode b_m_init 382 = .ok (.aload_n 0, 1) := by decide +kernel
theorem d_m_init_383 : decode b_m_init 383 = .ok (.iconst 0, 1) := by decide +kernel
theorem d_m_init_384 : decode b_m_init 384 = .ok (.putfield 179, 3) := by decide +kernel
theorem d_m_init_387 : decode b_m_init 387 = .ok (.aload_n 0, 1) := by decide +kernel
theorem d_m_init_388 : decode b_m_init 388 = .ok (.bipush 16, 2) := by decide +kernel
theorem d_m_init_390 : decode b_m_init 390 = .ok (.newarray .int, 2) := by decide +kernel
theorem d_m_init_392 : decode b_m_init 392 = .ok (.putfield 182, 3) := by decide +kernel
theorem d_m_init_395 : decode b_m_init 395 = .ok (.aload_n 0, 1) := by decide +kernel
theorem d_m_init_396 : decode b_m_init 396 = .ok (.bipush 16, 2) := by decide +kernel
theorem d_m_init_398 : decode b_m_init 398 = .ok (.newarray .int, 2) := by decide +kernel
theorem d_m_init_400 : decode b_m_init 400 = .ok (.putfield 185, 3) := by decide +kernel
theorem d_m_init_403 : decode b_m_init 403 = .ok (.aload_n 0, 1) := by decide +kernel
theorem d_m_init_404 : decode b_m_init 404 = .ok (.bipush 12, 2) := by decide +kernel
theorem d_m_init_406 : decode b_m_init 406 = .ok (.newarray .int, 2) := by decide +kernel
theorem d_m_init_408 : decode b_m_init 408 = .ok (.putfield 188, 3) := by decide +kernel
theorem d_m_init_411 : decode b_m_init 411 = .ok (.aload_n 0, 1) := by decide +kernel
theorem d_m_init_412 : decode b_m_init 412 = .ok (.bipush 16, 2) := by decide +kernel
theorem d_m_init_414 : decode b_m_init 414 = .ok (.newarray .int, 2) := by decide +kernel
theorem d_m_init_416 : decode b_m_init 416 = .ok (.putfield 191, 3) := by decide +kernel
theorem d_m_init_419 : decode b_m_init 419 = .ok (.aload_n 0, 1) := by decide +kernel
theorem d_m_init_420 : decode b_m_init 420 = .ok (.iconst 0, 1) := by decide +kernel
theorem d_m_init_421 : decode b_m_init 421 = .ok (.putfield 194, 3) := by decide +kernel
theorem d_m_init_424 : decode b_m_init 424 = .ok (.aload_n 0, 1) := by decide +kernel
theorem d_m_init_425 : decode b_m_init 425 = .ok (.lconst 0, 1) := by decide +kernel
theorem d_m_init_426 : decode b_m_init 426 = .ok (.putfield 197, 3) := by decide +kernel
theorem d_m_init_429 : decode b_m_init 429 = .ok (.aload_n 0, 1) := by decide +kernel
theorem d_m_init_430 : decode b_m_init 430 = .ok (.iconst 0, 1) := by decide +kernel
theorem d_m_init_431 : decode b_m_init 431 = .ok (.putfield 201, 3) := by decide +kernel
theorem d_m_init_434 : decode b_m_init 434 = .ok (.aload_n 0, 1) := by decide +kernel
theorem d_m_init_435 : decode b_m_init 435 = .ok (.iconst 0, 1) := by decide +kernel
theorem d_m_init_436 : decode b_m_init 436 = .ok (.putfield 204, 3) := by decide +kernel
theorem d_m_init_439 : decode b_m_init 439 = .ok (.aload_n 0, 1) := by decide +kernel
theorem d_m_init_440 : decode b_m_init 440 = .ok (.bipush 30, 2) := by decide +kernel
theorem d_m_init_442 : decode b_m_init 442 = .ok (.newarray .int, 2) := by decide +kernel
theorem d_m_init_444 : decode b_m_init 444 = .ok (.putfield 207, 3) := by decide +kernel
theorem d_m_init_447 : decode b_m_init 447 = .ok (.aload_n 0, 1) := by decide +kernel
theorem d_m_init_448 : decode b_m_init 448 = .ok (.bipush 30, 2) := by decide +kernel
theorem d_m_init_450 : decode b_m_init 450 = .ok (.newarray .int, 2) := by decide +kernel
theorem d_m_init_452 : decode b_m_init 452 = .ok (.putfield 210, 3) := by decide +kernel
theorem d_m_init_455 : decode b_m_init 455 = .ok (.aload_n 0, 1) := by decide +kernel
theorem d_m_init_456 : decode b_m_init 456 = .ok (.bipush 16, 2) := by decide +kernel
theorem d_m_init_458 : decode b_m_init 458 = .ok (.newarray .int, 2) := by decide +kernel
theorem d_m_init_460 : decode b_m_init 460 = .ok (.putfield 213, 3) := by decide +kernel
theorem d_m_init_463 : decode b_m_init 463 = .ok (.aload_n 0, 1) := by decide +kernel
theorem d_m_init_464 : decode b_m_init 464 = .ok (.bipush 16, 2) := by decide +kernel
theorem d_m_init_466 : decode b_m_init 466 = .ok (.newarray .int, 2) := by decide +kernel
theorem d_m_init_468 : decode b_m_init 468 = .ok (.putfield 216, 3) := by decide +kernel
theorem d_m_init_471 : decode b_m_init 471 = .ok (.aload_n 0, 1) := by decide +kernel
theorem d_m_init_472 : decode b_m_init 472 = .ok (.bipush 16, 2) := by decide +kernel
theorem d_m_init_474 : decode b_m_init 474 = .ok (.newarray .int, 2) := by decide +kernel
theorem d_m_init_476 : decode b_m_init 476 = .ok (.putfield 219, 3) := by decide +kernel
theorem d_m_init_479 : decode b_m_init 479 = .ok (.aload_n 0, 1) := by decide +kernel
theorem d_m_init_480 : decode b_m_init 480 = .ok (.bipush 7, 2) := by decide +kernel
theorem d_m_init_482 : decode b_m_init 482 = .ok (.newarray .int, 2) := by decide +kernel
theorem d_m_init_484 : decode b_m_init 484 = .ok (.putfield 222, 3) := by decide +kernel
theorem d_m_init_487 : decode b_m_init 487 = .ok (.aload_n 0, 1) := by decide +kernel
theorem d_m_init_488 : decode b_m_init 488 = .ok (.iconst 0, 1) := by decide +kernel
theorem d_m_init_489 : decode b_m_init 489 = .ok (.putfield 225, 3) := by decide +kernel
theorem d_m_init_492 : decode b_m_init 492 = .ok (.aload_n 0, 1) := by decide +kernel
theorem d_m_init_493 : decode b_m_init 493 = .ok (.iconst 0, 1) := by decide +kernel
theorem d_m_init_494 : decode b_m_init 494 = .ok (.putfield 228, 3) := by decide +kernel
theorem d_m_init_497 : decode b_m_init 497 = .ok (.aload_n 0, 1) := by decide +kernel
theorem d_m_init_498 : decode b_m_init 498 = .ok (.bipush 20, 2) := by decide +kernel
theorem d_m_init_500 : decode b_m_init 500 = .ok (.newarray .int, 2) := by decide +kernel
theorem d_m_init_502 : decode b_m_init 502 = .ok (.putfield 231, 3) := by decide +kernel
theorem d_m_init_505 : decode b_m_init 505 = .ok (.aload_n 0, 1) := by decide +kernel
theorem d_m_init_506 : decode b_m_init 506 = .ok (.bipush 6, 2) := by decide +kernel
theorem d_m_init_508 : decode b_m_init 508 = .ok (.newarray .int, 2) := by decide +kernel
theorem d_m_init_510 : decode b_m_init 510 = .ok (.dup, 1) := by decide +kernel
theorem d_m_init_511 : decode b_m_init 511 = .ok (.iconst 0, 1) := by decide +kernel
theorem d_m_init_512 : decode b_m_init 512 = .ok (.iconst (-1), 1) := by decide +kernel
theorem d_m_init_513 : decode b_m_init 513 = .ok (.iastore, 1) := by decide +kernel
theorem d_m_init_514 : decode b_m_init 514 = .ok (.dup, 1) := by decide +kernel
theorem d_m_init_515 : decode b_m_init 515 = .ok (.iconst 1, 1) := by decide +kernel
theorem d_m_init_516 : decode b_m_init 516 = .ok (.iconst (-1), 1) := by decide +kernel
theorem d_m_init_517 : decode b_m_init 517 = .ok (.iastore, 1) := by decide +kernel
theorem d_m_init_518 : decode b_m_init 518 = .ok (.dup, 1) := by decide +kernel
theorem d_m_init_519 : decode b_m_init 519 = .ok (.iconst 2, 1) := by decide +kernel
theorem d_m_init_520 : decode b_m_init 520 = .ok (.iconst (-1), 1) := by decide +kernel
theorem d_m_init_521 : decode b_m_init 521 = .ok (.iastore, 1) := by decide +kernel
theorem d_m_init_522 : decode b_m_init 522 = .ok (.dup, 1) := by decide +kernel
theorem d_m_init_523 : decode b_m_init 523 = .ok (.iconst 3, 1) := by decide +kernel
theorem d_m_init_524 : decode b_m_init 524 = .ok (.iconst (-1), 1) := by decide +kernel
theorem d_m_init_525 : decode b_m_init 525 = .ok (.iastore, 1) := by decide +kernel
theorem d_m_init_526 : decode b_m_init 526 = .ok (.dup, 1) := by decide +kernel
theorem d_m_init_527 : decode b_m_init 527 = .ok (.iconst 4, 1) := by decide +kernel
theorem d_m_init_528 : decode b_m_init 528 = .ok (.iconst (-1), 1) := by decide +kernel
theorem d_m_init_529 : decode b_m_init 529 = .ok (.iastore, 1) := by decide +kernel
theorem d_m_init_530 : decode b_m_init 530 = .ok (.dup, 1) := by decide +kernel
theorem d_m_init_531 : decode b_m_init 531 = .ok (.iconst 5, 1) := by decide +kernel
theorem d_m_init_532 : decode b_m_init 532 = .ok (.iconst (-1), 1) := by decide +kernel
theorem d_m_init_533 : decode b_m_init 533 = .ok (.iastore, 1) := by decide +kernel
theorem d_m_init_534 : decode b_m_init 534 = .ok (.putfield 234, 3) := by decide +kernel
theorem d_m_init_537 : decode b_m_init 537 = .ok (.aload_n 0, 1) := by decide +kernel
theorem d_m_init_538 : decode b_m_init 538 = .ok (.bipush 6, 2) := by decide +kernel
theorem d_m_init_540 : decode b_m_init 540 = .ok (.newarray .int, 2) := by decide +kernel
theorem d_m_init_542 : decode b_m_init 542 = .ok (.putfield 237, 3) := by decide +kernel
theorem d_m_init_545 : decode b_m_init 545 = .ok (.aload_n 0, 1) := by decide +kernel
theorem d_m_init_546 : decode b_m_init 546 = .ok (.sipush 360, 3) := by decide +kernel
theorem d_m_init_549 : decode b_m_init 549 = .ok (.newarray .long, 2) := by decide +kernel
theorem d_m_init_551 : decode b_m_init 551 = .ok (.putfield 240, 3) := by decide +kernel
theorem d_m_init_554 : decode b_m_init 554 = .ok (.aload_n 0, 1) := by decide +kernel
theorem d_m_init_555 : decode b_m_init 555 = .ok (.bipush 60, 2) := by decide +kernel
theorem d_m_init_557 : decode b_m_init 557 = .ok (.newarray .long, 2) := by decide +kernel
theorem d_m_init_559 : decode b_m_init 559 = .ok (.putfield 243, 3) := by decide +kernel
theorem d_m_init_562 : decode b_m_init 562 = .ok (.return_, 1) := by decide +kernel
theorem q_130 : Cond.classLink "WhoRulesLaw" 7 "WhoRules" ∈ ALL := all_in 130 (by decide +kernel) rfl
theorem q_132 : Cond.methodLink "WhoRulesLaw" 9 ⟨"WhoRules", "<init>", "()V"⟩ ∈ ALL := all_in 132 (by decide +kernel) rfl
theorem q_135 : Cond.methodLink "WhoRules" 3 ⟨"java/lang/Object", "<init>", "()V"⟩ ∈ ALL := all_in 135 (by decide +kernel) rfl
theorem q_138 : Cond.classLink "WhoRules" 15 "WhoRules$Register" ∈ ALL := all_in 138 (by decide +kernel) rfl
theorem q_143 : Cond.methodLink "WhoRules$Register" 3 ⟨"java/lang/Object", "<init>", "()V"⟩ ∈ ALL := all_in 143 (by decide +kernel) rfl
theorem q_144 : Cond.classLink "WhoRules$Register" 9 "WhoRules$Holder" ∈ ALL := all_in 144 (by decide +kernel) rfl
theorem q_158 : Cond.fieldLink "WhoRules$Register" 71 "WhoRules$Register" "firmCount" "I" ∈ ALL := all_in 158 (by decide +kernel) rfl
theorem q_161 : Cond.fieldLink "WhoRules$Register" 85 "WhoRules$Register" "rulerCount" "I" ∈ ALL := all_in 161 (by decide +kernel) rfl
theorem q_169 : Cond.fieldLink "WhoRules$Register" 11 "WhoRules$Register" "holders" "[LWhoRules$Holder;" ∈ ALL := all_in 169 (by decide +kernel) rfl
theorem q_172 : Cond.fieldLink "WhoRules" 309 "WhoRules$Register" "kind" "[I" ∈ ALL := all_in 172 (by decide +kernel) rfl
theorem q_175 : Cond.fieldLink "WhoRules$Register" 24 "WhoRules$Register" "firms" "[I" ∈ ALL := all_in 175 (by decide +kernel) rfl
theorem q_179 : Cond.fieldLink "WhoRules$Register" 27 "WhoRules$Register" "rulers" "[I" ∈ ALL := all_in 179 (by decide +kernel) rfl
theorem q_251 : Cond.classLink "WhoRules" 22 "WhoRules$Charters" ∈ ALL := all_in 251 (by decide +kernel) rfl
theorem q_256 : Cond.methodLink "WhoRules$Charters" 3 ⟨"java/lang/Object", "<init>", "()V"⟩ ∈ ALL := all_in 256 (by decide +kernel) rfl
theorem q_297 : Cond.classLink "WhoRules" 29 "WhoRules$Rule" ∈ ALL := all_in 297 (by decide +kernel) rfl
theorem q_299 : Cond.methodLink "WhoRules" 31 ⟨"WhoRules$Rule", "<init>", "(LWhoRules$Register;LWhoRules$Charters;)V"⟩ ∈ ALL := all_in 299 (by decide +kernel) rfl
theorem q_302 : Cond.methodLink "WhoRules$Rule" 3 ⟨"java/lang/Object", "<init>", "()V"⟩ ∈ ALL := all_in 302 (by decide +kernel) rfl
theorem q_303 : Cond.classLink "WhoRules$Rule" 9 "[[I" ∈ ALL := all_in 303 (by decide +kernel) rfl
theorem q_358 : Cond.classLink "WhoRules" 38 "WhoRules$Search" ∈ ALL := all_in 358 (by decide +kernel) rfl
theorem q_360 : Cond.methodLink "WhoRules" 40 ⟨"WhoRules$Search", "<init>", "(LWhoRules$Register;LWhoRules$Rule;)V"⟩ ∈ ALL := all_in 360 (by decide +kernel) rfl
theorem q_363 : Cond.methodLink "WhoRules$Search" 3 ⟨"java/lang/Object", "<init>", "()V"⟩ ∈ ALL := all_in 363 (by decide +kernel) rfl
theorem q_364 : Cond.classLink "WhoRules$Search" 15 "[[I" ∈ ALL := all_in 364 (by decide +kernel) rfl
theorem q_402 : Cond.classLink "WhoRules" 47 "WhoRules$Flow" ∈ ALL := all_in 402 (by decide +kernel) rfl
theorem q_404 : Cond.methodLink "WhoRules" 49 ⟨"WhoRules$Flow", "<init>", "(LWhoRules$Register;)V"⟩ ∈ ALL := all_in 404 (by decide +kernel) rfl
theorem q_407 : Cond.methodLink "WhoRules$Flow" 3 ⟨"java/lang/Object", "<init>", "()V"⟩ ∈ ALL := all_in 407 (by decide +kernel) rfl
theorem q_408 : Cond.classLink "WhoRules$Flow" 9 "[[I" ∈ ALL := all_in 408 (by decide +kernel) rfl
theorem q_409 : Cond.classLink "WhoRules$Flow" 32 "[[J" ∈ ALL := all_in 409 (by decide +kernel) rfl
theorem q_446 : Cond.classLink "WhoRules" 68 "[[J" ∈ ALL := all_in 446 (by decide +kernel) rfl
theorem q_447 : Cond.methodLink "WhoRules" 73 ⟨"java/util/Arrays", "fill", "([II)V"⟩ ∈ ALL := all_in 447 (by decide +kernel) rfl
theorem q_487 : Cond.methodLink "WhoRulesLaw" 13 ⟨"WhoRules", "pass", "(I)I"⟩ ∈ ALL := all_in 487 (by decide +kernel) rfl
theorem q_491 : Cond.methodLink "WhoRulesLaw" 18 ⟨"WhoRules", "holder", "(II)I"⟩ ∈ ALL := all_in 491 (by decide +kernel) rfl
theorem q_495 : Cond.methodLink "WhoRules" 83 ⟨"WhoRules$Register", "enter", "(II[I)I"⟩ ∈ ALL := all_in 495 (by decide +kernel) rfl
theorem q_499 : Cond.methodLink "WhoRules$Register" 74 ⟨"WhoRules$Register", "made", "(III[I)LWhoRules$Holder;"⟩ ∈ ALL := all_in 499 (by decide +kernel) rfl
theorem q_502 : Cond.classLink "WhoRules$Register" 88 "WhoRules$Firm" ∈ ALL := all_in 502 (by decide +kernel) rfl
theorem q_504 : Cond.methodLink "WhoRules$Register" 90 ⟨"WhoRules$Firm", "<init>", "(I[I)V"⟩ ∈ ALL := all_in 504 (by decide +kernel) rfl
theorem q_507 : Cond.methodLink "WhoRules$Firm" 1 ⟨"WhoRules$Holder", "<init>", "(II[I)V"⟩ ∈ ALL := all_in 507 (by decide +kernel) rfl
theorem q_510 : Cond.methodLink "WhoRules$Holder" 3 ⟨"java/lang/Object", "<init>", "()V"⟩ ∈ ALL := all_in 510 (by decide +kernel) rfl
theorem q_517 : Cond.fieldLink "WhoRules$Register" 108 "WhoRules$Holder" "family" "I" ∈ ALL := all_in 517 (by decide +kernel) rfl
theorem q_526 : Cond.classLink "WhoRules$Register" 93 "WhoRules$Person" ∈ ALL := all_in 526 (by decide +kernel) rfl
theorem q_528 : Cond.methodLink "WhoRules$Register" 95 ⟨"WhoRules$Person", "<init>", "(II[I)V"⟩ ∈ ALL := all_in 528 (by decide +kernel) rfl
theorem q_531 : Cond.methodLink "WhoRules$Person" 1 ⟨"WhoRules$Holder", "<init>", "(II[I)V"⟩ ∈ ALL := all_in 531 (by decide +kernel) rfl
theorem q_536 : Cond.classLink "WhoRules$Register" 98 "WhoRules$Kin" ∈ ALL := all_in 536 (by decide +kernel) rfl
theorem q_538 : Cond.methodLink "WhoRules$Register" 100 ⟨"WhoRules$Kin", "<init>", "(II[I)V"⟩ ∈ ALL := all_in 538 (by decide +kernel) rfl
theorem q_541 : Cond.methodLink "WhoRules$Kin" 1 ⟨"WhoRules$Person", "<init>", "(II[I)V"⟩ ∈ ALL := all_in 541 (by decide +kernel) rfl
theorem q_546 : Cond.classLink "WhoRules$Register" 101 "WhoRules$Fund" ∈ ALL := all_in 546 (by decide +kernel) rfl
theorem q_548 : Cond.methodLink "WhoRules$Register" 103 ⟨"WhoRules$Fund", "<init>", "(I[I)V"⟩ ∈ ALL := all_in 548 (by decide +kernel) rfl
theorem q_551 : Cond.methodLink "WhoRules$Fund" 1 ⟨"WhoRules$Holder", "<init>", "(II[I)V"⟩ ∈ ALL := all_in 551 (by decide +kernel) rfl
theorem q_556 : Cond.classLink "WhoRules$Register" 104 "WhoRules$Club" ∈ ALL := all_in 556 (by decide +kernel) rfl
theorem q_558 : Cond.methodLink "WhoRules$Register" 106 ⟨"WhoRules$Club", "<init>", "(I[I)V"⟩ ∈ ALL := all_in 558 (by decide +kernel) rfl
theorem q_561 : Cond.methodLink "WhoRules$Club" 1 ⟨"WhoRules$Fund", "<init>", "(I[I)V"⟩ ∈ ALL := all_in 561 (by decide +kernel) rfl
theorem q_567 : Cond.methodLink "WhoRules$Register" 107 ⟨"WhoRules$Holder", "<init>", "(II[I)V"⟩ ∈ ALL := all_in 567 (by decide +kernel) rfl
theorem q_572 : Cond.methodLink "WhoRules$Register" 78 ⟨"WhoRules$Register", "headOf", "(II)I"⟩ ∈ ALL := all_in 572 (by decide +kernel) rfl
theorem q_576 : Cond.methodLink "WhoRules$Register" 82 ⟨"WhoRules$Register", "isRuler", "(I)Z"⟩ ∈ ALL := all_in 576 (by decide +kernel) rfl
theorem q_588 : Cond.methodLink "WhoRulesLaw" 23 ⟨"WhoRules", "share", "(IIII)I"⟩ ∈ ALL := all_in 588 (by decide +kernel) rfl
theorem q_609 : Cond.methodLink "WhoRulesLaw" 28 ⟨"WhoRules", "price", "(II)I"⟩ ∈ ALL := all_in 609 (by decide +kernel) rfl
theorem q_617 : Cond.methodLink "WhoRulesLaw" 32 ⟨"WhoRules", "sale", "(II)I"⟩ ∈ ALL := all_in 617 (by decide +kernel) rfl
theorem q_631 : Cond.methodLink "WhoRulesLaw" 36 ⟨"WhoRules", "of", "(II)I"⟩ ∈ ALL := all_in 631 (by decide +kernel) rfl
theorem q_635 : Cond.methodLink "WhoRulesLaw" 40 ⟨"WhoRules", "held", "(III)I"⟩ ∈ ALL := all_in 635 (by decide +kernel) rfl
theorem q_642 : Cond.methodLink "WhoRulesLaw" 45 ⟨"WhoRules", "feed", "(II)I"⟩ ∈ ALL := all_in 642 (by decide +kernel) rfl
theorem q_650 : Cond.methodLink "WhoRulesLaw" 49 ⟨"WhoRules", "charter", "(II)I"⟩ ∈ ALL := all_in 650 (by decide +kernel) rfl
theorem q_768 : Cond.methodLink "WhoRulesLaw" 53 ⟨"WhoRules", "force", "(IIII)I"⟩ ∈ ALL := all_in 768 (by decide +kernel) rfl
theorem q_827 : Cond.methodLink "WhoRulesLaw" 57 ⟨"WhoRules", "why", "(III)I"⟩ ∈ ALL := all_in 827 (by decide +kernel) rfl
theorem q_832 : Cond.methodLink "WhoRulesLaw" 61 ⟨"WhoRules", "votes", "(III)I"⟩ ∈ ALL := all_in 832 (by decide +kernel) rfl
theorem q_848 : Cond.methodLink "WhoRulesLaw" 65 ⟨"WhoRules", "carry", "(III)I"⟩ ∈ ALL := all_in 848 (by decide +kernel) rfl
theorem q_860 : Cond.methodLink "WhoRulesLaw" 69 ⟨"WhoRules", "ruler", "(II)I"⟩ ∈ ALL := all_in 860 (by decide +kernel) rfl
theorem q_890 : Cond.methodLink "WhoRulesLaw" 73 ⟨"WhoRules", "step", "(II)I"⟩ ∈ ALL := all_in 890 (by decide +kernel) rfl
theorem q_894 : Cond.methodLink "WhoRulesLaw" 77 ⟨"WhoRules", "all", "(III)I"⟩ ∈ ALL := all_in 894 (by decide +kernel) rfl
theorem q_934 : Cond.methodLink "WhoRulesLaw" 81 ⟨"WhoRules", "proof", "(III)I"⟩ ∈ ALL := all_in 934 (by decide +kernel) rfl
theorem q_955 : Cond.methodLink "WhoRulesLaw" 85 ⟨"WhoRules", "worth", "(III)J"⟩ ∈ ALL := all_in 955 (by decide +kernel) rfl
theorem q_994 : Cond.methodLink "WhoRulesLaw" 90 ⟨"WhoRules", "hollow", "(I)I"⟩ ∈ ALL := all_in 994 (by decide +kernel) rfl
theorem q_1002 : Cond.methodLink "WhoRulesLaw" 94 ⟨"WhoRules", "pivot", "(II)I"⟩ ∈ ALL := all_in 1002 (by decide +kernel) rfl
theorem q_1027 : Cond.methodLink "WhoRulesLaw" 98 ⟨"WhoRules", "buy", "(III)J"⟩ ∈ ALL := all_in 1027 (by decide +kernel) rfl
theorem q_1066 : Cond.methodLink "WhoRulesLaw" 102 ⟨"WhoRules", "sold", "(I)I"⟩ ∈ ALL := all_in 1066 (by decide +kernel) rfl
theorem q_1077 : Cond.methodLink "WhoRulesLaw" 106 ⟨"WhoRules", "free", "(I)J"⟩ ∈ ALL := all_in 1077 (by decide +kernel) rfl
theorem q_1090 : Cond.methodLink "WhoRulesLaw" 111 ⟨"WhoRules", "may", "(IIII)I"⟩ ∈ ALL := all_in 1090 (by decide +kernel) rfl
theorem q_1098 : Cond.methodLink "WhoRulesLaw" 115 ⟨"WhoRules", "motion", "(II)I"⟩ ∈ ALL := all_in 1098 (by decide +kernel) rfl
theorem q_1102 : Cond.methodLink "WhoRulesLaw" 119 ⟨"WhoRules", "alike", "(III)I"⟩ ∈ ALL := all_in 1102 (by decide +kernel) rfl
theorem q_1114 : Cond.methodLink "WhoRulesLaw" 123 ⟨"WhoRules", "found", "(I)I"⟩ ∈ ALL := all_in 1114 (by decide +kernel) rfl
theorem q_1128 : Cond.methodLink "WhoRulesLaw" 127 ⟨"WhoRules", "ring", "(I)I"⟩ ∈ ALL := all_in 1128 (by decide +kernel) rfl
theorem q_1139 : Cond.methodLink "WhoRulesLaw" 131 ⟨"WhoRules", "breaks", "()J"⟩ ∈ ALL := all_in 1139 (by decide +kernel) rfl
theorem q_1156 : Cond.methodLink "WhoRulesLaw" 136 ⟨"WhoRules", "act", "(III)I"⟩ ∈ ALL := all_in 1156 (by decide +kernel) rfl
theorem q_1160 : Cond.methodLink "WhoRules" 291 ⟨"WhoRules$Register", "holderAt", "(I)LWhoRules$Holder;"⟩ ∈ ALL := all_in 1160 (by decide +kernel) rfl
theorem q_1164 : Cond.methodLink "WhoRules" 295 ⟨"WhoRules$Holder", "doVotes", "(I)I"⟩ ∈ ALL := all_in 1164 (by decide +kernel) rfl
theorem q_1199 : Cond.methodLink "WhoRules" 300 ⟨"WhoRules$Holder", "doOwns", "(I)I"⟩ ∈ ALL := all_in 1199 (by decide +kernel) rfl
theorem q_1220 : Cond.methodLink "WhoRules" 303 ⟨"WhoRules$Holder", "doRules", "(I)I"⟩ ∈ ALL := all_in 1220 (by decide +kernel) rfl
theorem q_1250 : Cond.methodLink "WhoRulesLaw" 140 ⟨"WhoRules", "trace", "(I)I"⟩ ∈ ALL := all_in 1250 (by decide +kernel) rfl
theorem q_1254 : Cond.methodLink "WhoRulesLaw" 144 ⟨"WhoRules", "taken", "(II)I"⟩ ∈ ALL := all_in 1254 (by decide +kernel) rfl
theorem q_1258 : Cond.methodLink "WhoRules" 306 ⟨"WhoRules$Holder", "isUnder", "(I)Z"⟩ ∈ ALL := all_in 1258 (by decide +kernel) rfl
theorem q_1273 : Cond.methodLink "WhoRulesLaw" 148 ⟨"WhoRules", "count", "(I)I"⟩ ∈ ALL := all_in 1273 (by decide +kernel) rfl
theorem q_1277 : Cond.methodLink "WhoRulesLaw" 152 ⟨"WhoRules", "tape", "(III)I"⟩ ∈ ALL := all_in 1277 (by decide +kernel) rfl
theorem q_1284 : Cond.methodLink "WhoRulesLaw" 158 ⟨"WhoRules", "item", "(IIJ)I"⟩ ∈ ALL := all_in 1284 (by decide +kernel) rfl
theorem q_1291 : Cond.methodLink "WhoRulesLaw" 163 ⟨"WhoRules", "read", "(II)J"⟩ ∈ ALL := all_in 1291 (by decide +kernel) rfl
theorem q_1295 : Cond.methodLink "WhoRulesLaw" 168 ⟨"WhoRules", "shift", "(IIIII)I"⟩ ∈ ALL := all_in 1295 (by decide +kernel) rfl
theorem q_1300 : Cond.classLink "WhoRulesLaw" 10 "WhoRulesModel" ∈ ALL := all_in 1300 (by decide +kernel) rfl
theorem q_1302 : Cond.methodLink "WhoRulesLaw" 12 ⟨"WhoRulesModel", "<init>", "()V"⟩ ∈ ALL := all_in 1302 (by decide +kernel) rfl
theorem q_1305 : Cond.methodLink "WhoRulesModel" 1 ⟨"java/lang/Object", "<init>", "()V"⟩ ∈ ALL := all_in 1305 (by decide +kernel) rfl
theorem q_1539 : Cond.methodLink "WhoRulesLaw" 17 ⟨"WhoRulesModel", "pass", "(I)I"⟩ ∈ ALL := all_in 1539 (by decide +kernel) rfl
theorem q_1547 : Cond.methodLink "WhoRulesLaw" 22 ⟨"WhoRulesModel", "holder", "(II)I"⟩ ∈ ALL := all_in 1547 (by decide +kernel) rfl
theorem q_1551 : Cond.methodLink "WhoRulesLaw" 27 ⟨"WhoRulesModel", "share", "(IIII)I"⟩ ∈ ALL := all_in 1551 (by decide +kernel) rfl
theorem q_1563 : Cond.methodLink "WhoRulesLaw" 31 ⟨"WhoRulesModel", "price", "(II)I"⟩ ∈ ALL := all_in 1563 (by decide +kernel) rfl
theorem q_1571 : Cond.methodLink "WhoRulesLaw" 35 ⟨"WhoRulesModel", "sale", "(II)I"⟩ ∈ ALL := all_in 1571 (by decide +kernel) rfl
theorem q_1579 : Cond.methodLink "WhoRulesLaw" 39 ⟨"WhoRulesModel", "of", "(II)I"⟩ ∈ ALL := all_in 1579 (by decide +kernel) rfl
theorem q_1583 : Cond.methodLink "WhoRulesLaw" 44 ⟨"WhoRulesModel", "held", "(III)I"⟩ ∈ ALL := all_in 1583 (by decide +kernel) rfl
theorem q_1591 : Cond.methodLink "WhoRulesLaw" 48 ⟨"WhoRulesModel", "feed", "(II)I"⟩ ∈ ALL := all_in 1591 (by decide +kernel) rfl
theorem q_1595 : Cond.methodLink "WhoRulesLaw" 52 ⟨"WhoRulesModel", "charter", "(II)I"⟩ ∈ ALL := all_in 1595 (by decide +kernel) rfl
theorem q_1651 : Cond.methodLink "WhoRulesLaw" 56 ⟨"WhoRulesModel", "force", "(IIII)I"⟩ ∈ ALL := all_in 1651 (by decide +kernel) rfl
theorem q_1664 : Cond.methodLink "WhoRulesLaw" 60 ⟨"WhoRulesModel", "why", "(III)I"⟩ ∈ ALL := all_in 1664 (by decide +kernel) rfl
theorem q_1668 : Cond.methodLink "WhoRulesLaw" 64 ⟨"WhoRulesModel", "votes", "(III)I"⟩ ∈ ALL := all_in 1668 (by decide +kernel) rfl
theorem q_1684 : Cond.methodLink "WhoRulesLaw" 68 ⟨"WhoRulesModel", "carry", "(III)I"⟩ ∈ ALL := all_in 1684 (by decide +kernel) rfl
theorem q_1692 : Cond.methodLink "WhoRulesLaw" 72 ⟨"WhoRulesModel", "ruler", "(II)I"⟩ ∈ ALL := all_in 1692 (by decide +kernel) rfl
theorem q_1720 : Cond.methodLink "WhoRulesLaw" 76 ⟨"WhoRulesModel", "step", "(II)I"⟩ ∈ ALL := all_in 1720 (by decide +kernel) rfl
theorem q_1724 : Cond.methodLink "WhoRulesLaw" 80 ⟨"WhoRulesModel", "all", "(III)I"⟩ ∈ ALL := all_in 1724 (by decide +kernel) rfl
theorem q_1736 : Cond.methodLink "WhoRulesLaw" 84 ⟨"WhoRulesModel", "proof", "(III)I"⟩ ∈ ALL := all_in 1736 (by decide +kernel) rfl
theorem q_1744 : Cond.methodLink "WhoRulesLaw" 89 ⟨"WhoRulesModel", "worth", "(III)J"⟩ ∈ ALL := all_in 1744 (by decide +kernel) rfl
theorem q_1778 : Cond.methodLink "WhoRulesLaw" 93 ⟨"WhoRulesModel", "hollow", "(I)I"⟩ ∈ ALL := all_in 1778 (by decide +kernel) rfl
theorem q_1782 : Cond.methodLink "WhoRulesLaw" 97 ⟨"WhoRulesModel", "pivot", "(II)I"⟩ ∈ ALL := all_in 1782 (by decide +kernel) rfl
theorem q_1790 : Cond.methodLink "WhoRulesLaw" 101 ⟨"WhoRulesModel", "buy", "(III)J"⟩ ∈ ALL := all_in 1790 (by decide +kernel) rfl
theorem q_1811 : Cond.methodLink "WhoRulesLaw" 105 ⟨"WhoRulesModel", "sold", "(I)I"⟩ ∈ ALL := all_in 1811 (by decide +kernel) rfl
theorem q_1815 : Cond.methodLink "WhoRulesLaw" 110 ⟨"WhoRulesModel", "free", "(I)J"⟩ ∈ ALL := all_in 1815 (by decide +kernel) rfl
theorem q_1819 : Cond.methodLink "WhoRulesLaw" 114 ⟨"WhoRulesModel", "may", "(IIII)I"⟩ ∈ ALL := all_in 1819 (by decide +kernel) rfl
theorem q_1823 : Cond.methodLink "WhoRulesLaw" 118 ⟨"WhoRulesModel", "motion", "(II)I"⟩ ∈ ALL := all_in 1823 (by decide +kernel) rfl
theorem q_1827 : Cond.methodLink "WhoRulesLaw" 122 ⟨"WhoRulesModel", "alike", "(III)I"⟩ ∈ ALL := all_in 1827 (by decide +kernel) rfl
theorem q_1835 : Cond.methodLink "WhoRulesLaw" 126 ⟨"WhoRulesModel", "found", "(I)I"⟩ ∈ ALL := all_in 1835 (by decide +kernel) rfl
theorem q_1843 : Cond.methodLink "WhoRulesLaw" 130 ⟨"WhoRulesModel", "ring", "(I)I"⟩ ∈ ALL := all_in 1843 (by decide +kernel) rfl
theorem q_1859 : Cond.methodLink "WhoRulesLaw" 135 ⟨"WhoRulesModel", "breaks", "()J"⟩ ∈ ALL := all_in 1859 (by decide +kernel) rfl
theorem q_1867 : Cond.methodLink "WhoRulesLaw" 139 ⟨"WhoRulesModel", "act", "(III)I"⟩ ∈ ALL := all_in 1867 (by decide +kernel) rfl
theorem q_1907 : Cond.methodLink "WhoRulesLaw" 143 ⟨"WhoRulesModel", "trace", "(I)I"⟩ ∈ ALL := all_in 1907 (by decide +kernel) rfl
theorem q_1911 : Cond.methodLink "WhoRulesLaw" 147 ⟨"WhoRulesModel", "taken", "(II)I"⟩ ∈ ALL := all_in 1911 (by decide +kernel) rfl
theorem q_1915 : Cond.methodLink "WhoRulesLaw" 151 ⟨"WhoRulesModel", "count", "(I)I"⟩ ∈ ALL := all_in 1915 (by decide +kernel) rfl
theorem q_1919 : Cond.methodLink "WhoRulesLaw" 155 ⟨"WhoRulesModel", "tape", "(III)I"⟩ ∈ ALL := all_in 1919 (by decide +kernel) rfl
theorem q_1923 : Cond.methodLink "WhoRulesLaw" 162 ⟨"WhoRulesModel", "item", "(IIJ)I"⟩ ∈ ALL := all_in 1923 (by decide +kernel) rfl
theorem q_1931 : Cond.methodLink "WhoRulesLaw" 167 ⟨"WhoRulesModel", "read", "(II)J"⟩ ∈ ALL := all_in 1931 (by decide +kernel) rfl
theorem q_1935 : Cond.methodLink "WhoRulesLaw" 172 ⟨"WhoRulesModel", "shift", "(IIIII)I"⟩ ∈ ALL := all_in 1935 (by decide +kernel) rfl
theorem cq_W_init : Cond.instanceMethod y_W_init ∈ ALL ∧ Cond.initialized y_W_init.cls ∈ ALL ∧ Cond.code y_W_init b_W_init 1 none ∈ ALL ∧ (y_W_init.cls ≠ "java/lang/invoke/MethodHandle" ∧ y_W_init.cls ≠ "java/lang/invoke/VarHandle" ∧ (parseMethodDescriptor y_W_init.desc).map (fun d => d.parameters.length) = some 0) := ⟨all_in 133 (by decide +kernel) rfl, all_in 109 (by decide +kernel) rfl, all_in 134 (by decide +kernel) rfl, by decide +kernel⟩
theorem cq_W_act : cqV y_W_act b_W_act 5 (some .int) 3 := ⟨all_in 1157 (by decide +kernel) rfl, all_in 1158 (by decide +kernel) rfl, all_in 109 (by decide +kernel) rfl, all_in 1159 (by decide +kernel) rfl, by decide +kernel⟩
theorem cq_W_alike : cqV y_W_alike b_W_alike 4 (some .int) 3 := ⟨all_in 1103 (by decide +kernel) rfl, all_in 1104 (by decide +kernel) rfl, all_in 109 (by decide +kernel) rfl, all_in 1105 (by decide +kernel) rfl, by decide +kernel⟩
theorem cq_W_all : cqV y_W_all b_W_all 4 (some .int) 3 := ⟨all_in 895 (by decide +kernel) rfl, all_in 896 (by decide +kernel) rfl, all_in 109 (by decide +kernel) rfl, all_in 897 (by decide +kernel) rfl, by decide +kernel⟩
theorem cq_W_breaks : cqV y_W_breaks b_W_breaks 1 (some .long) 0 := ⟨all_in 1140 (by decide +kernel) rfl, all_in 1141 (by decide +kernel) rfl, all_in 109 (by decide +kernel) rfl, all_in 1142 (by decide +kernel) rfl, by decide +kernel⟩
theorem cq_W_buy : cqV y_W_buy b_W_buy 6 (some .long) 3 := ⟨all_in 1028 (by decide +kernel) rfl, all_in 1029 (by decide +kernel) rfl, all_in 109 (by decide +kernel) rfl, all_in 1030 (by decide +kernel) rfl, by decide +kernel⟩
theorem cq_W_carry : cqV y_W_carry b_W_carry 4 (some .int) 3 := ⟨all_in 849 (by decide +kernel) rfl, all_in 850 (by decide +kernel) rfl, all_in 109 (by decide +kernel) rfl, all_in 851 (by decide +kernel) rfl, by decide +kernel⟩
theorem cq_W_charter : cqV y_W_charter b_W_charter 4 (some .int) 2 := ⟨all_in 651 (by decide +kernel) rfl, all_in 652 (by decide +kernel) rfl, all_in 109 (by decide +kernel) rfl, all_in 653 (by decide +kernel) rfl, by decide +kernel⟩
theorem cq_W_count : cqV y_W_count b_W_count 2 (some .int) 1 := ⟨all_in 1274 (by decide +kernel) rfl, all_in 1275 (by decide +kernel) rfl, all_in 109 (by decide +kernel) rfl, all_in 1276 (by decide +kernel) rfl, by decide +kernel⟩
theorem cq_W_feed : cqV y_W_feed b_W_feed 4 (some .int) 2 := ⟨all_in 643 (by decide +kernel) rfl, all_in 644 (by decide +kernel) rfl, all_in 109 (by decide +kernel) rfl, all_in 645 (by decide +kernel) rfl, by decide +kernel⟩
theorem cq_W_force : cqV y_W_force b_W_force 5 (some .int) 4 := ⟨all_in 769 (by decide +kernel) rfl, all_in 770 (by decide +kernel) rfl, all_in 109 (by decide +kernel) rfl, all_in 771 (by decide +kernel) rfl, by decide +kernel⟩
theorem cq_W_found : cqV y_W_found b_W_found 6 (some .int) 1 := ⟨all_in 1115 (by decide +kernel) rfl, all_in 1116 (by decide +kernel) rfl, all_in 109 (by decide +kernel) rfl, all_in 1117 (by decide +kernel) rfl, by decide +kernel⟩
theorem cq_W_free : cqV y_W_free b_W_free 2 (some .long) 1 := ⟨all_in 1078 (by decide +kernel) rfl, all_in 1079 (by decide +kernel) rfl, all_in 109 (by decide +kernel) rfl, all_in 1080 (by decide +kernel) rfl, by decide +kernel⟩
theorem cq_W_held : cqV y_W_held b_W_held 4 (some .int) 3 := ⟨all_in 636 (by decide +kernel) rfl, all_in 637 (by decide +kernel) rfl, all_in 109 (by decide +kernel) rfl, all_in 638 (by decide +kernel) rfl, by decide +kernel⟩
theorem cq_W_holder : cqV y_W_holder b_W_holder 3 (some .int) 2 := ⟨all_in 492 (by decide +kernel) rfl, all_in 493 (by decide +kernel) rfl, all_in 109 (by decide +kernel) rfl, all_in 494 (by decide +kernel) rfl, by decide +kernel⟩
theorem cq_W_hollow : cqV y_W_hollow b_W_hollow 2 (some .int) 1 := ⟨all_in 995 (by decide +kernel) rfl, all_in 996 (by decide +kernel) rfl, all_in 109 (by decide +kernel) rfl, all_in 997 (by decide +kernel) rfl, by decide +kernel⟩
theorem cq_W_item : cqV y_W_item b_W_item 5 (some .int) 3 := ⟨all_in 1285 (by decide +kernel) rfl, all_in 1286 (by decide +kernel) rfl, all_in 109 (by decide +kernel) rfl, all_in 1287 (by decide +kernel) rfl, by decide +kernel⟩
theorem cq_W_may : cqV y_W_may b_W_may 5 (some .int) 4 := ⟨all_in 1091 (by decide +kernel) rfl, all_in 1092 (by decide +kernel) rfl, all_in 109 (by decide +kernel) rfl, all_in 1093 (by decide +kernel) rfl, by decide +kernel⟩
theorem cq_W_motion : cqV y_W_motion b_W_motion 3 (some .int) 2 := ⟨all_in 1099 (by decide +kernel) rfl, all_in 1100 (by decide +kernel) rfl, all_in 109 (by decide +kernel) rfl, all_in 1101 (by decide +kernel) rfl, by decide +kernel⟩
theorem cq_W_of : cqV y_W_of b_W_of 3 (some .int) 2 := ⟨all_in 632 (by decide +kernel) rfl, all_in 633 (by decide +kernel) rfl, all_in 109 (by decide +kernel) rfl, all_in 634 (by decide +kernel) rfl, by decide +kernel⟩
theorem cq_W_pass : cqV y_W_pass b_W_pass 2 (some .int) 1 := ⟨all_in 488 (by decide +kernel) rfl, all_in 489 (by decide +kernel) rfl, all_in 109 (by decide +kernel) rfl, all_in 490 (by decide +kernel) rfl, by decide +kernel⟩
theorem cq_W_pivot : cqV y_W_pivot b_W_pivot 3 (some .int) 2 := ⟨all_in 1003 (by decide +kernel) rfl, all_in 1004 (by decide +kernel) rfl, all_in 109 (by decide +kernel) rfl, all_in 1005 (by decide +kernel) rfl, by decide +kernel⟩
theorem cq_W_price : cqV y_W_price b_W_price 4 (some .int) 2 := ⟨all_in 610 (by decide +kernel) rfl, all_in 611 (by decide +kernel) rfl, all_in 109 (by decide +kernel) rfl, all_in 612 (by decide +kernel) rfl, by decide +kernel⟩
theorem cq_W_proof : cqV y_W_proof b_W_proof 5 (some .int) 3 := ⟨all_in 935 (by decide +kernel) rfl, all_in 936 (by decide +kernel) rfl, all_in 109 (by decide +kernel) rfl, all_in 937 (by decide +kernel) rfl, by decide +kernel⟩
theorem cq_W_read : cqV y_W_read b_W_read 3 (some .long) 2 := ⟨all_in 1292 (by decide +kernel) rfl, all_in 1293 (by decide +kernel) rfl, all_in 109 (by decide +kernel) rfl, all_in 1294 (by decide +kernel) rfl, by decide +kernel⟩
theorem cq_W_ring : cqV y_W_ring b_W_ring 3 (some .int) 1 := ⟨all_in 1129 (by decide +kernel) rfl, all_in 1130 (by decide +kernel) rfl, all_in 109 (by decide +kernel) rfl, all_in 1131 (by decide +kernel) rfl, by decide +kernel⟩
theorem cq_W_ruler : cqV y_W_ruler b_W_ruler 3 (some .int) 2 := ⟨all_in 861 (by decide +kernel) rfl, all_in 862 (by decide +kernel) rfl, all_in 109 (by decide +kernel) rfl, all_in 863 (by decide +kernel) rfl, by decide +kernel⟩
theorem cq_W_sale : cqV y_W_sale b_W_sale 3 (some .int) 2 := ⟨all_in 618 (by decide +kernel) rfl, all_in 619 (by decide +kernel) rfl, all_in 109 (by decide +kernel) rfl, all_in 620 (by decide +kernel) rfl, by decide +kernel⟩
theorem cq_W_share : cqV y_W_share b_W_share 5 (some .int) 4 := ⟨all_in 589 (by decide +kernel) rfl, all_in 590 (by decide +kernel) rfl, all_in 109 (by decide +kernel) rfl, all_in 591 (by decide +kernel) rfl, by decide +kernel⟩
theorem cq_W_shift : cqV y_W_shift b_W_shift 6 (some .int) 5 := ⟨all_in 1296 (by decide +kernel) rfl, all_in 1297 (by decide +kernel) rfl, all_in 109 (by decide +kernel) rfl, all_in 1298 (by decide +kernel) rfl, by decide +kernel⟩
theorem cq_W_sold : cqV y_W_sold b_W_sold 2 (some .int) 1 := ⟨all_in 1067 (by decide +kernel) rfl, all_in 1068 (by decide +kernel) rfl, all_in 109 (by decide +kernel) rfl, all_in 1069 (by decide +kernel) rfl, by decide +kernel⟩
theorem cq_W_step : cqV y_W_step b_W_step 3 (some .int) 2 := ⟨all_in 891 (by decide +kernel) rfl, all_in 892 (by decide +kernel) rfl, all_in 109 (by decide +kernel) rfl, all_in 893 (by decide +kernel) rfl, by decide +kernel⟩
theorem cq_W_taken : cqV y_W_taken b_W_taken 4 (some .int) 2 := ⟨all_in 1255 (by decide +kernel) rfl, all_in 1256 (by decide +kernel) rfl, all_in 109 (by decide +kernel) rfl, all_in 1257 (by decide +kernel) rfl, by decide +kernel⟩
theorem cq_W_tape : cqV y_W_tape b_W_tape 4 (some .int) 3 := ⟨all_in 1278 (by decide +kernel) rfl, all_in 1279 (by decide +kernel) rfl, all_in 109 (by decide +kernel) rfl, all_in 1280 (by decide +kernel) rfl, by decide +kernel⟩
theorem cq_W_trace : cqV y_W_trace b_W_trace 2 (some .int) 1 := ⟨all_in 1251 (by decide +kernel) rfl, all_in 1252 (by decide +kernel) rfl, all_in 109 (by decide +kernel) rfl, all_in 1253 (by decide +kernel) rfl, by decide +kernel⟩
theorem cq_W_votes : cqV y_W_votes b_W_votes 4 (some .int) 3 := ⟨all_in 833 (by decide +kernel) rfl, all_in 834 (by decide +kernel) rfl, all_in 109 (by decide +kernel) rfl, all_in 835 (by decide +kernel) rfl, by decide +kernel⟩
theorem cq_W_why : cqV y_W_why b_W_why 5 (some .int) 3 := ⟨all_in 828 (by decide +kernel) rfl, all_in 829 (by decide +kernel) rfl, all_in 109 (by decide +kernel) rfl, all_in 830 (by decide +kernel) rfl, by decide +kernel⟩
theorem cq_W_worth : cqV y_W_worth b_W_worth 4 (some .long) 3 := ⟨all_in 956 (by decide +kernel) rfl, all_in 957 (by decide +kernel) rfl, all_in 109 (by decide +kernel) rfl, all_in 958 (by decide +kernel) rfl, by decide +kernel⟩
theorem cq_C_init : Cond.instanceMethod y_C_init ∈ ALL ∧ Cond.initialized y_C_init.cls ∈ ALL ∧ Cond.code y_C_init b_C_init 1 none ∈ ALL ∧ (y_C_init.cls ≠ "java/lang/invoke/MethodHandle" ∧ y_C_init.cls ≠ "java/lang/invoke/VarHandle" ∧ (parseMethodDescriptor y_C_init.desc).map (fun d => d.parameters.length) = some 0) := ⟨all_in 254 (by decide +kernel) rfl, all_in 111 (by decide +kernel) rfl, all_in 255 (by decide +kernel) rfl, by decide +kernel⟩
theorem cq_Hc_init : Cond.instanceMethod y_Hc_init ∈ ALL ∧ Cond.initialized y_Hc_init.cls ∈ ALL ∧ Cond.code y_Hc_init b_Hc_init 3 none ∈ ALL ∧ (y_Hc_init.cls ≠ "java/lang/invoke/MethodHandle" ∧ y_Hc_init.cls ≠ "java/lang/invoke/VarHandle" ∧ (parseMethodDescriptor y_Hc_init.desc).map (fun d => d.parameters.length) = some 2) := ⟨all_in 559 (by decide +kernel) rfl, all_in 122 (by decide +kernel) rfl, all_in 560 (by decide +kernel) rfl, by decide +kernel⟩
theorem cq_Hf_init : Cond.instanceMethod y_Hf_init ∈ ALL ∧ Cond.initialized y_Hf_init.cls ∈ ALL ∧ Cond.code y_Hf_init b_Hf_init 3 none ∈ ALL ∧ (y_Hf_init.cls ≠ "java/lang/invoke/MethodHandle" ∧ y_Hf_init.cls ≠ "java/lang/invoke/VarHandle" ∧ (parseMethodDescriptor y_Hf_init.desc).map (fun d => d.parameters.length) = some 2) := ⟨all_in 505 (by decide +kernel) rfl, all_in 118 (by decide +kernel) rfl, all_in 506 (by decide +kernel) rfl, by decide +kernel⟩
theorem cq_F_init : Cond.instanceMethod y_F_init ∈ ALL ∧ Cond.initialized y_F_init.cls ∈ ALL ∧ Cond.code y_F_init b_F_init 2 none ∈ ALL ∧ (y_F_init.cls ≠ "java/lang/invoke/MethodHandle" ∧ y_F_init.cls ≠ "java/lang/invoke/VarHandle" ∧ (parseMethodDescriptor y_F_init.desc).map (fun d => d.parameters.length) = some 1) := ⟨all_in 405 (by decide +kernel) rfl, all_in 114 (by decide +kernel) rfl, all_in 406 (by decide +kernel) rfl, by decide +kernel⟩
theorem cq_Hu_init : Cond.instanceMethod y_Hu_init ∈ ALL ∧ Cond.initialized y_Hu_init.cls ∈ ALL ∧ Cond.code y_Hu_init b_Hu_init 3 none ∈ ALL ∧ (y_Hu_init.cls ≠ "java/lang/invoke/MethodHandle" ∧ y_Hu_init.cls ≠ "java/lang/invoke/VarHandle" ∧ (parseMethodDescriptor y_Hu_init.desc).map (fun d => d.parameters.length) = some 2) := ⟨all_in 549 (by decide +kernel) rfl, all_in 121 (by decide +kernel) rfl, all_in 550 (by decide +kernel) rfl, by decide +kernel⟩
theorem cq_H_init : Cond.instanceMethod y_H_init ∈ ALL ∧ Cond.initialized y_H_init.cls ∈ ALL ∧ Cond.code y_H_init b_H_init 4 none ∈ ALL ∧ (y_H_init.cls ≠ "java/lang/invoke/MethodHandle" ∧ y_H_init.cls ≠ "java/lang/invoke/VarHandle" ∧ (parseMethodDescriptor y_H_init.desc).map (fun d => d.parameters.length) = some 3) := ⟨all_in 508 (by decide +kernel) rfl, all_in 117 (by decide +kernel) rfl, all_in 509 (by decide +kernel) rfl, by decide +kernel⟩
theorem cq_Hk_init : Cond.instanceMethod y_Hk_init ∈ ALL ∧ Cond.initialized y_Hk_init.cls ∈ ALL ∧ Cond.code y_Hk_init b_Hk_init 4 none ∈ ALL ∧ (y_Hk_init.cls ≠ "java/lang/invoke/MethodHandle" ∧ y_Hk_init.cls ≠ "java/lang/invoke/VarHandle" ∧ (parseMethodDescriptor y_Hk_init.desc).map (fun d => d.parameters.length) = some 3) := ⟨all_in 539 (by decide +kernel) rfl, all_in 120 (by decide +kernel) rfl, all_in 540 (by decide +kernel) rfl, by decide +kernel⟩
theorem cq_Hp_init : Cond.instanceMethod y_Hp_init ∈ ALL ∧ Cond.initialized y_Hp_init.cls ∈ ALL ∧ Cond.code y_Hp_init b_Hp_init 4 none ∈ ALL ∧ (y_Hp_init.cls ≠ "java/lang/invoke/MethodHandle" ∧ y_Hp_init.cls ≠ "java/lang/invoke/VarHandle" ∧ (parseMethodDescriptor y_Hp_init.desc).map (fun d => d.parameters.length) = some 3) := ⟨all_in 529 (by decide +kernel) rfl, all_in 119 (by decide +kernel) rfl, all_in 530 (by decide +kernel) rfl, by decide +kernel⟩
theorem cq_R_init : Cond.instanceMethod y_R_init ∈ ALL ∧ Cond.initialized y_R_init.cls ∈ ALL ∧ Cond.code y_R_init b_R_init 1 none ∈ ALL ∧ (y_R_init.cls ≠ "java/lang/invoke/MethodHandle" ∧ y_R_init.cls ≠ "java/lang/invoke/VarHandle" ∧ (parseMethodDescriptor y_R_init.desc).map (fun d => d.parameters.length) = some 0) := ⟨all_in 141 (by decide +kernel) rfl, all_in 110 (by decide +kernel) rfl, all_in 142 (by decide +kernel) rfl, by decide +kernel⟩
theorem cq_R_enter : cqV y_R_enter b_R_enter 5 (some .int) 3 := ⟨all_in 496 (by decide +kernel) rfl, all_in 497 (by decide +kernel) rfl, all_in 110 (by decide +kernel) rfl, all_in 498 (by decide +kernel) rfl, by decide +kernel⟩
theorem cq_R_headOf : cqV y_R_headOf b_R_headOf 4 (some .int) 2 := ⟨all_in 574 (by decide +kernel) rfl, all_in 0 (by decide +kernel) rfl, all_in 110 (by decide +kernel) rfl, all_in 575 (by decide +kernel) rfl, by decide +kernel⟩
theorem cq_R_holderAt : cqV y_R_holderAt b_R_holderAt 2 (some (.object "WhoRules$Holder")) 1 := ⟨all_in 1161 (by decide +kernel) rfl, all_in 1162 (by decide +kernel) rfl, all_in 110 (by decide +kernel) rfl, all_in 1163 (by decide +kernel) rfl, by decide +kernel⟩
theorem cq_R_made : cqS y_R_made b_R_made 4 (some (.object "WhoRules$Holder")) 4 := ⟨all_in 500 (by decide +kernel) rfl, all_in 110 (by decide +kernel) rfl, all_in 501 (by decide +kernel) rfl, by decide +kernel⟩
theorem cq_U_init : Cond.instanceMethod y_U_init ∈ ALL ∧ Cond.initialized y_U_init.cls ∈ ALL ∧ Cond.code y_U_init b_U_init 3 none ∈ ALL ∧ (y_U_init.cls ≠ "java/lang/invoke/MethodHandle" ∧ y_U_init.cls ≠ "java/lang/invoke/VarHandle" ∧ (parseMethodDescriptor y_U_init.desc).map (fun d => d.parameters.length) = some 2) := ⟨all_in 300 (by decide +kernel) rfl, all_in 112 (by decide +kernel) rfl, all_in 301 (by decide +kernel) rfl, by decide +kernel⟩
theorem cq_S_init : Cond.instanceMethod y_S_init ∈ ALL ∧ Cond.initialized y_S_init.cls ∈ ALL ∧ Cond.code y_S_init b_S_init 3 none ∈ ALL ∧ (y_S_init.cls ≠ "java/lang/invoke/MethodHandle" ∧ y_S_init.cls ≠ "java/lang/invoke/VarHandle" ∧ (parseMethodDescriptor y_S_init.desc).map (fun d => d.parameters.length) = some 2) := ⟨all_in 361 (by decide +kernel) rfl, all_in 113 (by decide +kernel) rfl, all_in 362 (by decide +kernel) rfl, by decide +kernel⟩
theorem cq_m_init : Cond.instanceMethod y_m_init ∈ ALL ∧ Cond.initialized y_m_init.cls ∈ ALL ∧ Cond.code y_m_init b_m_init 1 none ∈ ALL ∧ (y_m_init.cls ≠ "java/lang/invoke/MethodHandle" ∧ y_m_init.cls ≠ "java/lang/invoke/VarHandle" ∧ (parseMethodDescriptor y_m_init.desc).map (fun d => d.parameters.length) = some 0) := ⟨all_in 1303 (by decide +kernel) rfl, all_in 116 (by decide +kernel) rfl, all_in 1304 (by decide +kernel) rfl, by decide +kernel⟩
theorem cq_m_act : cqV y_m_act b_m_act 4 (some .int) 3 := ⟨all_in 1868 (by decide +kernel) rfl, all_in 1869 (by decide +kernel) rfl, all_in 116 (by decide +kernel) rfl, all_in 1870 (by decide +kernel) rfl, by decide +kernel⟩
theorem cq_m_alike : cqV y_m_alike b_m_alike 4 (some .int) 3 := ⟨all_in 1828 (by decide +kernel) rfl, all_in 1829 (by decide +kernel) rfl, all_in 116 (by decide +kernel) rfl, all_in 1830 (by decide +kernel) rfl, by decide +kernel⟩
theorem cq_m_all : cqV y_m_all b_m_all 10 (some .int) 3 := ⟨all_in 1725 (by decide +kernel) rfl, all_in 1726 (by decide +kernel) rfl, all_in 116 (by decide +kernel) rfl, all_in 1727 (by decide +kernel) rfl, by decide +kernel⟩
theorem cq_m_breaks : cqV y_m_breaks b_m_breaks 6 (some .long) 0 := ⟨all_in 1860 (by decide +kernel) rfl, all_in 1861 (by decide +kernel) rfl, all_in 116 (by decide +kernel) rfl, all_in 1862 (by decide +kernel) rfl, by decide +kernel⟩
theorem cq_m_buy : cqV y_m_buy b_m_buy 4 (some .long) 3 := ⟨all_in 1791 (by decide +kernel) rfl, all_in 1792 (by decide +kernel) rfl, all_in 116 (by decide +kernel) rfl, all_in 1793 (by decide +kernel) rfl, by decide +kernel⟩
theorem cq_m_carry : cqV y_m_carry b_m_carry 4 (some .int) 3 := ⟨all_in 1685 (by decide +kernel) rfl, all_in 1686 (by decide +kernel) rfl, all_in 116 (by decide +kernel) rfl, all_in 1687 (by decide +kernel) rfl, by decide +kernel⟩
theorem cq_m_charter : cqV y_m_charter b_m_charter 4 (some .int) 2 := ⟨all_in 1596 (by decide +kernel) rfl, all_in 1597 (by decide +kernel) rfl, all_in 116 (by decide +kernel) rfl, all_in 1598 (by decide +kernel) rfl, by decide +kernel⟩
theorem cq_m_count : cqV y_m_count b_m_count 2 (some .int) 1 := ⟨all_in 1916 (by decide +kernel) rfl, all_in 1917 (by decide +kernel) rfl, all_in 116 (by decide +kernel) rfl, all_in 1918 (by decide +kernel) rfl, by decide +kernel⟩
theorem cq_m_feed : cqV y_m_feed b_m_feed 4 (some .int) 2 := ⟨all_in 1592 (by decide +kernel) rfl, all_in 1593 (by decide +kernel) rfl, all_in 116 (by decide +kernel) rfl, all_in 1594 (by decide +kernel) rfl, by decide +kernel⟩
theorem cq_m_force : cqV y_m_force b_m_force 6 (some .int) 4 := ⟨all_in 1652 (by decide +kernel) rfl, all_in 1653 (by decide +kernel) rfl, all_in 116 (by decide +kernel) rfl, all_in 1654 (by decide +kernel) rfl, by decide +kernel⟩
theorem cq_m_found : cqV y_m_found b_m_found 7 (some .int) 1 := ⟨all_in 1836 (by decide +kernel) rfl, all_in 1837 (by decide +kernel) rfl, all_in 116 (by decide +kernel) rfl, all_in 1838 (by decide +kernel) rfl, by decide +kernel⟩
theorem cq_m_free : cqV y_m_free b_m_free 6 (some .long) 1 := ⟨all_in 1816 (by decide +kernel) rfl, all_in 1817 (by decide +kernel) rfl, all_in 116 (by decide +kernel) rfl, all_in 1818 (by decide +kernel) rfl, by decide +kernel⟩
theorem cq_m_held : cqV y_m_held b_m_held 4 (some .int) 3 := ⟨all_in 1584 (by decide +kernel) rfl, all_in 1585 (by decide +kernel) rfl, all_in 116 (by decide +kernel) rfl, all_in 1586 (by decide +kernel) rfl, by decide +kernel⟩
theorem cq_m_holder : cqV y_m_holder b_m_holder 3 (some .int) 2 := ⟨all_in 1548 (by decide +kernel) rfl, all_in 1549 (by decide +kernel) rfl, all_in 116 (by decide +kernel) rfl, all_in 1550 (by decide +kernel) rfl, by decide +kernel⟩
theorem cq_m_hollow : cqV y_m_hollow b_m_hollow 2 (some .int) 1 := ⟨all_in 1779 (by decide +kernel) rfl, all_in 1780 (by decide +kernel) rfl, all_in 116 (by decide +kernel) rfl, all_in 1781 (by decide +kernel) rfl, by decide +kernel⟩
theorem cq_m_item : cqV y_m_item b_m_item 5 (some .int) 3 := ⟨all_in 1924 (by decide +kernel) rfl, all_in 1925 (by decide +kernel) rfl, all_in 116 (by decide +kernel) rfl, all_in 1926 (by decide +kernel) rfl, by decide +kernel⟩
theorem cq_m_may : cqV y_m_may b_m_may 6 (some .int) 4 := ⟨all_in 1820 (by decide +kernel) rfl, all_in 1821 (by decide +kernel) rfl, all_in 116 (by decide +kernel) rfl, all_in 1822 (by decide +kernel) rfl, by decide +kernel⟩
theorem cq_m_motion : cqV y_m_motion b_m_motion 3 (some .int) 2 := ⟨all_in 1824 (by decide +kernel) rfl, all_in 1825 (by decide +kernel) rfl, all_in 116 (by decide +kernel) rfl, all_in 1826 (by decide +kernel) rfl, by decide +kernel⟩
theorem cq_m_of : cqV y_m_of b_m_of 3 (some .int) 2 := ⟨all_in 1580 (by decide +kernel) rfl, all_in 1581 (by decide +kernel) rfl, all_in 116 (by decide +kernel) rfl, all_in 1582 (by decide +kernel) rfl, by decide +kernel⟩
theorem cq_m_pass : cqV y_m_pass b_m_pass 2 (some .int) 1 := ⟨all_in 1540 (by decide +kernel) rfl, all_in 1541 (by decide +kernel) rfl, all_in 116 (by decide +kernel) rfl, all_in 1542 (by decide +kernel) rfl, by decide +kernel⟩
theorem cq_m_pivot : cqV y_m_pivot b_m_pivot 9 (some .int) 2 := ⟨all_in 1783 (by decide +kernel) rfl, all_in 1784 (by decide +kernel) rfl, all_in 116 (by decide +kernel) rfl, all_in 1785 (by decide +kernel) rfl, by decide +kernel⟩
theorem cq_m_price : cqV y_m_price b_m_price 4 (some .int) 2 := ⟨all_in 1564 (by decide +kernel) rfl, all_in 1565 (by decide +kernel) rfl, all_in 116 (by decide +kernel) rfl, all_in 1566 (by decide +kernel) rfl, by decide +kernel⟩
theorem cq_m_proof : cqV y_m_proof b_m_proof 8 (some .int) 3 := ⟨all_in 1737 (by decide +kernel) rfl, all_in 1738 (by decide +kernel) rfl, all_in 116 (by decide +kernel) rfl, all_in 1739 (by decide +kernel) rfl, by decide +kernel⟩
theorem cq_m_read : cqV y_m_read b_m_read 3 (some .long) 2 := ⟨all_in 1932 (by decide +kernel) rfl, all_in 1933 (by decide +kernel) rfl, all_in 116 (by decide +kernel) rfl, all_in 1934 (by decide +kernel) rfl, by decide +kernel⟩
theorem cq_m_ring : cqV y_m_ring b_m_ring 2 (some .int) 1 := ⟨all_in 1844 (by decide +kernel) rfl, all_in 1845 (by decide +kernel) rfl, all_in 116 (by decide +kernel) rfl, all_in 1846 (by decide +kernel) rfl, by decide +kernel⟩
theorem cq_m_ruler : cqV y_m_ruler b_m_ruler 3 (some .int) 2 := ⟨all_in 1693 (by decide +kernel) rfl, all_in 1694 (by decide +kernel) rfl, all_in 116 (by decide +kernel) rfl, all_in 1695 (by decide +kernel) rfl, by decide +kernel⟩
theorem cq_m_sale : cqV y_m_sale b_m_sale 3 (some .int) 2 := ⟨all_in 1572 (by decide +kernel) rfl, all_in 1573 (by decide +kernel) rfl, all_in 116 (by decide +kernel) rfl, all_in 1574 (by decide +kernel) rfl, by decide +kernel⟩
theorem cq_m_share : cqV y_m_share b_m_share 7 (some .int) 4 := ⟨all_in 1552 (by decide +kernel) rfl, all_in 1553 (by decide +kernel) rfl, all_in 116 (by decide +kernel) rfl, all_in 1554 (by decide +kernel) rfl, by decide +kernel⟩
theorem cq_m_shift : cqV y_m_shift b_m_shift 7 (some .int) 5 := ⟨all_in 1936 (by decide +kernel) rfl, all_in 1937 (by decide +kernel) rfl, all_in 116 (by decide +kernel) rfl, all_in 1938 (by decide +kernel) rfl, by decide +kernel⟩
theorem cq_m_sold : cqV y_m_sold b_m_sold 4 (some .int) 1 := ⟨all_in 1812 (by decide +kernel) rfl, all_in 1813 (by decide +kernel) rfl, all_in 116 (by decide +kernel) rfl, all_in 1814 (by decide +kernel) rfl, by decide +kernel⟩
theorem cq_m_step : cqV y_m_step b_m_step 3 (some .int) 2 := ⟨all_in 1721 (by decide +kernel) rfl, all_in 1722 (by decide +kernel) rfl, all_in 116 (by decide +kernel) rfl, all_in 1723 (by decide +kernel) rfl, by decide +kernel⟩
theorem cq_m_taken : cqV y_m_taken b_m_taken 3 (some .int) 2 := ⟨all_in 1912 (by decide +kernel) rfl, all_in 1913 (by decide +kernel) rfl, all_in 116 (by decide +kernel) rfl, all_in 1914 (by decide +kernel) rfl, by decide +kernel⟩
theorem cq_m_tape : cqV y_m_tape b_m_tape 5 (some .int) 3 := ⟨all_in 1920 (by decide +kernel) rfl, all_in 1921 (by decide +kernel) rfl, all_in 116 (by decide +kernel) rfl, all_in 1922 (by decide +kernel) rfl, by decide +kernel⟩
theorem cq_m_trace : cqV y_m_trace b_m_trace 2 (some .int) 1 := ⟨all_in 1908 (by decide +kernel) rfl, all_in 1909 (by decide +kernel) rfl, all_in 116 (by decide +kernel) rfl, all_in 1910 (by decide +kernel) rfl, by decide +kernel⟩
theorem cq_m_votes : cqV y_m_votes b_m_votes 4 (some .int) 3 := ⟨all_in 1669 (by decide +kernel) rfl, all_in 1670 (by decide +kernel) rfl, all_in 116 (by decide +kernel) rfl, all_in 1671 (by decide +kernel) rfl, by decide +kernel⟩
theorem cq_m_why : cqV y_m_why b_m_why 5 (some .int) 3 := ⟨all_in 1665 (by decide +kernel) rfl, all_in 1666 (by decide +kernel) rfl, all_in 116 (by decide +kernel) rfl, all_in 1667 (by decide +kernel) rfl, by decide +kernel⟩
theorem cq_m_worth : cqV y_m_worth b_m_worth 11 (some .long) 3 := ⟨all_in 1745 (by decide +kernel) rfl, all_in 1746 (by decide +kernel) rfl, all_in 116 (by decide +kernel) rfl, all_in 1747 (by decide +kernel) rfl, by decide +kernel⟩
