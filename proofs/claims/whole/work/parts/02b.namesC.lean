/-! Written by wip/whole/gen. Names, and what each instruction is. -/
abbrev b_JI_bitCount : ByteArray := prog_15_method_49_code
abbrev y_JI_bitCount : MethodName := ⟨"java/lang/Integer", "bitCount", "(I)I"⟩
theorem d_JI_bitCount_0 : decode b_JI_bitCount 0 = .ok (.iload_n 0, 1) := by decide +kernel
theorem d_JI_bitCount_1 : decode b_JI_bitCount 1 = .ok (.iload_n 0, 1) := by decide +kernel
theorem d_JI_bitCount_2 : decode b_JI_bitCount 2 = .ok (.iconst 1, 1) := by decide +kernel
theorem d_JI_bitCount_3 : decode b_JI_bitCount 3 = .ok (.iushr, 1) := by decide +kernel
theorem d_JI_bitCount_4 : decode b_JI_bitCount 4 = .ok (.ldc_w 265, 3) := by decide +kernel
theorem d_JI_bitCount_7 : decode b_JI_bitCount 7 = .ok (.iand, 1) := by decide +kernel
theorem d_JI_bitCount_8 : decode b_JI_bitCount 8 = .ok (.isub, 1) := by decide +kernel
theorem d_JI_bitCount_9 : decode b_JI_bitCount 9 = .ok (.istore_n 0, 1) := by decide +kernel
theorem d_JI_bitCount_10 : decode b_JI_bitCount 10 = .ok (.iload_n 0, 1) := by decide +kernel
theorem d_JI_bitCount_11 : decode b_JI_bitCount 11 = .ok (.ldc_w 266, 3) := by decide +kernel
theorem d_JI_bitCount_14 : decode b_JI_bitCount 14 = .ok (.iand, 1) := by decide +kernel
theorem d_JI_bitCount_15 : decode b_JI_bitCount 15 = .ok (.iload_n 0, 1) := by decide +kernel
theorem d_JI_bitCount_16 : decode b_JI_bitCount 16 = .ok (.iconst 2, 1) := by decide +kernel
theorem d_JI_bitCount_17 : decode b_JI_bitCount 17 = .ok (.iushr, 1) := by decide +kernel
theorem d_JI_bitCount_18 : decode b_JI_bitCount 18 = .ok (.ldc_w 266, 3) := by decide +kernel
theorem d_JI_bitCount_21 : decode b_JI_bitCount 21 = .ok (.iand, 1) := by decide +kernel
theorem d_JI_bitCount_22 : decode b_JI_bitCount 22 = .ok (.iadd, 1) := by decide +kernel
theorem d_JI_bitCount_23 : decode b_JI_bitCount 23 = .ok (.istore_n 0, 1) := by decide +kernel
theorem d_JI_bitCount_24 : decode b_JI_bitCount 24 = .ok (.iload_n 0, 1) := by decide +kernel
theorem d_JI_bitCount_25 : decode b_JI_bitCount 25 = .ok (.iload_n 0, 1) := by decide +kernel
theorem d_JI_bitCount_26 : decode b_JI_bitCount 26 = .ok (.iconst 4, 1) := by decide +kernel
theorem d_JI_bitCount_27 : decode b_JI_bitCount 27 = .ok (.iushr, 1) := by decide +kernel
theorem d_JI_bitCount_28 : decode b_JI_bitCount 28 = .ok (.iadd, 1) := by decide +kernel
theorem d_JI_bitCount_29 : decode b_JI_bitCount 29 = .ok (.ldc_w 267, 3) := by decide +kernel
theorem d_JI_bitCount_32 : decode b_JI_bitCount 32 = .ok (.iand, 1) := by decide +kernel
theorem d_JI_bitCount_33 : decode b_JI_bitCount 33 = .ok (.istore_n 0, 1) := by decide +kernel
theorem d_JI_bitCount_34 : decode b_JI_bitCount 34 = .ok (.iload_n 0, 1) := by decide +kernel
theorem d_JI_bitCount_35 : decode b_JI_bitCount 35 = .ok (.iload_n 0, 1) := by decide +kernel
theorem d_JI_bitCount_36 : decode b_JI_bitCount 36 = .ok (.bipush 8, 2) := by decide +kernel
theorem d_JI_bitCount_38 : decode b_JI_bitCount 38 = .ok (.iushr, 1) := by decide +kernel
theorem d_JI_bitCount_39 : decode b_JI_bitCount 39 = .ok (.iadd, 1) := by decide +kernel
theorem d_JI_bitCount_40 : decode b_JI_bitCount 40 = .ok (.istore_n 0, 1) := by decide +kernel
theorem d_JI_bitCount_41 : decode b_JI_bitCount 41 = .ok (.iload_n 0, 1) := by decide +kernel
theorem d_JI_bitCount_42 : decode b_JI_bitCount 42 = .ok (.iload_n 0, 1) := by decide +kernel
theorem d_JI_bitCount_43 : decode b_JI_bitCount 43 = .ok (.bipush 16, 2) := by decide +kernel
theorem d_JI_bitCount_45 : decode b_JI_bitCount 45 = .ok (.iushr, 1) := by decide +kernel
theorem d_JI_bitCount_46 : decode b_JI_bitCount 46 = .ok (.iadd, 1) := by decide +kernel
theorem d_JI_bitCount_47 : decode b_JI_bitCount 47 = .ok (.istore_n 0, 1) := by decide +kernel
theorem d_JI_bitCount_48 : decode b_JI_bitCount 48 = .ok (.iload_n 0, 1) := by decide +kernel
theorem d_JI_bitCount_49 : decode b_JI_bitCount 49 = .ok (.bipush 63, 2) := by decide +kernel
theorem d_JI_bitCount_51 : decode b_JI_bitCount 51 = .ok (.iand, 1) := by decide +kernel
theorem d_JI_bitCount_52 : decode b_JI_bitCount 52 = .ok (.ireturn, 1) := by decide +kernel
abbrev b_W_pass : ByteArray := prog_1_method_2_code
abbrev y_W_pass : MethodName := ⟨"WhoRules", "pass", "(I)I"⟩
theorem d_W_pass_0 : decode b_W_pass 0 = .ok (.iload_n 1, 1) := by decide +kernel
theorem d_W_pass_1 : decode b_W_pass 1 = .ok (.iconst 1, 1) := by decide +kernel
theorem d_W_pass_2 : decode b_W_pass 2 = .ok (.if_icmp .lt 24, 3) := by decide +kernel
theorem d_W_pass_5 : decode b_W_pass 5 = .ok (.iload_n 1, 1) := by decide +kernel
theorem d_W_pass_6 : decode b_W_pass 6 = .ok (.bipush 99, 2) := by decide +kernel
theorem d_W_pass_8 : decode b_W_pass 8 = .ok (.if_icmp .gt 18, 3) := by decide +kernel
theorem d_W_pass_11 : decode b_W_pass 11 = .ok (.aload_n 0, 1) := by decide +kernel
theorem d_W_pass_12 : decode b_W_pass 12 = .ok (.getfield 18, 3) := by decide +kernel
theorem d_W_pass_15 : decode b_W_pass 15 = .ok (.getfield 79, 3) := by decide +kernel
theorem d_W_pass_18 : decode b_W_pass 18 = .ok (.iload_n 1, 1) := by decide +kernel
theorem d_W_pass_19 : decode b_W_pass 19 = .ok (.iadd, 1) := by decide +kernel
theorem d_W_pass_20 : decode b_W_pass 20 = .ok (.sipush 999, 3) := by decide +kernel
theorem d_W_pass_23 : decode b_W_pass 23 = .ok (.if_icmp .le 6, 3) := by decide +kernel
theorem d_W_pass_26 : decode b_W_pass 26 = .ok (.bipush (-2), 2) := by decide +kernel
theorem d_W_pass_28 : decode b_W_pass 28 = .ok (.ireturn, 1) := by decide +kernel
theorem d_W_pass_29 : decode b_W_pass 29 = .ok (.aload_n 0, 1) := by decide +kernel
theorem d_W_pass_30 : decode b_W_pass 30 = .ok (.getfield 18, 3) := by decide +kernel
theorem d_W_pass_33 : decode b_W_pass 33 = .ok (.dup, 1) := by decide +kernel
theorem d_W_pass_34 : decode b_W_pass 34 = .ok (.getfield 79, 3) := by decide +kernel
theorem d_W_pass_37 : decode b_W_pass 37 = .ok (.iload_n 1, 1) := by decide +kernel
theorem d_W_pass_38 : decode b_W_pass 38 = .ok (.iadd, 1) := by decide +kernel
theorem d_W_pass_39 : decode b_W_pass 39 = .ok (.putfield 79, 3) := by decide +kernel
theorem d_W_pass_42 : decode b_W_pass 42 = .ok (.aload_n 0, 1) := by decide +kernel
theorem d_W_pass_43 : decode b_W_pass 43 = .ok (.getfield 18, 3) := by decide +kernel
theorem d_W_pass_46 : decode b_W_pass 46 = .ok (.getfield 79, 3) := by decide +kernel
theorem d_W_pass_49 : decode b_W_pass 49 = .ok (.ireturn, 1) := by decide +kernel
abbrev b_R_isHolder : ByteArray := prog_10_method_2_code
abbrev y_R_isHolder : MethodName := ⟨"WhoRules$Register", "isHolder", "(I)Z"⟩
theorem d_R_isHolder_0 : decode b_R_isHolder 0 = .ok (.iload_n 1, 1) := by decide +kernel
theorem d_R_isHolder_1 : decode b_R_isHolder 1 = .ok (.ifCond .lt 15, 3) := by decide +kernel
theorem d_R_isHolder_4 : decode b_R_isHolder 4 = .ok (.iload_n 1, 1) := by decide +kernel
theorem d_R_isHolder_5 : decode b_R_isHolder 5 = .ok (.aload_n 0, 1) := by decide +kernel
theorem d_R_isHolder_6 : decode b_R_isHolder 6 = .ok (.getfield 57, 3) := by decide +kernel
theorem d_R_isHolder_9 : decode b_R_isHolder 9 = .ok (.if_icmp .ge 7, 3) := by decide +kernel
theorem d_R_isHolder_12 : decode b_R_isHolder 12 = .ok (.iconst 1, 1) := by decide +kernel
theorem d_R_isHolder_13 : decode b_R_isHolder 13 = .ok (.goto 4, 3) := by decide +kernel
theorem d_R_isHolder_16 : decode b_R_isHolder 16 = .ok (.iconst 0, 1) := by decide +kernel
theorem d_R_isHolder_17 : decode b_R_isHolder 17 = .ok (.ireturn, 1) := by decide +kernel
abbrev b_R_isFirm : ByteArray := prog_10_method_3_code
abbrev y_R_isFirm : MethodName := ⟨"WhoRules$Register", "isFirm", "(I)Z"⟩
theorem d_R_isFirm_0 : decode b_R_isFirm 0 = .ok (.aload_n 0, 1) := by decide +kernel
theorem d_R_isFirm_1 : decode b_R_isFirm 1 = .ok (.iload_n 1, 1) := by decide +kernel
theorem d_R_isFirm_2 : decode b_R_isFirm 2 = .ok (.invokevirtual 61, 3) := by decide +kernel
theorem d_R_isFirm_5 : decode b_R_isFirm 5 = .ok (.ifCond .eq 17, 3) := by decide +kernel
theorem d_R_isFirm_8 : decode b_R_isFirm 8 = .ok (.aload_n 0, 1) := by decide +kernel
theorem d_R_isFirm_9 : decode b_R_isFirm 9 = .ok (.getfield 17, 3) := by decide +kernel
theorem d_R_isFirm_12 : decode b_R_isFirm 12 = .ok (.iload_n 1, 1) := by decide +kernel
theorem d_R_isFirm_13 : decode b_R_isFirm 13 = .ok (.iaload, 1) := by decide +kernel
theorem d_R_isFirm_14 : decode b_R_isFirm 14 = .ok (.iconst 1, 1) := by decide +kernel
theorem d_R_isFirm_15 : decode b_R_isFirm 15 = .ok (.if_icmp .ne 7, 3) := by decide +kernel
theorem d_R_isFirm_18 : decode b_R_isFirm 18 = .ok (.iconst 1, 1) := by decide +kernel
theorem d_R_isFirm_19 : decode b_R_isFirm 19 = .ok (.goto 4, 3) := by decide +kernel
theorem d_R_isFirm_22 : decode b_R_isFirm 22 = .ok (.iconst 0, 1) := by decide +kernel
theorem d_R_isFirm_23 : decode b_R_isFirm 23 = .ok (.ireturn, 1) := by decide +kernel
abbrev b_R_partsIn : ByteArray := prog_10_method_13_code
abbrev y_R_partsIn : MethodName := ⟨"WhoRules$Register", "partsIn", "(I)I"⟩
theorem d_R_partsIn_0 : decode b_R_partsIn 0 = .ok (.iconst 0, 1) := by decide +kernel
theorem d_R_partsIn_1 : decode b_R_partsIn 1 = .ok (.istore_n 2, 1) := by decide +kernel
theorem d_R_partsIn_2 : decode b_R_partsIn 2 = .ok (.iconst 0, 1) := by decide +kernel
theorem d_R_partsIn_3 : decode b_R_partsIn 3 = .ok (.istore_n 3, 1) := by decide +kernel
theorem d_R_partsIn_4 : decode b_R_partsIn 4 = .ok (.iload_n 3, 1) := by decide +kernel
theorem d_R_partsIn_5 : decode b_R_partsIn 5 = .ok (.aload_n 0, 1) := by decide +kernel
theorem d_R_partsIn_6 : decode b_R_partsIn 6 = .ok (.getfield 68, 3) := by decide +kernel
theorem d_R_partsIn_9 : decode b_R_partsIn 9 = .ok (.if_icmp .ge 32, 3) := by decide +kernel
theorem d_R_partsIn_12 : decode b_R_partsIn 12 = .ok (.iload_n 2, 1) := by decide +kernel
theorem d_R_partsIn_13 : decode b_R_partsIn 13 = .ok (.aload_n 0, 1) := by decide +kernel
theorem d_R_partsIn_14 : decode b_R_partsIn 14 = .ok (.getfield 30, 3) := by decide +kernel
theorem d_R_partsIn_17 : decode b_R_partsIn 17 = .ok (.iload_n 3, 1) := by decide +kernel
theorem d_R_partsIn_18 : decode b_R_partsIn 18 = .ok (.iaload, 1) := by decide +kernel
theorem d_R_partsIn_19 : decode b_R_partsIn 19 = .ok (.iload_n 1, 1) := by decide +kernel
theorem d_R_partsIn_20 : decode b_R_partsIn 20 = .ok (.if_icmp .ne 12, 3) := by decide +kernel
theorem d_R_partsIn_23 : decode b_R_partsIn 23 = .ok (.aload_n 0, 1) := by decide +kernel
theorem d_R_partsIn_24 : decode b_R_partsIn 24 = .ok (.getfield 33, 3) := by decide +kernel
theorem d_R_partsIn_27 : decode b_R_partsIn 27 = .ok (.iload_n 3, 1) := by decide +kernel
theorem d_R_partsIn_28 : decode b_R_partsIn 28 = .ok (.iaload, 1) := by decide +kernel
theorem d_R_partsIn_29 : decode b_R_partsIn 29 = .ok (.goto 4, 3) := by decide +kernel
theorem d_R_partsIn_32 : decode b_R_partsIn 32 = .ok (.iconst 0, 1) := by decide +kernel
theorem d_R_partsIn_33 : decode b_R_partsIn 33 = .ok (.iadd, 1) := by decide +kernel
theorem d_R_partsIn_34 : decode b_R_partsIn 34 = .ok (.istore_n 2, 1) := by decide +kernel
theorem d_R_partsIn_35 : decode b_R_partsIn 35 = .ok (.iinc 3 1, 3) := by decide +kernel
theorem d_R_partsIn_38 : decode b_R_partsIn 38 = .ok (.goto (-34), 3) := by decide +kernel
theorem d_R_partsIn_41 : decode b_R_partsIn 41 = .ok (.iload_n 2, 1) := by decide +kernel
theorem d_R_partsIn_42 : decode b_R_partsIn 42 = .ok (.ireturn, 1) := by decide +kernel
abbrev b_R_move : ByteArray := prog_10_method_15_code
abbrev y_R_move : MethodName := ⟨"WhoRules$Register", "move", "(II)V"⟩
theorem d_R_move_0 : decode b_R_move 0 = .ok (.aload_n 0, 1) := by decide +kernel
theorem d_R_move_1 : decode b_R_move 1 = .ok (.getfield 115, 3) := by decide +kernel
theorem d_R_move_4 : decode b_R_move 4 = .ok (.sipush 160, 3) := by decide +kernel
theorem d_R_move_7 : decode b_R_move 7 = .ok (.if_icmp .ge 46, 3) := by decide +kernel
theorem d_R_move_10 : decode b_R_move 10 = .ok (.aload_n 0, 1) := by decide +kernel
theorem d_R_move_11 : decode b_R_move 11 = .ok (.getfield 48, 3) := by decide +kernel
theorem d_R_move_14 : decode b_R_move 14 = .ok (.aload_n 0, 1) := by decide +kernel
theorem d_R_move_15 : decode b_R_move 15 = .ok (.getfield 115, 3) := by decide +kernel
theorem d_R_move_18 : decode b_R_move 18 = .ok (.iload_n 1, 1) := by decide +kernel
theorem d_R_move_19 : decode b_R_move 19 = .ok (.iastore, 1) := by decide +kernel
theorem d_R_move_20 : decode b_R_move 20 = .ok (.aload_n 0, 1) := by decide +kernel
theorem d_R_move_21 : decode b_R_move 21 = .ok (.getfield 51, 3) := by decide +kernel
theorem d_R_move_24 : decode b_R_move 24 = .ok (.aload_n 0, 1) := by decide +kernel
theorem d_R_move_25 : decode b_R_move 25 = .ok (.getfield 115, 3) := by decide +kernel
theorem d_R_move_28 : decode b_R_move 28 = .ok (.iload_n 2, 1) := by decide +kernel
theorem d_R_move_29 : decode b_R_move 29 = .ok (.iastore, 1) := by decide +kernel
theorem d_R_move_30 : decode b_R_move 30 = .ok (.aload_n 0, 1) := by decide +kernel
theorem d_R_move_31 : decode b_R_move 31 = .ok (.getfield 54, 3) := by decide +kernel
theorem d_R_move_34 : decode b_R_move 34 = .ok (.aload_n 0, 1) := by decide +kernel
theorem d_R_move_35 : decode b_R_move 35 = .ok (.getfield 115, 3) := by decide +kernel
theorem d_R_move_38 : decode b_R_move 38 = .ok (.aload_n 0, 1) := by decide +kernel
theorem d_R_move_39 : decode b_R_move 39 = .ok (.getfield 118, 3) := by decide +kernel
theorem d_R_move_42 : decode b_R_move 42 = .ok (.iastore, 1) := by decide +kernel
theorem d_R_move_43 : decode b_R_move 43 = .ok (.aload_n 0, 1) := by decide +kernel
theorem d_R_move_44 : decode b_R_move 44 = .ok (.dup, 1) := by decide +kernel
theorem d_R_move_45 : decode b_R_move 45 = .ok (.getfield 115, 3) := by decide +kernel
theorem d_R_move_48 : decode b_R_move 48 = .ok (.iconst 1, 1) := by decide +kernel
theorem d_R_move_49 : decode b_R_move 49 = .ok (.iadd, 1) := by decide +kernel
theorem d_R_move_50 : decode b_R_move 50 = .ok (.putfield 115, 3) := by decide +kernel
theorem d_R_move_53 : decode b_R_move 53 = .ok (.return_, 1) := by decide +kernel
abbrev b_R_issue : ByteArray := prog_10_method_14_code
abbrev y_R_issue : MethodName := ⟨"WhoRules$Register", "issue", "(IIII)I"⟩
theorem d_R_issue_0 : decode b_R_issue 0 = .ok (.aload_n 0, 1) := by decide +kernel
theorem d_R_issue_1 : decode b_R_issue 1 = .ok (.getfield 68, 3) := by decide +kernel
theorem d_R_issue_4 : decode b_R_issue 4 = .ok (.bipush 40, 2) := by decide +kernel
theorem d_R_issue_6 : decode b_R_issue 6 = .ok (.if_icmp .lt 6, 3) := by decide +kernel
theorem d_R_issue_9 : decode b_R_issue 9 = .ok (.bipush (-4), 2) := by decide +kernel
theorem d_R_issue_11 : decode b_R_issue 11 = .ok (.ireturn, 1) := by decide +kernel
theorem d_R_issue_12 : decode b_R_issue 12 = .ok (.aload_n 0, 1) := by decide +kernel
theorem d_R_issue_13 : decode b_R_issue 13 = .ok (.getfield 68, 3) := by decide +kernel
theorem d_R_issue_16 : decode b_R_issue 16 = .ok (.istore 5, 2) := by decide +kernel
theorem d_R_issue_18 : decode b_R_issue 18 = .ok (.aload_n 0, 1) := by decide +kernel
theorem d_R_issue_19 : decode b_R_issue 19 = .ok (.getfield 30, 3) := by decide +kernel
theorem d_R_issue_22 : decode b_R_issue 22 = .ok (.iload 5, 2) := by decide +kernel
theorem d_R_issue_24 : decode b_R_issue 24 = .ok (.iload_n 1, 1) := by decide +kernel
theorem d_R_issue_25 : decode b_R_issue 25 = .ok (.iastore, 1) := by decide +kernel
theorem d_R_issue_26 : decode b_R_issue 26 = .ok (.aload_n 0, 1) := by decide +kernel
theorem d_R_issue_27 : decode b_R_issue 27 = .ok (.getfield 33, 3) := by decide +kernel
theorem d_R_issue_30 : decode b_R_issue 30 = .ok (.iload 5, 2) := by decide +kernel
theorem d_R_issue_32 : decode b_R_issue 32 = .ok (.iload_n 3, 1) := by decide +kernel
theorem d_R_issue_33 : decode b_R_issue 33 = .ok (.iastore, 1) := by decide +kernel
theorem d_R_issue_34 : decode b_R_issue 34 = .ok (.aload_n 0, 1) := by decide +kernel
theorem d_R_issue_35 : decode b_R_issue 35 = .ok (.getfield 36, 3) := by decide +kernel
theorem d_R_issue_38 : decode b_R_issue 38 = .ok (.iload 5, 2) := by decide +kernel
theorem d_R_issue_40 : decode b_R_issue 40 = .ok (.iload 4, 2) := by decide +kernel
theorem d_R_issue_42 : decode b_R_issue 42 = .ok (.iastore, 1) := by decide +kernel
theorem d_R_issue_43 : decode b_R_issue 43 = .ok (.aload_n 0, 1) := by decide +kernel
theorem d_R_issue_44 : decode b_R_issue 44 = .ok (.dup, 1) := by decide +kernel
theorem d_R_issue_45 : decode b_R_issue 45 = .ok (.getfield 68, 3) := by decide +kernel
theorem d_R_issue_48 : decode b_R_issue 48 = .ok (.iconst 1, 1) := by decide +kernel
theorem d_R_issue_49 : decode b_R_issue 49 = .ok (.iadd, 1) := by decide +kernel
theorem d_R_issue_50 : decode b_R_issue 50 = .ok (.putfield 68, 3) := by decide +kernel
theorem d_R_issue_53 : decode b_R_issue 53 = .ok (.aload_n 0, 1) := by decide +kernel
theorem d_R_issue_54 : decode b_R_issue 54 = .ok (.iload 5, 2) := by decide +kernel
theorem d_R_issue_56 : decode b_R_issue 56 = .ok (.iload_n 2, 1) := by decide +kernel
theorem d_R_issue_57 : decode b_R_issue 57 = .ok (.invokevirtual 111, 3) := by decide +kernel
theorem d_R_issue_60 : decode b_R_issue 60 = .ok (.iload 5, 2) := by decide +kernel
theorem d_R_issue_62 : decode b_R_issue 62 = .ok (.ireturn, 1) := by decide +kernel
abbrev b_W_share : ByteArray := prog_1_method_4_code
abbrev y_W_share : MethodName := ⟨"WhoRules", "share", "(IIII)I"⟩
theorem d_W_share_0 : decode b_W_share 0 = .ok (.aload_n 0, 1) := by decide +kernel
theorem d_W_share_1 : decode b_W_share 1 = .ok (.getfield 18, 3) := by decide +kernel
theorem d_W_share_4 : decode b_W_share 4 = .ok (.iload_n 1, 1) := by decide +kernel
theorem d_W_share_5 : decode b_W_share 5 = .ok (.invokevirtual 87, 3) := by decide +kernel
theorem d_W_share_8 : decode b_W_share 8 = .ok (.ifCond .eq 14, 3) := by decide +kernel
theorem d_W_share_11 : decode b_W_share 11 = .ok (.aload_n 0, 1) := by decide +kernel
theorem d_W_share_12 : decode b_W_share 12 = .ok (.getfield 18, 3) := by decide +kernel
theorem d_W_share_15 : decode b_W_share 15 = .ok (.iload_n 2, 1) := by decide +kernel
theorem d_W_share_16 : decode b_W_share 16 = .ok (.invokevirtual 91, 3) := by decide +kernel
theorem d_W_share_19 : decode b_W_share 19 = .ok (.ifCond .ne 5, 3) := by decide +kernel
theorem d_W_share_22 : decode b_W_share 22 = .ok (.iconst (-1), 1) := by decide +kernel
theorem d_W_share_23 : decode b_W_share 23 = .ok (.ireturn, 1) := by decide +kernel
theorem d_W_share_24 : decode b_W_share 24 = .ok (.iload_n 3, 1) := by decide +kernel
theorem d_W_share_25 : decode b_W_share 25 = .ok (.ifCond .lt 21, 3) := by decide +kernel
theorem d_W_share_28 : decode b_W_share 28 = .ok (.iload_n 3, 1) := by decide +kernel
theorem d_W_share_29 : decode b_W_share 29 = .ok (.bipush 12, 2) := by decide +kernel
theorem d_W_share_31 : decode b_W_share 31 = .ok (.if_icmp .gt 15, 3) := by decide +kernel
theorem d_W_share_34 : decode b_W_share 34 = .ok (.iload 4, 2) := by decide +kernel
theorem d_W_share_36 : decode b_W_share 36 = .ok (.ifCond .lt 10, 3) := by decide +kernel
theorem d_W_share_39 : decode b_W_share 39 = .ok (.iload 4, 2) := by decide +kernel
theorem d_W_share_41 : decode b_W_share 41 = .ok (.bipush 99, 2) := by decide +kernel
theorem d_W_share_43 : decode b_W_share 43 = .ok (.if_icmp .le 6, 3) := by decide +kernel
theorem d_W_share_46 : decode b_W_share 46 = .ok (.bipush (-2), 2) := by decide +kernel
theorem d_W_share_48 : decode b_W_share 48 = .ok (.ireturn, 1) := by decide +kernel
theorem d_W_share_49 : decode b_W_share 49 = .ok (.aload_n 0, 1) := by decide +kernel
theorem d_W_share_50 : decode b_W_share 50 = .ok (.getfield 18, 3) := by decide +kernel
theorem d_W_share_53 : decode b_W_share 53 = .ok (.iload_n 1, 1) := by decide +kernel
theorem d_W_share_54 : decode b_W_share 54 = .ok (.invokevirtual 94, 3) := by decide +kernel
theorem d_W_share_57 : decode b_W_share 57 = .ok (.iload_n 3, 1) := by decide +kernel
theorem d_W_share_58 : decode b_W_share 58 = .ok (.iadd, 1) := by decide +kernel
theorem d_W_share_59 : decode b_W_share 59 = .ok (.bipush 12, 2) := by decide +kernel
theorem d_W_share_61 : decode b_W_share 61 = .ok (.if_icmp .le 6, 3) := by decide +kernel
theorem d_W_share_64 : decode b_W_share 64 = .ok (.bipush (-3), 2) := by decide +kernel
theorem d_W_share_66 : decode b_W_share 66 = .ok (.ireturn, 1) := by decide +kernel
theorem d_W_share_67 : decode b_W_share 67 = .ok (.aload_n 0, 1) := by decide +kernel
theorem d_W_share_68 : decode b_W_share 68 = .ok (.getfield 18, 3) := by decide +kernel
theorem d_W_share_71 : decode b_W_share 71 = .ok (.iload_n 1, 1) := by decide +kernel
theorem d_W_share_72 : decode b_W_share 72 = .ok (.iload_n 2, 1) := by decide +kernel
theorem d_W_share_73 : decode b_W_share 73 = .ok (.iload_n 3, 1) := by decide +kernel
theorem d_W_share_74 : decode b_W_share 74 = .ok (.iload 4, 2) := by decide +kernel
theorem d_W_share_76 : decode b_W_share 76 = .ok (.invokevirtual 98, 3) := by decide +kernel
theorem d_W_share_79 : decode b_W_share 79 = .ok (.ireturn, 1) := by decide +kernel
abbrev b_R_isShare : ByteArray := prog_10_method_7_code
abbrev y_R_isShare : MethodName := ⟨"WhoRules$Register", "isShare", "(I)Z"⟩
theorem d_R_isShare_0 : decode b_R_isShare 0 = .ok (.iload_n 1, 1) := by decide +kernel
theorem d_R_isShare_1 : decode b_R_isShare 1 = .ok (.ifCond .lt 15, 3) := by decide +kernel
theorem d_R_isShare_4 : decode b_R_isShare 4 = .ok (.iload_n 1, 1) := by decide +kernel
theorem d_R_isShare_5 : decode b_R_isShare 5 = .ok (.aload_n 0, 1) := by decide +kernel
theorem d_R_isShare_6 : decode b_R_isShare 6 = .ok (.getfield 68, 3) := by decide +kernel
theorem d_R_isShare_9 : decode b_R_isShare 9 = .ok (.if_icmp .ge 7, 3) := by decide +kernel
theorem d_R_isShare_12 : decode b_R_isShare 12 = .ok (.iconst 1, 1) := by decide +kernel
theorem d_R_isShare_13 : decode b_R_isShare 13 = .ok (.goto 4, 3) := by decide +kernel
theorem d_R_isShare_16 : decode b_R_isShare 16 = .ok (.iconst 0, 1) := by decide +kernel
theorem d_R_isShare_17 : decode b_R_isShare 17 = .ok (.ireturn, 1) := by decide +kernel
abbrev b_W_price : ByteArray := prog_1_method_5_code
abbrev y_W_price : MethodName := ⟨"WhoRules", "price", "(II)I"⟩
theorem d_W_price_0 : decode b_W_price 0 = .ok (.aload_n 0, 1) := by decide +kernel
theorem d_W_price_1 : decode b_W_price 1 = .ok (.getfield 18, 3) := by decide +kernel
theorem d_W_price_4 : decode b_W_price 4 = .ok (.iload_n 1, 1) := by decide +kernel
theorem d_W_price_5 : decode b_W_price 5 = .ok (.invokevirtual 102, 3) := by decide +kernel
theorem d_W_price_8 : decode b_W_price 8 = .ok (.ifCond .ne 5, 3) := by decide +kernel
theorem d_W_price_11 : decode b_W_price 11 = .ok (.iconst (-1), 1) := by decide +kernel
theorem d_W_price_12 : decode b_W_price 12 = .ok (.ireturn, 1) := by decide +kernel
theorem d_W_price_13 : decode b_W_price 13 = .ok (.iload_n 2, 1) := by decide +kernel
theorem d_W_price_14 : decode b_W_price 14 = .ok (.ifCond .lt 10, 3) := by decide +kernel
theorem d_W_price_17 : decode b_W_price 17 = .ok (.iload_n 2, 1) := by decide +kernel
theorem d_W_price_18 : decode b_W_price 18 = .ok (.sipush 999, 3) := by decide +kernel
theorem d_W_price_21 : decode b_W_price 21 = .ok (.if_icmp .le 6, 3) := by decide +kernel
theorem d_W_price_24 : decode b_W_price 24 = .ok (.bipush (-2), 2) := by decide +kernel
theorem d_W_price_26 : decode b_W_price 26 = .ok (.ireturn, 1) := by decide +kernel
theorem d_W_price_27 : decode b_W_price 27 = .ok (.aload_n 0, 1) := by decide +kernel
theorem d_W_price_28 : decode b_W_price 28 = .ok (.getfield 18, 3) := by decide +kernel
theorem d_W_price_31 : decode b_W_price 31 = .ok (.getfield 105, 3) := by decide +kernel
theorem d_W_price_34 : decode b_W_price 34 = .ok (.iload_n 1, 1) := by decide +kernel
theorem d_W_price_35 : decode b_W_price 35 = .ok (.iaload, 1) := by decide +kernel
theorem d_W_price_36 : decode b_W_price 36 = .ok (.istore_n 3, 1) := by decide +kernel
theorem d_W_price_37 : decode b_W_price 37 = .ok (.aload_n 0, 1) := by decide +kernel
theorem d_W_price_38 : decode b_W_price 38 = .ok (.getfield 18, 3) := by decide +kernel
theorem d_W_price_41 : decode b_W_price 41 = .ok (.getfield 105, 3) := by decide +kernel
theorem d_W_price_44 : decode b_W_price 44 = .ok (.iload_n 1, 1) := by decide +kernel
theorem d_W_price_45 : decode b_W_price 45 = .ok (.iload_n 2, 1) := by decide +kernel
theorem d_W_price_46 : decode b_W_price 46 = .ok (.iastore, 1) := by decide +kernel
theorem d_W_price_47 : decode b_W_price 47 = .ok (.iload_n 3, 1) := by decide +kernel
theorem d_W_price_48 : decode b_W_price 48 = .ok (.ireturn, 1) := by decide +kernel
abbrev b_R_lookAt : ByteArray := prog_10_method_17_code
abbrev y_R_lookAt : MethodName := ⟨"WhoRules$Register", "lookAt", "(I)V"⟩
theorem d_R_lookAt_0 : decode b_R_lookAt 0 = .ok (.aload_n 0, 1) := by decide +kernel
theorem d_R_lookAt_1 : decode b_R_lookAt 1 = .ok (.getfield 42, 3) := by decide +kernel
theorem d_R_lookAt_4 : decode b_R_lookAt 4 = .ok (.bipush (-5), 2) := by decide +kernel
theorem d_R_lookAt_6 : decode b_R_lookAt 6 = .ok (.invokestatic 121, 3) := by decide +kernel
theorem d_R_lookAt_9 : decode b_R_lookAt 9 = .ok (.aload_n 0, 1) := by decide +kernel
theorem d_R_lookAt_10 : decode b_R_lookAt 10 = .ok (.getfield 45, 3) := by decide +kernel
theorem d_R_lookAt_13 : decode b_R_lookAt 13 = .ok (.bipush (-5), 2) := by decide +kernel
theorem d_R_lookAt_15 : decode b_R_lookAt 15 = .ok (.invokestatic 121, 3) := by decide +kernel
theorem d_R_lookAt_18 : decode b_R_lookAt 18 = .ok (.iconst 0, 1) := by decide +kernel
theorem d_R_lookAt_19 : decode b_R_lookAt 19 = .ok (.istore_n 2, 1) := by decide +kernel
theorem d_R_lookAt_20 : decode b_R_lookAt 20 = .ok (.iload_n 2, 1) := by decide +kernel
theorem d_R_lookAt_21 : decode b_R_lookAt 21 = .ok (.aload_n 0, 1) := by decide +kernel
theorem d_R_lookAt_22 : decode b_R_lookAt 22 = .ok (.getfield 115, 3) := by decide +kernel
theorem d_R_lookAt_25 : decode b_R_lookAt 25 = .ok (.if_icmp .ge 53, 3) := by decide +kernel
theorem d_R_lookAt_28 : decode b_R_lookAt 28 = .ok (.aload_n 0, 1) := by decide +kernel
theorem d_R_lookAt_29 : decode b_R_lookAt 29 = .ok (.getfield 54, 3) := by decide +kernel
theorem d_R_lookAt_32 : decode b_R_lookAt 32 = .ok (.iload_n 2, 1) := by decide +kernel
theorem d_R_lookAt_33 : decode b_R_lookAt 33 = .ok (.iaload, 1) := by decide +kernel
theorem d_R_lookAt_34 : decode b_R_lookAt 34 = .ok (.iload_n 1, 1) := by decide +kernel
theorem d_R_lookAt_35 : decode b_R_lookAt 35 = .ok (.if_icmp .gt 43, 3) := by decide +kernel
theorem d_R_lookAt_38 : decode b_R_lookAt 38 = .ok (.aload_n 0, 1) := by decide +kernel
theorem d_R_lookAt_39 : decode b_R_lookAt 39 = .ok (.getfield 42, 3) := by decide +kernel
theorem d_R_lookAt_42 : decode b_R_lookAt 42 = .ok (.aload_n 0, 1) := by decide +kernel
theorem d_R_lookAt_43 : decode b_R_lookAt 43 = .ok (.getfield 48, 3) := by decide +kernel
theorem d_R_lookAt_46 : decode b_R_lookAt 46 = .ok (.iload_n 2, 1) := by decide +kernel
theorem d_R_lookAt_47 : decode b_R_lookAt 47 = .ok (.iaload, 1) := by decide +kernel
theorem d_R_lookAt_48 : decode b_R_lookAt 48 = .ok (.aload_n 0, 1) := by decide +kernel
theorem d_R_lookAt_49 : decode b_R_lookAt 49 = .ok (.getfield 51, 3) := by decide +kernel
theorem d_R_lookAt_52 : decode b_R_lookAt 52 = .ok (.iload_n 2, 1) := by decide +kernel
theorem d_R_lookAt_53 : decode b_R_lookAt 53 = .ok (.iaload, 1) := by decide +kernel
theorem d_R_lookAt_54 : decode b_R_lookAt 54 = .ok (.iastore, 1) := by decide +kernel
theorem d_R_lookAt_55 : decode b_R_lookAt 55 = .ok (.aload_n 0, 1) := by decide +kernel
theorem d_R_lookAt_56 : decode b_R_lookAt 56 = .ok (.getfield 45, 3) := by decide +kernel
theorem d_R_lookAt_59 : decode b_R_lookAt 59 = .ok (.aload_n 0, 1) := by decide +kernel
theorem d_R_lookAt_60 : decode b_R_lookAt 60 = .ok (.getfield 48, 3) := by decide +kernel
theorem d_R_lookAt_63 : decode b_R_lookAt 63 = .ok (.iload_n 2, 1) := by decide +kernel
theorem d_R_lookAt_64 : decode b_R_lookAt 64 = .ok (.iaload, 1) := by decide +kernel
theorem d_R_lookAt_65 : decode b_R_lookAt 65 = .ok (.aload_n 0, 1) := by decide +kernel
theorem d_R_lookAt_66 : decode b_R_lookAt 66 = .ok (.getfield 54, 3) := by decide +kernel
theorem d_R_lookAt_69 : decode b_R_lookAt 69 = .ok (.iload_n 2, 1) := by decide +kernel
theorem d_R_lookAt_70 : decode b_R_lookAt 70 = .ok (.iaload, 1) := by decide +kernel
theorem d_R_lookAt_71 : decode b_R_lookAt 71 = .ok (.iastore, 1) := by decide +kernel
theorem d_R_lookAt_72 : decode b_R_lookAt 72 = .ok (.iinc 2 1, 3) := by decide +kernel
theorem d_R_lookAt_75 : decode b_R_lookAt 75 = .ok (.goto (-55), 3) := by decide +kernel
theorem d_R_lookAt_78 : decode b_R_lookAt 78 = .ok (.return_, 1) := by decide +kernel
abbrev b_R_sales : ByteArray := prog_10_method_16_code
abbrev y_R_sales : MethodName := ⟨"WhoRules$Register", "sales", "()I"⟩
theorem d_R_sales_0 : decode b_R_sales 0 = .ok (.aload_n 0, 1) := by decide +kernel
theorem d_R_sales_1 : decode b_R_sales 1 = .ok (.getfield 115, 3) := by decide +kernel
theorem d_R_sales_4 : decode b_R_sales 4 = .ok (.aload_n 0, 1) := by decide +kernel
theorem d_R_sales_5 : decode b_R_sales 5 = .ok (.getfield 68, 3) := by decide +kernel
theorem d_R_sales_8 : decode b_R_sales 8 = .ok (.isub, 1) := by decide +kernel
theorem d_R_sales_9 : decode b_R_sales 9 = .ok (.ireturn, 1) := by decide +kernel
abbrev b_W_sale : ByteArray := prog_1_method_6_code
abbrev y_W_sale : MethodName := ⟨"WhoRules", "sale", "(II)I"⟩
theorem d_W_sale_0 : decode b_W_sale 0 = .ok (.aload_n 0, 1) := by decide +kernel
theorem d_W_sale_1 : decode b_W_sale 1 = .ok (.getfield 18, 3) := by decide +kernel
theorem d_W_sale_4 : decode b_W_sale 4 = .ok (.iload_n 1, 1) := by decide +kernel
theorem d_W_sale_5 : decode b_W_sale 5 = .ok (.invokevirtual 102, 3) := by decide +kernel
theorem d_W_sale_8 : decode b_W_sale 8 = .ok (.ifCond .eq 14, 3) := by decide +kernel
theorem d_W_sale_11 : decode b_W_sale 11 = .ok (.aload_n 0, 1) := by decide +kernel
theorem d_W_sale_12 : decode b_W_sale 12 = .ok (.getfield 18, 3) := by decide +kernel
theorem d_W_sale_15 : decode b_W_sale 15 = .ok (.iload_n 2, 1) := by decide +kernel
theorem d_W_sale_16 : decode b_W_sale 16 = .ok (.invokevirtual 91, 3) := by decide +kernel
theorem d_W_sale_19 : decode b_W_sale 19 = .ok (.ifCond .ne 5, 3) := by decide +kernel
theorem d_W_sale_22 : decode b_W_sale 22 = .ok (.iconst (-1), 1) := by decide +kernel
theorem d_W_sale_23 : decode b_W_sale 23 = .ok (.ireturn, 1) := by decide +kernel
theorem d_W_sale_24 : decode b_W_sale 24 = .ok (.aload_n 0, 1) := by decide +kernel
theorem d_W_sale_25 : decode b_W_sale 25 = .ok (.getfield 18, 3) := by decide +kernel
theorem d_W_sale_28 : decode b_W_sale 28 = .ok (.aload_n 0, 1) := by decide +kernel
theorem d_W_sale_29 : decode b_W_sale 29 = .ok (.getfield 18, 3) := by decide +kernel
theorem d_W_sale_32 : decode b_W_sale 32 = .ok (.getfield 79, 3) := by decide +kernel
theorem d_W_sale_35 : decode b_W_sale 35 = .ok (.invokevirtual 108, 3) := by decide +kernel
theorem d_W_sale_38 : decode b_W_sale 38 = .ok (.aload_n 0, 1) := by decide +kernel
theorem d_W_sale_39 : decode b_W_sale 39 = .ok (.getfield 18, 3) := by decide +kernel
theorem d_W_sale_42 : decode b_W_sale 42 = .ok (.getfield 112, 3) := by decide +kernel
theorem d_W_sale_45 : decode b_W_sale 45 = .ok (.iload_n 1, 1) := by decide +kernel
theorem d_W_sale_46 : decode b_W_sale 46 = .ok (.iaload, 1) := by decide +kernel
theorem d_W_sale_47 : decode b_W_sale 47 = .ok (.iload_n 2, 1) := by decide +kernel
theorem d_W_sale_48 : decode b_W_sale 48 = .ok (.if_icmp .ne 6, 3) := by decide +kernel
theorem d_W_sale_51 : decode b_W_sale 51 = .ok (.bipush (-3), 2) := by decide +kernel
theorem d_W_sale_53 : decode b_W_sale 53 = .ok (.ireturn, 1) := by decide +kernel
theorem d_W_sale_54 : decode b_W_sale 54 = .ok (.aload_n 0, 1) := by decide +kernel
theorem d_W_sale_55 : decode b_W_sale 55 = .ok (.getfield 18, 3) := by decide +kernel
theorem d_W_sale_58 : decode b_W_sale 58 = .ok (.invokevirtual 115, 3) := by decide +kernel
theorem d_W_sale_61 : decode b_W_sale 61 = .ok (.bipush 120, 2) := by decide +kernel
theorem d_W_sale_63 : decode b_W_sale 63 = .ok (.if_icmp .lt 6, 3) := by decide +kernel
theorem d_W_sale_66 : decode b_W_sale 66 = .ok (.bipush (-4), 2) := by decide +kernel
theorem d_W_sale_68 : decode b_W_sale 68 = .ok (.ireturn, 1) := by decide +kernel
theorem d_W_sale_69 : decode b_W_sale 69 = .ok (.aload_n 0, 1) := by decide +kernel
theorem d_W_sale_70 : decode b_W_sale 70 = .ok (.getfield 18, 3) := by decide +kernel
theorem d_W_sale_73 : decode b_W_sale 73 = .ok (.iload_n 1, 1) := by decide +kernel
theorem d_W_sale_74 : decode b_W_sale 74 = .ok (.iload_n 2, 1) := by decide +kernel
theorem d_W_sale_75 : decode b_W_sale 75 = .ok (.invokevirtual 119, 3) := by decide +kernel
theorem d_W_sale_78 : decode b_W_sale 78 = .ok (.aload_n 0, 1) := by decide +kernel
theorem d_W_sale_79 : decode b_W_sale 79 = .ok (.getfield 18, 3) := by decide +kernel
theorem d_W_sale_82 : decode b_W_sale 82 = .ok (.invokevirtual 115, 3) := by decide +kernel
theorem d_W_sale_85 : decode b_W_sale 85 = .ok (.ireturn, 1) := by decide +kernel
abbrev b_W_of : ByteArray := prog_1_method_7_code
abbrev y_W_of : MethodName := ⟨"WhoRules", "of", "(II)I"⟩
theorem d_W_of_0 : decode b_W_of 0 = .ok (.aload_n 0, 1) := by decide +kernel
theorem d_W_of_1 : decode b_W_of 1 = .ok (.getfield 18, 3) := by decide +kernel
theorem d_W_of_4 : decode b_W_of 4 = .ok (.iload_n 1, 1) := by decide +kernel
theorem d_W_of_5 : decode b_W_of 5 = .ok (.invokevirtual 102, 3) := by decide +kernel
theorem d_W_of_8 : decode b_W_of 8 = .ok (.ifCond .ne 5, 3) := by decide +kernel
theorem d_W_of_11 : decode b_W_of 11 = .ok (.iconst (-1), 1) := by decide +kernel
theorem d_W_of_12 : decode b_W_of 12 = .ok (.ireturn, 1) := by decide +kernel
theorem d_W_of_13 : decode b_W_of 13 = .ok (.iload_n 2, 1) := by decide +kernel
theorem d_W_of_14 : decode b_W_of 14 = .ok (.tableswitch 70 0 3 #[30, 40, 50, 60], 30) := by decide +kernel
theorem d_W_of_44 : decode b_W_of 44 = .ok (.aload_n 0, 1) := by decide +kernel
theorem d_W_of_45 : decode b_W_of 45 = .ok (.getfield 18, 3) := by decide +kernel
theorem d_W_of_48 : decode b_W_of 48 = .ok (.getfield 123, 3) := by decide +kernel
theorem d_W_of_51 : decode b_W_of 51 = .ok (.iload_n 1, 1) := by decide +kernel
theorem d_W_of_52 : decode b_W_of 52 = .ok (.iaload, 1) := by decide +kernel
theorem d_W_of_53 : decode b_W_of 53 = .ok (.ireturn, 1) := by decide +kernel
theorem d_W_of_54 : decode b_W_of 54 = .ok (.aload_n 0, 1) := by decide +kernel
theorem d_W_of_55 : decode b_W_of 55 = .ok (.getfield 18, 3) := by decide +kernel
theorem d_W_of_58 : decode b_W_of 58 = .ok (.getfield 126, 3) := by decide +kernel
theorem d_W_of_61 : decode b_W_of 61 = .ok (.iload_n 1, 1) := by decide +kernel
theorem d_W_of_62 : decode b_W_of 62 = .ok (.iaload, 1) := by decide +kernel
theorem d_W_of_63 : decode b_W_of 63 = .ok (.ireturn, 1) := by decide +kernel
theorem d_W_of_64 : decode b_W_of 64 = .ok (.aload_n 0, 1) := by decide +kernel
theorem d_W_of_65 : decode b_W_of 65 = .ok (.getfield 18, 3) := by decide +kernel
theorem d_W_of_68 : decode b_W_of 68 = .ok (.getfield 129, 3) := by decide +kernel
theorem d_W_of_71 : decode b_W_of 71 = .ok (.iload_n 1, 1) := by decide +kernel
theorem d_W_of_72 : decode b_W_of 72 = .ok (.iaload, 1) := by decide +kernel
theorem d_W_of_73 : decode b_W_of 73 = .ok (.ireturn, 1) := by decide +kernel
theorem d_W_of_74 : decode b_W_of 74 = .ok (.aload_n 0, 1) := by decide +kernel
theorem d_W_of_75 : decode b_W_of 75 = .ok (.getfield 18, 3) := by decide +kernel
theorem d_W_of_78 : decode b_W_of 78 = .ok (.getfield 105, 3) := by decide +kernel
theorem d_W_of_81 : decode b_W_of 81 = .ok (.iload_n 1, 1) := by decide +kernel
theorem d_W_of_82 : decode b_W_of 82 = .ok (.iaload, 1) := by decide +kernel
theorem d_W_of_83 : decode b_W_of 83 = .ok (.ireturn, 1) := by decide +kernel
theorem d_W_of_84 : decode b_W_of 84 = .ok (.iconst (-1), 1) := by decide +kernel
theorem d_W_of_85 : decode b_W_of 85 = .ok (.ireturn, 1) := by decide +kernel
abbrev b_W_isDay : ByteArray := prog_1_method_39_code
abbrev y_W_isDay : MethodName := ⟨"WhoRules", "isDay", "(I)Z"⟩
theorem d_W_isDay_0 : decode b_W_isDay 0 = .ok (.iload_n 0, 1) := by decide +kernel
theorem d_W_isDay_1 : decode b_W_isDay 1 = .ok (.ifCond .lt 14, 3) := by decide +kernel
theorem d_W_isDay_4 : decode b_W_isDay 4 = .ok (.iload_n 0, 1) := by decide +kernel
theorem d_W_isDay_5 : decode b_W_isDay 5 = .ok (.sipush 999, 3) := by decide +kernel
theorem d_W_isDay_8 : decode b_W_isDay 8 = .ok (.if_icmp .gt 7, 3) := by decide +kernel
theorem d_W_isDay_11 : decode b_W_isDay 11 = .ok (.iconst 1, 1) := by decide +kernel
theorem d_W_isDay_12 : decode b_W_isDay 12 = .ok (.goto 4, 3) := by decide +kernel
theorem d_W_isDay_15 : decode b_W_isDay 15 = .ok (.iconst 0, 1) := by decide +kernel
theorem d_W_isDay_16 : decode b_W_isDay 16 = .ok (.ireturn, 1) := by decide +kernel
abbrev b_W_held : ByteArray := prog_1_method_8_code
abbrev y_W_held : MethodName := ⟨"WhoRules", "held", "(III)I"⟩
theorem d_W_held_0 : decode b_W_held 0 = .ok (.aload_n 0, 1) := by decide +kernel
theorem d_W_held_1 : decode b_W_held 1 = .ok (.getfield 18, 3) := by decide +kernel
theorem d_W_held_4 : decode b_W_held 4 = .ok (.iload_n 1, 1) := by decide +kernel
theorem d_W_held_5 : decode b_W_held 5 = .ok (.invokevirtual 102, 3) := by decide +kernel
theorem d_W_held_8 : decode b_W_held 8 = .ok (.ifCond .eq 19, 3) := by decide +kernel
theorem d_W_held_11 : decode b_W_held 11 = .ok (.iload_n 2, 1) := by decide +kernel
theorem d_W_held_12 : decode b_W_held 12 = .ok (.invokestatic 132, 3) := by decide +kernel
theorem d_W_held_15 : decode b_W_held 15 = .ok (.ifCond .eq 12, 3) := by decide +kernel
theorem d_W_held_18 : decode b_W_held 18 = .ok (.iload_n 3, 1) := by decide +kernel
theorem d_W_held_19 : decode b_W_held 19 = .ok (.ifCond .lt 8, 3) := by decide +kernel
theorem d_W_held_22 : decode b_W_held 22 = .ok (.iload_n 3, 1) := by decide +kernel
theorem d_W_held_23 : decode b_W_held 23 = .ok (.iconst 1, 1) := by decide +kernel
theorem d_W_held_24 : decode b_W_held 24 = .ok (.if_icmp .le 5, 3) := by decide +kernel
theorem d_W_held_27 : decode b_W_held 27 = .ok (.iconst (-1), 1) := by decide +kernel
theorem d_W_held_28 : decode b_W_held 28 = .ok (.ireturn, 1) := by decide +kernel
theorem d_W_held_29 : decode b_W_held 29 = .ok (.aload_n 0, 1) := by decide +kernel
theorem d_W_held_30 : decode b_W_held 30 = .ok (.getfield 18, 3) := by decide +kernel
theorem d_W_held_33 : decode b_W_held 33 = .ok (.iload_n 2, 1) := by decide +kernel
theorem d_W_held_34 : decode b_W_held 34 = .ok (.invokevirtual 108, 3) := by decide +kernel
theorem d_W_held_37 : decode b_W_held 37 = .ok (.iload_n 3, 1) := by decide +kernel
theorem d_W_held_38 : decode b_W_held 38 = .ok (.ifCond .ne 15, 3) := by decide +kernel
theorem d_W_held_41 : decode b_W_held 41 = .ok (.aload_n 0, 1) := by decide +kernel
theorem d_W_held_42 : decode b_W_held 42 = .ok (.getfield 18, 3) := by decide +kernel
theorem d_W_held_45 : decode b_W_held 45 = .ok (.getfield 112, 3) := by decide +kernel
theorem d_W_held_48 : decode b_W_held 48 = .ok (.iload_n 1, 1) := by decide +kernel
theorem d_W_held_49 : decode b_W_held 49 = .ok (.iaload, 1) := by decide +kernel
theorem d_W_held_50 : decode b_W_held 50 = .ok (.goto 12, 3) := by decide +kernel
theorem d_W_held_53 : decode b_W_held 53 = .ok (.aload_n 0, 1) := by decide +kernel
theorem d_W_held_54 : decode b_W_held 54 = .ok (.getfield 18, 3) := by decide +kernel
theorem d_W_held_57 : decode b_W_held 57 = .ok (.getfield 135, 3) := by decide +kernel
theorem d_W_held_60 : decode b_W_held 60 = .ok (.iload_n 1, 1) := by decide +kernel
theorem d_W_held_61 : decode b_W_held 61 = .ok (.iaload, 1) := by decide +kernel
theorem d_W_held_62 : decode b_W_held 62 = .ok (.ireturn, 1) := by decide +kernel
abbrev b_C_append : ByteArray := prog_2_method_2_code
abbrev y_C_append : MethodName := ⟨"WhoRules$Charters", "append", "(B)V"⟩
theorem d_C_append_0 : decode b_C_append 0 = .ok (.aload_n 0, 1) := by decide +kernel
theorem d_C_append_1 : decode b_C_append 1 = .ok (.getfield 37, 3) := by decide +kernel
theorem d_C_append_4 : decode b_C_append 4 = .ok (.bipush 100, 2) := by decide +kernel
theorem d_C_append_6 : decode b_C_append 6 = .ok (.if_icmp .ge 23, 3) := by decide +kernel
theorem d_C_append_9 : decode b_C_append 9 = .ok (.aload_n 0, 1) := by decide +kernel
theorem d_C_append_10 : decode b_C_append 10 = .ok (.getfield 11, 3) := by decide +kernel
theorem d_C_append_13 : decode b_C_append 13 = .ok (.aload_n 0, 1) := by decide +kernel
theorem d_C_append_14 : decode b_C_append 14 = .ok (.getfield 37, 3) := by decide +kernel
theorem d_C_append_17 : decode b_C_append 17 = .ok (.iload_n 1, 1) := by decide +kernel
theorem d_C_append_18 : decode b_C_append 18 = .ok (.bastore, 1) := by decide +kernel
theorem d_C_append_19 : decode b_C_append 19 = .ok (.aload_n 0, 1) := by decide +kernel
theorem d_C_append_20 : decode b_C_append 20 = .ok (.dup, 1) := by decide +kernel
theorem d_C_append_21 : decode b_C_append 21 = .ok (.getfield 37, 3) := by decide +kernel
theorem d_C_append_24 : decode b_C_append 24 = .ok (.iconst 1, 1) := by decide +kernel
theorem d_C_append_25 : decode b_C_append 25 = .ok (.iadd, 1) := by decide +kernel
theorem d_C_append_26 : decode b_C_append 26 = .ok (.putfield 37, 3) := by decide +kernel
theorem d_C_append_29 : decode b_C_append 29 = .ok (.return_, 1) := by decide +kernel
abbrev b_W_feed : ByteArray := prog_1_method_9_code
abbrev y_W_feed : MethodName := ⟨"WhoRules", "feed", "(II)I"⟩
theorem d_W_feed_0 : decode b_W_feed 0 = .ok (.iload_n 2, 1) := by decide +kernel
theorem d_W_feed_1 : decode b_W_feed 1 = .ok (.ifCond .lt 8, 3) := by decide +kernel
theorem d_W_feed_4 : decode b_W_feed 4 = .ok (.iload_n 2, 1) := by decide +kernel
theorem d_W_feed_5 : decode b_W_feed 5 = .ok (.iconst 4, 1) := by decide +kernel
theorem d_W_feed_6 : decode b_W_feed 6 = .ok (.if_icmp .le 6, 3) := by decide +kernel
theorem d_W_feed_9 : decode b_W_feed 9 = .ok (.bipush (-2), 2) := by decide +kernel
theorem d_W_feed_11 : decode b_W_feed 11 = .ok (.ireturn, 1) := by decide +kernel
theorem d_W_feed_12 : decode b_W_feed 12 = .ok (.aload_n 0, 1) := by decide +kernel
theorem d_W_feed_13 : decode b_W_feed 13 = .ok (.getfield 25, 3) := by decide +kernel
theorem d_W_feed_16 : decode b_W_feed 16 = .ok (.getfield 138, 3) := by decide +kernel
theorem d_W_feed_19 : decode b_W_feed 19 = .ok (.iload_n 2, 1) := by decide +kernel
theorem d_W_feed_20 : decode b_W_feed 20 = .ok (.iadd, 1) := by decide +kernel
theorem d_W_feed_21 : decode b_W_feed 21 = .ok (.bipush 100, 2) := by decide +kernel
theorem d_W_feed_23 : decode b_W_feed 23 = .ok (.if_icmp .le 6, 3) := by decide +kernel
theorem d_W_feed_26 : decode b_W_feed 26 = .ok (.bipush (-4), 2) := by decide +kernel
theorem d_W_feed_28 : decode b_W_feed 28 = .ok (.ireturn, 1) := by decide +kernel
theorem d_W_feed_29 : decode b_W_feed 29 = .ok (.iload_n 2, 1) := by decide +kernel
theorem d_W_feed_30 : decode b_W_feed 30 = .ok (.iconst 1, 1) := by decide +kernel
theorem d_W_feed_31 : decode b_W_feed 31 = .ok (.isub, 1) := by decide +kernel
theorem d_W_feed_32 : decode b_W_feed 32 = .ok (.istore_n 3, 1) := by decide +kernel
theorem d_W_feed_33 : decode b_W_feed 33 = .ok (.iload_n 3, 1) := by decide +kernel
theorem d_W_feed_34 : decode b_W_feed 34 = .ok (.ifCond .lt 23, 3) := by decide +kernel
theorem d_W_feed_37 : decode b_W_feed 37 = .ok (.aload_n 0, 1) := by decide +kernel
theorem d_W_feed_38 : decode b_W_feed 38 = .ok (.getfield 25, 3) := by decide +kernel
theorem d_W_feed_41 : decode b_W_feed 41 = .ok (.iload_n 1, 1) := by decide +kernel
theorem d_W_feed_42 : decode b_W_feed 42 = .ok (.bipush 8, 2) := by decide +kernel
theorem d_W_feed_44 : decode b_W_feed 44 = .ok (.iload_n 3, 1) := by decide +kernel
theorem d_W_feed_45 : decode b_W_feed 45 = .ok (.imul, 1) := by decide +kernel
theorem d_W_feed_46 : decode b_W_feed 46 = .ok (.ishr, 1) := by decide +kernel
theorem d_W_feed_47 : decode b_W_feed 47 = .ok (.i2b, 1) := by decide +kernel
theorem d_W_feed_48 : decode b_W_feed 48 = .ok (.invokevirtual 141, 3) := by decide +kernel
theorem d_W_feed_51 : decode b_W_feed 51 = .ok (.iinc 3 (-1), 3) := by decide +kernel
theorem d_W_feed_54 : decode b_W_feed 54 = .ok (.goto (-21), 3) := by decide +kernel
theorem d_W_feed_57 : decode b_W_feed 57 = .ok (.aload_n 0, 1) := by decide +kernel
theorem d_W_feed_58 : decode b_W_feed 58 = .ok (.getfield 25, 3) := by decide +kernel
theorem d_W_feed_61 : decode b_W_feed 61 = .ok (.getfield 138, 3) := by decide +kernel
theorem d_W_feed_64 : decode b_W_feed 64 = .ok (.ireturn, 1) := by decide +kernel
abbrev b_C_nameOf : ByteArray := prog_2_method_6_code
abbrev y_C_nameOf : MethodName := ⟨"WhoRules$Charters", "nameOf", "(I)Ljava/lang/String;"⟩
theorem d_C_nameOf_0 : decode b_C_nameOf 0 = .ok (.iload_n 0, 1) := by decide +kernel
theorem d_C_nameOf_1 : decode b_C_nameOf 1 = .ok (.tableswitch 43 0 3 #[31, 34, 37, 40], 31) := by decide +kernel
theorem d_C_nameOf_32 : decode b_C_nameOf 32 = .ok (.ldc 68, 2) := by decide +kernel
theorem d_C_nameOf_34 : decode b_C_nameOf 34 = .ok (.areturn, 1) := by decide +kernel
theorem d_C_nameOf_35 : decode b_C_nameOf 35 = .ok (.ldc 70, 2) := by decide +kernel
theorem d_C_nameOf_37 : decode b_C_nameOf 37 = .ok (.areturn, 1) := by decide +kernel
theorem d_C_nameOf_38 : decode b_C_nameOf 38 = .ok (.ldc 72, 2) := by decide +kernel
theorem d_C_nameOf_40 : decode b_C_nameOf 40 = .ok (.areturn, 1) := by decide +kernel
theorem d_C_nameOf_41 : decode b_C_nameOf 41 = .ok (.ldc 74, 2) := by decide +kernel
theorem d_C_nameOf_43 : decode b_C_nameOf 43 = .ok (.areturn, 1) := by decide +kernel
theorem d_C_nameOf_44 : decode b_C_nameOf 44 = .ok (.ldc 76, 2) := by decide +kernel
theorem d_C_nameOf_46 : decode b_C_nameOf 46 = .ok (.areturn, 1) := by decide +kernel
abbrev b_C_takes : ByteArray := prog_2_method_9_code
abbrev y_C_takes : MethodName := ⟨"WhoRules$Charters", "takes", "(I)Z"⟩
theorem d_C_takes_0 : decode b_C_takes 0 = .ok (.aload_n 0, 1) := by decide +kernel
theorem d_C_takes_1 : decode b_C_takes 1 = .ok (.getfield 41, 3) := by decide +kernel
theorem d_C_takes_4 : decode b_C_takes 4 = .ok (.aload_n 0, 1) := by decide +kernel
theorem d_C_takes_5 : decode b_C_takes 5 = .ok (.getfield 37, 3) := by decide +kernel
theorem d_C_takes_8 : decode b_C_takes 8 = .ok (.if_icmp .ge 16, 3) := by decide +kernel
theorem d_C_takes_11 : decode b_C_takes 11 = .ok (.aload_n 0, 1) := by decide +kernel
theorem d_C_takes_12 : decode b_C_takes 12 = .ok (.getfield 11, 3) := by decide +kernel
theorem d_C_takes_15 : decode b_C_takes 15 = .ok (.aload_n 0, 1) := by decide +kernel
theorem d_C_takes_16 : decode b_C_takes 16 = .ok (.getfield 41, 3) := by decide +kernel
theorem d_C_takes_19 : decode b_C_takes 19 = .ok (.baload, 1) := by decide +kernel
theorem d_C_takes_20 : decode b_C_takes 20 = .ok (.iload_n 1, 1) := by decide +kernel
theorem d_C_takes_21 : decode b_C_takes 21 = .ok (.if_icmp .eq 5, 3) := by decide +kernel
theorem d_C_takes_24 : decode b_C_takes 24 = .ok (.iconst 0, 1) := by decide +kernel
theorem d_C_takes_25 : decode b_C_takes 25 = .ok (.ireturn, 1) := by decide +kernel
theorem d_C_takes_26 : decode b_C_takes 26 = .ok (.aload_n 0, 1) := by decide +kernel
theorem d_C_takes_27 : decode b_C_takes 27 = .ok (.dup, 1) := by decide +kernel
theorem d_C_takes_28 : decode b_C_takes 28 = .ok (.getfield 41, 3) := by decide +kernel
theorem d_C_takes_31 : decode b_C_takes 31 = .ok (.iconst 1, 1) := by decide +kernel
theorem d_C_takes_32 : decode b_C_takes 32 = .ok (.iadd, 1) := by decide +kernel
theorem d_C_takes_33 : decode b_C_takes 33 = .ok (.putfield 41, 3) := by decide +kernel
theorem d_C_takes_36 : decode b_C_takes 36 = .ok (.iconst 1, 1) := by decide +kernel
theorem d_C_takes_37 : decode b_C_takes 37 = .ok (.ireturn, 1) := by decide +kernel
abbrev b_C_takesAll : ByteArray := prog_2_method_8_code
abbrev y_C_takesAll : MethodName := ⟨"WhoRules$Charters", "takesAll", "(Ljava/lang/String;)Z"⟩
theorem d_C_takesAll_0 : decode b_C_takesAll 0 = .ok (.iconst 0, 1) := by decide +kernel
theorem d_C_takesAll_1 : decode b_C_takesAll 1 = .ok (.istore_n 2, 1) := by decide +kernel
theorem d_C_takesAll_2 : decode b_C_takesAll 2 = .ok (.iload_n 2, 1) := by decide +kernel
theorem d_C_takesAll_3 : decode b_C_takesAll 3 = .ok (.aload_n 1, 1) := by decide +kernel
theorem d_C_takesAll_4 : decode b_C_takesAll 4 = .ok (.invokevirtual 92, 3) := by decide +kernel
theorem d_C_takesAll_7 : decode b_C_takesAll 7 = .ok (.if_icmp .ge 23, 3) := by decide +kernel
theorem d_C_takesAll_10 : decode b_C_takesAll 10 = .ok (.aload_n 0, 1) := by decide +kernel
theorem d_C_takesAll_11 : decode b_C_takesAll 11 = .ok (.aload_n 1, 1) := by decide +kernel
theorem d_C_takesAll_12 : decode b_C_takesAll 12 = .ok (.iload_n 2, 1) := by decide +kernel
theorem d_C_takesAll_13 : decode b_C_takesAll 13 = .ok (.invokevirtual 82, 3) := by decide +kernel
theorem d_C_takesAll_16 : decode b_C_takesAll 16 = .ok (.invokevirtual 54, 3) := by decide +kernel
theorem d_C_takesAll_19 : decode b_C_takesAll 19 = .ok (.ifCond .ne 5, 3) := by decide +kernel
theorem d_C_takesAll_22 : decode b_C_takesAll 22 = .ok (.iconst 0, 1) := by decide +kernel
theorem d_C_takesAll_23 : decode b_C_takesAll 23 = .ok (.ireturn, 1) := by decide +kernel
theorem d_C_takesAll_24 : decode b_C_takesAll 24 = .ok (.iinc 2 1, 3) := by decide +kernel
theorem d_C_takesAll_27 : decode b_C_takesAll 27 = .ok (.goto (-25), 3) := by decide +kernel
theorem d_C_takesAll_30 : decode b_C_takesAll 30 = .ok (.iconst 1, 1) := by decide +kernel
theorem d_C_takesAll_31 : decode b_C_takesAll 31 = .ok (.ireturn, 1) := by decide +kernel
abbrev b_C_readWord : ByteArray := prog_2_method_7_code
abbrev y_C_readWord : MethodName := ⟨"WhoRules$Charters", "readWord", "()I"⟩
theorem d_C_readWord_0 : decode b_C_readWord 0 = .ok (.iconst 0, 1) := by decide +kernel
theorem d_C_readWord_1 : decode b_C_readWord 1 = .ok (.istore_n 1, 1) := by decide +kernel
theorem d_C_readWord_2 : decode b_C_readWord 2 = .ok (.iload_n 1, 1) := by decide +kernel
theorem d_C_readWord_3 : decode b_C_readWord 3 = .ok (.iconst 5, 1) := by decide +kernel
theorem d_C_readWord_4 : decode b_C_readWord 4 = .ok (.if_icmp .ge 56, 3) := by decide +kernel
theorem d_C_readWord_7 : decode b_C_readWord 7 = .ok (.iload_n 1, 1) := by decide +kernel
theorem d_C_readWord_8 : decode b_C_readWord 8 = .ok (.invokestatic 78, 3) := by decide +kernel
theorem d_C_readWord_11 : decode b_C_readWord 11 = .ok (.astore_n 2, 1) := by decide +kernel
theorem d_C_readWord_12 : decode b_C_readWord 12 = .ok (.aload_n 0, 1) := by decide +kernel
theorem d_C_readWord_13 : decode b_C_readWord 13 = .ok (.getfield 41, 3) := by decide +kernel
theorem d_C_readWord_16 : decode b_C_readWord 16 = .ok (.aload_n 0, 1) := by decide +kernel
theorem d_C_readWord_17 : decode b_C_readWord 17 = .ok (.getfield 37, 3) := by decide +kernel
theorem d_C_readWord_20 : decode b_C_readWord 20 = .ok (.if_icmp .ge 34, 3) := by decide +kernel
theorem d_C_readWord_23 : decode b_C_readWord 23 = .ok (.aload_n 0, 1) := by decide +kernel
theorem d_C_readWord_24 : decode b_C_readWord 24 = .ok (.getfield 11, 3) := by decide +kernel
theorem d_C_readWord_27 : decode b_C_readWord 27 = .ok (.aload_n 0, 1) := by decide +kernel
theorem d_C_readWord_28 : decode b_C_readWord 28 = .ok (.getfield 41, 3) := by decide +kernel
theorem d_C_readWord_31 : decode b_C_readWord 31 = .ok (.baload, 1) := by decide +kernel
theorem d_C_readWord_32 : decode b_C_readWord 32 = .ok (.aload_n 2, 1) := by decide +kernel
theorem d_C_readWord_33 : decode b_C_readWord 33 = .ok (.iconst 0, 1) := by decide +kernel
theorem d_C_readWord_34 : decode b_C_readWord 34 = .ok (.invokevirtual 82, 3) := by decide +kernel
theorem d_C_readWord_37 : decode b_C_readWord 37 = .ok (.if_icmp .ne 17, 3) := by decide +kernel
theorem d_C_readWord_40 : decode b_C_readWord 40 = .ok (.aload_n 0, 1) := by decide +kernel
theorem d_C_readWord_41 : decode b_C_readWord 41 = .ok (.aload_n 2, 1) := by decide +kernel
theorem d_C_readWord_42 : decode b_C_readWord 42 = .ok (.invokevirtual 88, 3) := by decide +kernel
theorem d_C_readWord_45 : decode b_C_readWord 45 = .ok (.ifCond .eq 7, 3) := by decide +kernel
theorem d_C_readWord_48 : decode b_C_readWord 48 = .ok (.iload_n 1, 1) := by decide +kernel
theorem d_C_readWord_49 : decode b_C_readWord 49 = .ok (.goto 4, 3) := by decide +kernel
theorem d_C_readWord_52 : decode b_C_readWord 52 = .ok (.iconst (-1), 1) := by decide +kernel
theorem d_C_readWord_53 : decode b_C_readWord 53 = .ok (.ireturn, 1) := by decide +kernel
theorem d_C_readWord_54 : decode b_C_readWord 54 = .ok (.iinc 1 1, 3) := by decide +kernel
theorem d_C_readWord_57 : decode b_C_readWord 57 = .ok (.goto (-55), 3) := by decide +kernel
theorem d_C_readWord_60 : decode b_C_readWord 60 = .ok (.iconst (-1), 1) := by decide +kernel
theorem d_C_readWord_61 : decode b_C_readWord 61 = .ok (.ireturn, 1) := by decide +kernel
abbrev b_C_put : ByteArray := prog_2_method_17_code
abbrev y_C_put : MethodName := ⟨"WhoRules$Charters", "put", "(I)V"⟩
theorem d_C_put_0 : decode b_C_put 0 = .ok (.aload_n 0, 1) := by decide +kernel
theorem d_C_put_1 : decode b_C_put 1 = .ok (.getfield 47, 3) := by decide +kernel
theorem d_C_put_4 : decode b_C_put 4 = .ok (.sipush 2000, 3) := by decide +kernel
theorem d_C_put_7 : decode b_C_put 7 = .ok (.if_icmp .ge 23, 3) := by decide +kernel
theorem d_C_put_10 : decode b_C_put 10 = .ok (.aload_n 0, 1) := by decide +kernel
theorem d_C_put_11 : decode b_C_put 11 = .ok (.getfield 34, 3) := by decide +kernel
theorem d_C_put_14 : decode b_C_put 14 = .ok (.aload_n 0, 1) := by decide +kernel
theorem d_C_put_15 : decode b_C_put 15 = .ok (.getfield 47, 3) := by decide +kernel
theorem d_C_put_18 : decode b_C_put 18 = .ok (.iload_n 1, 1) := by decide +kernel
theorem d_C_put_19 : decode b_C_put 19 = .ok (.iastore, 1) := by decide +kernel
theorem d_C_put_20 : decode b_C_put 20 = .ok (.aload_n 0, 1) := by decide +kernel
theorem d_C_put_21 : decode b_C_put 21 = .ok (.dup, 1) := by decide +kernel
theorem d_C_put_22 : decode b_C_put 22 = .ok (.getfield 47, 3) := by decide +kernel
theorem d_C_put_25 : decode b_C_put 25 = .ok (.iconst 1, 1) := by decide +kernel
theorem d_C_put_26 : decode b_C_put 26 = .ok (.iadd, 1) := by decide +kernel
theorem d_C_put_27 : decode b_C_put 27 = .ok (.putfield 47, 3) := by decide +kernel
theorem d_C_put_30 : decode b_C_put 30 = .ok (.return_, 1) := by decide +kernel
abbrev b_C_takesOneOf : ByteArray := prog_2_method_10_code
abbrev y_C_takesOneOf : MethodName := ⟨"WhoRules$Charters", "takesOneOf", "(Ljava/lang/String;)I"⟩
theorem d_C_takesOneOf_0 : decode b_C_takesOneOf 0 = .ok (.iconst 0, 1) := by decide +kernel
theorem d_C_takesOneOf_1 : decode b_C_takesOneOf 1 = .ok (.istore_n 2, 1) := by decide +kernel
theorem d_C_takesOneOf_2 : decode b_C_takesOneOf 2 = .ok (.iload_n 2, 1) := by decide +kernel
theorem d_C_takesOneOf_3 : decode b_C_takesOneOf 3 = .ok (.aload_n 1, 1) := by decide +kernel
theorem d_C_takesOneOf_4 : decode b_C_takesOneOf 4 = .ok (.invokevirtual 92, 3) := by decide +kernel
theorem d_C_takesOneOf_7 : decode b_C_takesOneOf 7 = .ok (.if_icmp .ge 49, 3) := by decide +kernel
theorem d_C_takesOneOf_10 : decode b_C_takesOneOf 10 = .ok (.aload_n 0, 1) := by decide +kernel
theorem d_C_takesOneOf_11 : decode b_C_takesOneOf 11 = .ok (.getfield 41, 3) := by decide +kernel
theorem d_C_takesOneOf_14 : decode b_C_takesOneOf 14 = .ok (.aload_n 0, 1) := by decide +kernel
theorem d_C_takesOneOf_15 : decode b_C_takesOneOf 15 = .ok (.getfield 37, 3) := by decide +kernel
theorem d_C_takesOneOf_18 : decode b_C_takesOneOf 18 = .ok (.if_icmp .ge 32, 3) := by decide +kernel
theorem d_C_takesOneOf_21 : decode b_C_takesOneOf 21 = .ok (.aload_n 0, 1) := by decide +kernel
theorem d_C_takesOneOf_22 : decode b_C_takesOneOf 22 = .ok (.getfield 11, 3) := by decide +kernel
theorem d_C_takesOneOf_25 : decode b_C_takesOneOf 25 = .ok (.aload_n 0, 1) := by decide +kernel
theorem d_C_takesOneOf_26 : decode b_C_takesOneOf 26 = .ok (.getfield 41, 3) := by decide +kernel
theorem d_C_takesOneOf_29 : decode b_C_takesOneOf 29 = .ok (.baload, 1) := by decide +kernel
theorem d_C_takesOneOf_30 : decode b_C_takesOneOf 30 = .ok (.aload_n 1, 1) := by decide +kernel
theorem d_C_takesOneOf_31 : decode b_C_takesOneOf 31 = .ok (.iload_n 2, 1) := by decide +kernel
theorem d_C_takesOneOf_32 : decode b_C_takesOneOf 32 = .ok (.invokevirtual 82, 3) := by decide +kernel
theorem d_C_takesOneOf_35 : decode b_C_takesOneOf 35 = .ok (.if_icmp .ne 15, 3) := by decide +kernel
theorem d_C_takesOneOf_38 : decode b_C_takesOneOf 38 = .ok (.aload_n 0, 1) := by decide +kernel
theorem d_C_takesOneOf_39 : decode b_C_takesOneOf 39 = .ok (.dup, 1) := by decide +kernel
theorem d_C_takesOneOf_40 : decode b_C_takesOneOf 40 = .ok (.getfield 41, 3) := by decide +kernel
theorem d_C_takesOneOf_43 : decode b_C_takesOneOf 43 = .ok (.iconst 1, 1) := by decide +kernel
theorem d_C_takesOneOf_44 : decode b_C_takesOneOf 44 = .ok (.iadd, 1) := by decide +kernel
theorem d_C_takesOneOf_45 : decode b_C_takesOneOf 45 = .ok (.putfield 41, 3) := by decide +kernel
theorem d_C_takesOneOf_48 : decode b_C_takesOneOf 48 = .ok (.iload_n 2, 1) := by decide +kernel
theorem d_C_takesOneOf_49 : decode b_C_takesOneOf 49 = .ok (.ireturn, 1) := by decide +kernel
theorem d_C_takesOneOf_50 : decode b_C_takesOneOf 50 = .ok (.iinc 2 1, 3) := by decide +kernel
theorem d_C_takesOneOf_53 : decode b_C_takesOneOf 53 = .ok (.goto (-51), 3) := by decide +kernel
theorem d_C_takesOneOf_56 : decode b_C_takesOneOf 56 = .ok (.iconst (-1), 1) := by decide +kernel
theorem d_C_takesOneOf_57 : decode b_C_takesOneOf 57 = .ok (.ireturn, 1) := by decide +kernel
abbrev b_C_readNumber : ByteArray := prog_2_method_11_code
abbrev y_C_readNumber : MethodName := ⟨"WhoRules$Charters", "readNumber", "(I)I"⟩
theorem d_C_readNumber_0 : decode b_C_readNumber 0 = .ok (.iconst 0, 1) := by decide +kernel
theorem d_C_readNumber_1 : decode b_C_readNumber 1 = .ok (.istore_n 2, 1) := by decide +kernel
theorem d_C_readNumber_2 : decode b_C_readNumber 2 = .ok (.iconst 0, 1) := by decide +kernel
theorem d_C_readNumber_3 : decode b_C_readNumber 3 = .ok (.istore_n 3, 1) := by decide +kernel
theorem d_C_readNumber_4 : decode b_C_readNumber 4 = .ok (.iload_n 3, 1) := by decide +kernel
theorem d_C_readNumber_5 : decode b_C_readNumber 5 = .ok (.iconst 3, 1) := by decide +kernel
theorem d_C_readNumber_6 : decode b_C_readNumber 6 = .ok (.if_icmp .ge 76, 3) := by decide +kernel
theorem d_C_readNumber_9 : decode b_C_readNumber 9 = .ok (.aload_n 0, 1) := by decide +kernel
theorem d_C_readNumber_10 : decode b_C_readNumber 10 = .ok (.getfield 41, 3) := by decide +kernel
theorem d_C_readNumber_13 : decode b_C_readNumber 13 = .ok (.aload_n 0, 1) := by decide +kernel
theorem d_C_readNumber_14 : decode b_C_readNumber 14 = .ok (.getfield 37, 3) := by decide +kernel
theorem d_C_readNumber_17 : decode b_C_readNumber 17 = .ok (.if_icmp .ge 65, 3) := by decide +kernel
theorem d_C_readNumber_20 : decode b_C_readNumber 20 = .ok (.aload_n 0, 1) := by decide +kernel
theorem d_C_readNumber_21 : decode b_C_readNumber 21 = .ok (.getfield 11, 3) := by decide +kernel
theorem d_C_readNumber_24 : decode b_C_readNumber 24 = .ok (.aload_n 0, 1) := by decide +kernel
theorem d_C_readNumber_25 : decode b_C_readNumber 25 = .ok (.getfield 41, 3) := by decide +kernel
theorem d_C_readNumber_28 : decode b_C_readNumber 28 = .ok (.baload, 1) := by decide +kernel
theorem d_C_readNumber_29 : decode b_C_readNumber 29 = .ok (.bipush 48, 2) := by decide +kernel
theorem d_C_readNumber_31 : decode b_C_readNumber 31 = .ok (.if_icmp .lt 51, 3) := by decide +kernel
theorem d_C_readNumber_34 : decode b_C_readNumber 34 = .ok (.aload_n 0, 1) := by decide +kernel
theorem d_C_readNumber_35 : decode b_C_readNumber 35 = .ok (.getfield 11, 3) := by decide +kernel
theorem d_C_readNumber_38 : decode b_C_readNumber 38 = .ok (.aload_n 0, 1) := by decide +kernel
theorem d_C_readNumber_39 : decode b_C_readNumber 39 = .ok (.getfield 41, 3) := by decide +kernel
theorem d_C_readNumber_42 : decode b_C_readNumber 42 = .ok (.baload, 1) := by decide +kernel
theorem d_C_readNumber_43 : decode b_C_readNumber 43 = .ok (.bipush 57, 2) := by decide +kernel
theorem d_C_readNumber_45 : decode b_C_readNumber 45 = .ok (.if_icmp .gt 37, 3) := by decide +kernel
theorem d_C_readNumber_48 : decode b_C_readNumber 48 = .ok (.iload_n 2, 1) := by decide +kernel
theorem d_C_readNumber_49 : decode b_C_readNumber 49 = .ok (.bipush 10, 2) := by decide +kernel
theorem d_C_readNumber_51 : decode b_C_readNumber 51 = .ok (.imul, 1) := by decide +kernel
theorem d_C_readNumber_52 : decode b_C_readNumber 52 = .ok (.aload_n 0, 1) := by decide +kernel
theorem d_C_readNumber_53 : decode b_C_readNumber 53 = .ok (.getfield 11, 3) := by decide +kernel
theorem d_C_readNumber_56 : decode b_C_readNumber 56 = .ok (.aload_n 0, 1) := by decide +kernel
theorem d_C_readNumber_57 : decode b_C_readNumber 57 = .ok (.getfield 41, 3) := by decide +kernel
theorem d_C_readNumber_60 : decode b_C_readNumber 60 = .ok (.baload, 1) := by decide +kernel
theorem d_C_readNumber_61 : decode b_C_readNumber 61 = .ok (.iadd, 1) := by decide +kernel
theorem d_C_readNumber_62 : decode b_C_readNumber 62 = .ok (.bipush 48, 2) := by decide +kernel
theorem d_C_readNumber_64 : decode b_C_readNumber 64 = .ok (.isub, 1) := by decide +kernel
theorem d_C_readNumber_65 : decode b_C_readNumber 65 = .ok (.istore_n 2, 1) := by decide +kernel
theorem d_C_readNumber_66 : decode b_C_readNumber 66 = .ok (.iinc 3 1, 3) := by decide +kernel
theorem d_C_readNumber_69 : decode b_C_readNumber 69 = .ok (.aload_n 0, 1) := by decide +kernel
theorem d_C_readNumber_70 : decode b_C_readNumber 70 = .ok (.dup, 1) := by decide +kernel
theorem d_C_readNumber_71 : decode b_C_readNumber 71 = .ok (.getfield 41, 3) := by decide +kernel
theorem d_C_readNumber_74 : decode b_C_readNumber 74 = .ok (.iconst 1, 1) := by decide +kernel
theorem d_C_readNumber_75 : decode b_C_readNumber 75 = .ok (.iadd, 1) := by decide +kernel
theorem d_C_readNumber_76 : decode b_C_readNumber 76 = .ok (.putfield 41, 3) := by decide +kernel
theorem d_C_readNumber_79 : decode b_C_readNumber 79 = .ok (.goto (-75), 3) := by decide +kernel
theorem d_C_readNumber_82 : decode b_C_readNumber 82 = .ok (.iload_n 3, 1) := by decide +kernel
theorem d_C_readNumber_83 : decode b_C_readNumber 83 = .ok (.ifCond .ne 5, 3) := by decide +kernel
theorem d_C_readNumber_86 : decode b_C_readNumber 86 = .ok (.iconst (-1), 1) := by decide +kernel
theorem d_C_readNumber_87 : decode b_C_readNumber 87 = .ok (.ireturn, 1) := by decide +kernel
theorem d_C_readNumber_88 : decode b_C_readNumber 88 = .ok (.iload_n 2, 1) := by decide +kernel
theorem d_C_readNumber_89 : decode b_C_readNumber 89 = .ok (.iload_n 1, 1) := by decide +kernel
theorem d_C_readNumber_90 : decode b_C_readNumber 90 = .ok (.if_icmp .ge 24, 3) := by decide +kernel
theorem d_C_readNumber_93 : decode b_C_readNumber 93 = .ok (.aload_n 0, 1) := by decide +kernel
theorem d_C_readNumber_94 : decode b_C_readNumber 94 = .ok (.dup, 1) := by decide +kernel
theorem d_C_readNumber_95 : decode b_C_readNumber 95 = .ok (.getfield 41, 3) := by decide +kernel
theorem d_C_readNumber_98 : decode b_C_readNumber 98 = .ok (.iload_n 3, 1) := by decide +kernel
theorem d_C_readNumber_99 : decode b_C_readNumber 99 = .ok (.iconst 3, 1) := by decide +kernel
theorem d_C_readNumber_100 : decode b_C_readNumber 100 = .ok (.if_icmp .ne 7, 3) := by decide +kernel
theorem d_C_readNumber_103 : decode b_C_readNumber 103 = .ok (.iconst 1, 1) := by decide +kernel
theorem d_C_readNumber_104 : decode b_C_readNumber 104 = .ok (.goto 4, 3) := by decide +kernel
theorem d_C_readNumber_107 : decode b_C_readNumber 107 = .ok (.iconst 0, 1) := by decide +kernel
theorem d_C_readNumber_108 : decode b_C_readNumber 108 = .ok (.isub, 1) := by decide +kernel
theorem d_C_readNumber_109 : decode b_C_readNumber 109 = .ok (.putfield 41, 3) := by decide +kernel
theorem d_C_readNumber_112 : decode b_C_readNumber 112 = .ok (.iconst (-1), 1) := by decide +kernel
theorem d_C_readNumber_113 : decode b_C_readNumber 113 = .ok (.ireturn, 1) := by decide +kernel
theorem d_C_readNumber_114 : decode b_C_readNumber 114 = .ok (.iload_n 2, 1) := by decide +kernel
theorem d_C_readNumber_115 : decode b_C_readNumber 115 = .ok (.ireturn, 1) := by decide +kernel
abbrev b_C_readTest : ByteArray := prog_2_method_16_code
abbrev y_C_readTest : MethodName := ⟨"WhoRules$Charters", "readTest", "()Z"⟩
theorem d_C_readTest_0 : decode b_C_readTest 0 = .ok (.aload_n 0, 1) := by decide +kernel
theorem d_C_readTest_1 : decode b_C_readTest 1 = .ok (.ldc 111, 2) := by decide +kernel
theorem d_C_readTest_3 : decode b_C_readTest 3 = .ok (.invokevirtual 113, 3) := by decide +kernel
theorem d_C_readTest_6 : decode b_C_readTest 6 = .ok (.istore_n 1, 1) := by decide +kernel
theorem d_C_readTest_7 : decode b_C_readTest 7 = .ok (.iload_n 1, 1) := by decide +kernel
theorem d_C_readTest_8 : decode b_C_readTest 8 = .ok (.ifCond .ge 7, 3) := by decide +kernel
theorem d_C_readTest_11 : decode b_C_readTest 11 = .ok (.iconst (-1), 1) := by decide +kernel
theorem d_C_readTest_12 : decode b_C_readTest 12 = .ok (.goto 9, 3) := by decide +kernel
theorem d_C_readTest_15 : decode b_C_readTest 15 = .ok (.aload_n 0, 1) := by decide +kernel
theorem d_C_readTest_16 : decode b_C_readTest 16 = .ok (.ldc 117, 2) := by decide +kernel
theorem d_C_readTest_18 : decode b_C_readTest 18 = .ok (.invokevirtual 113, 3) := by decide +kernel
theorem d_C_readTest_21 : decode b_C_readTest 21 = .ok (.istore_n 2, 1) := by decide +kernel
theorem d_C_readTest_22 : decode b_C_readTest 22 = .ok (.iload_n 2, 1) := by decide +kernel
theorem d_C_readTest_23 : decode b_C_readTest 23 = .ok (.ifCond .ge 7, 3) := by decide +kernel
theorem d_C_readTest_26 : decode b_C_readTest 26 = .ok (.iconst (-1), 1) := by decide +kernel
theorem d_C_readTest_27 : decode b_C_readTest 27 = .ok (.goto 8, 3) := by decide +kernel
theorem d_C_readTest_30 : decode b_C_readTest 30 = .ok (.aload_n 0, 1) := by decide +kernel
theorem d_C_readTest_31 : decode b_C_readTest 31 = .ok (.iconst 0, 1) := by decide +kernel
theorem d_C_readTest_32 : decode b_C_readTest 32 = .ok (.invokevirtual 64, 3) := by decide +kernel
theorem d_C_readTest_35 : decode b_C_readTest 35 = .ok (.istore_n 3, 1) := by decide +kernel
theorem d_C_readTest_36 : decode b_C_readTest 36 = .ok (.iload_n 3, 1) := by decide +kernel
theorem d_C_readTest_37 : decode b_C_readTest 37 = .ok (.ifCond .ge 5, 3) := by decide +kernel
theorem d_C_readTest_40 : decode b_C_readTest 40 = .ok (.iconst 0, 1) := by decide +kernel
theorem d_C_readTest_41 : decode b_C_readTest 41 = .ok (.ireturn, 1) := by decide +kernel
theorem d_C_readTest_42 : decode b_C_readTest 42 = .ok (.aload_n 0, 1) := by decide +kernel
theorem d_C_readTest_43 : decode b_C_readTest 43 = .ok (.iload_n 1, 1) := by decide +kernel
theorem d_C_readTest_44 : decode b_C_readTest 44 = .ok (.sipush 3000, 3) := by decide +kernel
theorem d_C_readTest_47 : decode b_C_readTest 47 = .ok (.imul, 1) := by decide +kernel
theorem d_C_readTest_48 : decode b_C_readTest 48 = .ok (.iload_n 2, 1) := by decide +kernel
theorem d_C_readTest_49 : decode b_C_readTest 49 = .ok (.sipush 1000, 3) := by decide +kernel
theorem d_C_readTest_52 : decode b_C_readTest 52 = .ok (.imul, 1) := by decide +kernel
theorem d_C_readTest_53 : decode b_C_readTest 53 = .ok (.iadd, 1) := by decide +kernel
theorem d_C_readTest_54 : decode b_C_readTest 54 = .ok (.iload_n 3, 1) := by decide +kernel
theorem d_C_readTest_55 : decode b_C_readTest 55 = .ok (.iadd, 1) := by decide +kernel
theorem d_C_readTest_56 : decode b_C_readTest 56 = .ok (.invokevirtual 97, 3) := by decide +kernel
theorem d_C_readTest_59 : decode b_C_readTest 59 = .ok (.iconst 1, 1) := by decide +kernel
theorem d_C_readTest_60 : decode b_C_readTest 60 = .ok (.ireturn, 1) := by decide +kernel
abbrev b_C_readNot : ByteArray := prog_2_method_15_code
abbrev y_C_readNot : MethodName := ⟨"WhoRules$Charters", "readNot", "(I)Z"⟩
theorem d_C_readNot_0 : decode b_C_readNot 0 = .ok (.aload_n 0, 1) := by decide +kernel
theorem d_C_readNot_1 : decode b_C_readNot 1 = .ok (.iload_n 1, 1) := by decide +kernel
theorem d_C_readNot_2 : decode b_C_readNot 2 = .ok (.invokevirtual 101, 3) := by decide +kernel
theorem d_C_readNot_5 : decode b_C_readNot 5 = .ok (.ifCond .ne 5, 3) := by decide +kernel
theorem d_C_readNot_8 : decode b_C_readNot 8 = .ok (.iconst 0, 1) := by decide +kernel
theorem d_C_readNot_9 : decode b_C_readNot 9 = .ok (.ireturn, 1) := by decide +kernel
theorem d_C_readNot_10 : decode b_C_readNot 10 = .ok (.aload_n 0, 1) := by decide +kernel
theorem d_C_readNot_11 : decode b_C_readNot 11 = .ok (.bipush (-3), 2) := by decide +kernel
theorem d_C_readNot_13 : decode b_C_readNot 13 = .ok (.invokevirtual 97, 3) := by decide +kernel
theorem d_C_readNot_16 : decode b_C_readNot 16 = .ok (.iconst 1, 1) := by decide +kernel
theorem d_C_readNot_17 : decode b_C_readNot 17 = .ok (.ireturn, 1) := by decide +kernel
abbrev b_C_readOne : ByteArray := prog_2_method_14_code
abbrev y_C_readOne : MethodName := ⟨"WhoRules$Charters", "readOne", "(I)Z"⟩
theorem d_C_readOne_0 : decode b_C_readOne 0 = .ok (.iload_n 1, 1) := by decide +kernel
theorem d_C_readOne_1 : decode b_C_readOne 1 = .ok (.iconst 4, 1) := by decide +kernel
theorem d_C_readOne_2 : decode b_C_readOne 2 = .ok (.if_icmp .ge 20, 3) := by decide +kernel
theorem d_C_readOne_5 : decode b_C_readOne 5 = .ok (.aload_n 0, 1) := by decide +kernel
theorem d_C_readOne_6 : decode b_C_readOne 6 = .ok (.bipush 33, 2) := by decide +kernel
theorem d_C_readOne_8 : decode b_C_readOne 8 = .ok (.invokevirtual 54, 3) := by decide +kernel
theorem d_C_readOne_11 : decode b_C_readOne 11 = .ok (.ifCond .eq 11, 3) := by decide +kernel
theorem d_C_readOne_14 : decode b_C_readOne 14 = .ok (.aload_n 0, 1) := by decide +kernel
theorem d_C_readOne_15 : decode b_C_readOne 15 = .ok (.iload_n 1, 1) := by decide +kernel
theorem d_C_readOne_16 : decode b_C_readOne 16 = .ok (.iconst 1, 1) := by decide +kernel
theorem d_C_readOne_17 : decode b_C_readOne 17 = .ok (.iadd, 1) := by decide +kernel
theorem d_C_readOne_18 : decode b_C_readOne 18 = .ok (.invokevirtual 104, 3) := by decide +kernel
theorem d_C_readOne_21 : decode b_C_readOne 21 = .ok (.ireturn, 1) := by decide +kernel
theorem d_C_readOne_22 : decode b_C_readOne 22 = .ok (.iload_n 1, 1) := by decide +kernel
theorem d_C_readOne_23 : decode b_C_readOne 23 = .ok (.iconst 4, 1) := by decide +kernel
theorem d_C_readOne_24 : decode b_C_readOne 24 = .ok (.if_icmp .ge 37, 3) := by decide +kernel
theorem d_C_readOne_27 : decode b_C_readOne 27 = .ok (.aload_n 0, 1) := by decide +kernel
theorem d_C_readOne_28 : decode b_C_readOne 28 = .ok (.bipush 40, 2) := by decide +kernel
theorem d_C_readOne_30 : decode b_C_readOne 30 = .ok (.invokevirtual 54, 3) := by decide +kernel
theorem d_C_readOne_33 : decode b_C_readOne 33 = .ok (.ifCond .eq 28, 3) := by decide +kernel
theorem d_C_readOne_36 : decode b_C_readOne 36 = .ok (.aload_n 0, 1) := by decide +kernel
theorem d_C_readOne_37 : decode b_C_readOne 37 = .ok (.iload_n 1, 1) := by decide +kernel
theorem d_C_readOne_38 : decode b_C_readOne 38 = .ok (.iconst 1, 1) := by decide +kernel
theorem d_C_readOne_39 : decode b_C_readOne 39 = .ok (.iadd, 1) := by decide +kernel
theorem d_C_readOne_40 : decode b_C_readOne 40 = .ok (.invokevirtual 61, 3) := by decide +kernel
theorem d_C_readOne_43 : decode b_C_readOne 43 = .ok (.ifCond .eq 16, 3) := by decide +kernel
theorem d_C_readOne_46 : decode b_C_readOne 46 = .ok (.aload_n 0, 1) := by decide +kernel
theorem d_C_readOne_47 : decode b_C_readOne 47 = .ok (.bipush 41, 2) := by decide +kernel
theorem d_C_readOne_49 : decode b_C_readOne 49 = .ok (.invokevirtual 54, 3) := by decide +kernel
theorem d_C_readOne_52 : decode b_C_readOne 52 = .ok (.ifCond .eq 7, 3) := by decide +kernel
theorem d_C_readOne_55 : decode b_C_readOne 55 = .ok (.iconst 1, 1) := by decide +kernel
theorem d_C_readOne_56 : decode b_C_readOne 56 = .ok (.goto 4, 3) := by decide +kernel
theorem d_C_readOne_59 : decode b_C_readOne 59 = .ok (.iconst 0, 1) := by decide +kernel
theorem d_C_readOne_60 : decode b_C_readOne 60 = .ok (.ireturn, 1) := by decide +kernel
theorem d_C_readOne_61 : decode b_C_readOne 61 = .ok (.aload_n 0, 1) := by decide +kernel
theorem d_C_readOne_62 : decode b_C_readOne 62 = .ok (.invokevirtual 107, 3) := by decide +kernel
theorem d_C_readOne_65 : decode b_C_readOne 65 = .ok (.ireturn, 1) := by decide +kernel
abbrev b_C_readEvery : ByteArray := prog_2_method_13_code
abbrev y_C_readEvery : MethodName := ⟨"WhoRules$Charters", "readEvery", "(I)Z"⟩
theorem d_C_readEvery_0 : decode b_C_readEvery 0 = .ok (.aload_n 0, 1) := by decide +kernel
theorem d_C_readEvery_1 : decode b_C_readEvery 1 = .ok (.iload_n 1, 1) := by decide +kernel
theorem d_C_readEvery_2 : decode b_C_readEvery 2 = .ok (.invokevirtual 101, 3) := by decide +kernel
theorem d_C_readEvery_5 : decode b_C_readEvery 5 = .ok (.ifCond .ne 5, 3) := by decide +kernel
theorem d_C_readEvery_8 : decode b_C_readEvery 8 = .ok (.iconst 0, 1) := by decide +kernel
theorem d_C_readEvery_9 : decode b_C_readEvery 9 = .ok (.ireturn, 1) := by decide +kernel
theorem d_C_readEvery_10 : decode b_C_readEvery 10 = .ok (.iconst 0, 1) := by decide +kernel
theorem d_C_readEvery_11 : decode b_C_readEvery 11 = .ok (.istore_n 2, 1) := by decide +kernel
theorem d_C_readEvery_12 : decode b_C_readEvery 12 = .ok (.iload_n 2, 1) := by decide +kernel
theorem d_C_readEvery_13 : decode b_C_readEvery 13 = .ok (.bipush 100, 2) := by decide +kernel
theorem d_C_readEvery_15 : decode b_C_readEvery 15 = .ok (.if_icmp .ge 33, 3) := by decide +kernel
theorem d_C_readEvery_18 : decode b_C_readEvery 18 = .ok (.aload_n 0, 1) := by decide +kernel
theorem d_C_readEvery_19 : decode b_C_readEvery 19 = .ok (.bipush 38, 2) := by decide +kernel
theorem d_C_readEvery_21 : decode b_C_readEvery 21 = .ok (.invokevirtual 54, 3) := by decide +kernel
theorem d_C_readEvery_24 : decode b_C_readEvery 24 = .ok (.ifCond .eq 24, 3) := by decide +kernel
theorem d_C_readEvery_27 : decode b_C_readEvery 27 = .ok (.aload_n 0, 1) := by decide +kernel
theorem d_C_readEvery_28 : decode b_C_readEvery 28 = .ok (.iload_n 1, 1) := by decide +kernel
theorem d_C_readEvery_29 : decode b_C_readEvery 29 = .ok (.invokevirtual 101, 3) := by decide +kernel
theorem d_C_readEvery_32 : decode b_C_readEvery 32 = .ok (.ifCond .ne 5, 3) := by decide +kernel
theorem d_C_readEvery_35 : decode b_C_readEvery 35 = .ok (.iconst 0, 1) := by decide +kernel
theorem d_C_readEvery_36 : decode b_C_readEvery 36 = .ok (.ireturn, 1) := by decide +kernel
theorem d_C_readEvery_37 : decode b_C_readEvery 37 = .ok (.aload_n 0, 1) := by decide +kernel
theorem d_C_readEvery_38 : decode b_C_readEvery 38 = .ok (.iconst (-1), 1) := by decide +kernel
theorem d_C_readEvery_39 : decode b_C_readEvery 39 = .ok (.invokevirtual 97, 3) := by decide +kernel
theorem d_C_readEvery_42 : decode b_C_readEvery 42 = .ok (.iinc 2 1, 3) := by decide +kernel
theorem d_C_readEvery_45 : decode b_C_readEvery 45 = .ok (.goto (-33), 3) := by decide +kernel
theorem d_C_readEvery_48 : decode b_C_readEvery 48 = .ok (.iconst 1, 1) := by decide +kernel
theorem d_C_readEvery_49 : decode b_C_readEvery 49 = .ok (.ireturn, 1) := by decide +kernel
abbrev b_C_readAny : ByteArray := prog_2_method_12_code
abbrev y_C_readAny : MethodName := ⟨"WhoRules$Charters", "readAny", "(I)Z"⟩
theorem d_C_readAny_0 : decode b_C_readAny 0 = .ok (.aload_n 0, 1) := by decide +kernel
theorem d_C_readAny_1 : decode b_C_readAny 1 = .ok (.iload_n 1, 1) := by decide +kernel
theorem d_C_readAny_2 : decode b_C_readAny 2 = .ok (.invokevirtual 94, 3) := by decide +kernel
theorem d_C_readAny_5 : decode b_C_readAny 5 = .ok (.ifCond .ne 5, 3) := by decide +kernel
theorem d_C_readAny_8 : decode b_C_readAny 8 = .ok (.iconst 0, 1) := by decide +kernel
theorem d_C_readAny_9 : decode b_C_readAny 9 = .ok (.ireturn, 1) := by decide +kernel
theorem d_C_readAny_10 : decode b_C_readAny 10 = .ok (.iconst 0, 1) := by decide +kernel
theorem d_C_readAny_11 : decode b_C_readAny 11 = .ok (.istore_n 2, 1) := by decide +kernel
theorem d_C_readAny_12 : decode b_C_readAny 12 = .ok (.iload_n 2, 1) := by decide +kernel
theorem d_C_readAny_13 : decode b_C_readAny 13 = .ok (.bipush 100, 2) := by decide +kernel
theorem d_C_readAny_15 : decode b_C_readAny 15 = .ok (.if_icmp .ge 34, 3) := by decide +kernel
theorem d_C_readAny_18 : decode b_C_readAny 18 = .ok (.aload_n 0, 1) := by decide +kernel
theorem d_C_readAny_19 : decode b_C_readAny 19 = .ok (.bipush 124, 2) := by decide +kernel
theorem d_C_readAny_21 : decode b_C_readAny 21 = .ok (.invokevirtual 54, 3) := by decide +kernel
theorem d_C_readAny_24 : decode b_C_readAny 24 = .ok (.ifCond .eq 25, 3) := by decide +kernel
theorem d_C_readAny_27 : decode b_C_readAny 27 = .ok (.aload_n 0, 1) := by decide +kernel
theorem d_C_readAny_28 : decode b_C_readAny 28 = .ok (.iload_n 1, 1) := by decide +kernel
theorem d_C_readAny_29 : decode b_C_readAny 29 = .ok (.invokevirtual 94, 3) := by decide +kernel
theorem d_C_readAny_32 : decode b_C_readAny 32 = .ok (.ifCond .ne 5, 3) := by decide +kernel
theorem d_C_readAny_35 : decode b_C_readAny 35 = .ok (.iconst 0, 1) := by decide +kernel
theorem d_C_readAny_36 : decode b_C_readAny 36 = .ok (.ireturn, 1) := by decide +kernel
theorem d_C_readAny_37 : decode b_C_readAny 37 = .ok (.aload_n 0, 1) := by decide +kernel
theorem d_C_readAny_38 : decode b_C_readAny 38 = .ok (.bipush (-2), 2) := by decide +kernel
theorem d_C_readAny_40 : decode b_C_readAny 40 = .ok (.invokevirtual 97, 3) := by decide +kernel
theorem d_C_readAny_43 : decode b_C_readAny 43 = .ok (.iinc 2 1, 3) := by decide +kernel
theorem d_C_readAny_46 : decode b_C_readAny 46 = .ok (.goto (-34), 3) := by decide +kernel
theorem d_C_readAny_49 : decode b_C_readAny 49 = .ok (.iconst 1, 1) := by decide +kernel
theorem d_C_readAny_50 : decode b_C_readAny 50 = .ok (.ireturn, 1) := by decide +kernel
abbrev b_C_readClause : ByteArray := prog_2_method_5_code
abbrev y_C_readClause : MethodName := ⟨"WhoRules$Charters", "readClause", "(I)Z"⟩
theorem d_C_readClause_0 : decode b_C_readClause 0 = .ok (.aload_n 0, 1) := by decide +kernel
theorem d_C_readClause_1 : decode b_C_readClause 1 = .ok (.invokevirtual 57, 3) := by decide +kernel
theorem d_C_readClause_4 : decode b_C_readClause 4 = .ok (.istore_n 2, 1) := by decide +kernel
theorem d_C_readClause_5 : decode b_C_readClause 5 = .ok (.iload_n 2, 1) := by decide +kernel
theorem d_C_readClause_6 : decode b_C_readClause 6 = .ok (.ifCond .lt 12, 3) := by decide +kernel
theorem d_C_readClause_9 : decode b_C_readClause 9 = .ok (.aload_n 0, 1) := by decide +kernel
theorem d_C_readClause_10 : decode b_C_readClause 10 = .ok (.bipush 32, 2) := by decide +kernel
theorem d_C_readClause_12 : decode b_C_readClause 12 = .ok (.invokevirtual 54, 3) := by decide +kernel
theorem d_C_readClause_15 : decode b_C_readClause 15 = .ok (.ifCond .ne 5, 3) := by decide +kernel
theorem d_C_readClause_18 : decode b_C_readClause 18 = .ok (.iconst 0, 1) := by decide +kernel
theorem d_C_readClause_19 : decode b_C_readClause 19 = .ok (.ireturn, 1) := by decide +kernel
theorem d_C_readClause_20 : decode b_C_readClause 20 = .ok (.aload_n 0, 1) := by decide +kernel
theorem d_C_readClause_21 : decode b_C_readClause 21 = .ok (.getfield 25, 3) := by decide +kernel
theorem d_C_readClause_24 : decode b_C_readClause 24 = .ok (.iload_n 1, 1) := by decide +kernel
theorem d_C_readClause_25 : decode b_C_readClause 25 = .ok (.iload_n 2, 1) := by decide +kernel
theorem d_C_readClause_26 : decode b_C_readClause 26 = .ok (.iastore, 1) := by decide +kernel
theorem d_C_readClause_27 : decode b_C_readClause 27 = .ok (.iload_n 2, 1) := by decide +kernel
theorem d_C_readClause_28 : decode b_C_readClause 28 = .ok (.iconst 4, 1) := by decide +kernel
theorem d_C_readClause_29 : decode b_C_readClause 29 = .ok (.if_icmp .ne 31, 3) := by decide +kernel
theorem d_C_readClause_32 : decode b_C_readClause 32 = .ok (.aload_n 0, 1) := by decide +kernel
theorem d_C_readClause_33 : decode b_C_readClause 33 = .ok (.getfield 28, 3) := by decide +kernel
theorem d_C_readClause_36 : decode b_C_readClause 36 = .ok (.iload_n 1, 1) := by decide +kernel
theorem d_C_readClause_37 : decode b_C_readClause 37 = .ok (.aload_n 0, 1) := by decide +kernel
theorem d_C_readClause_38 : decode b_C_readClause 38 = .ok (.getfield 47, 3) := by decide +kernel
theorem d_C_readClause_41 : decode b_C_readClause 41 = .ok (.iastore, 1) := by decide +kernel
theorem d_C_readClause_42 : decode b_C_readClause 42 = .ok (.aload_n 0, 1) := by decide +kernel
theorem d_C_readClause_43 : decode b_C_readClause 43 = .ok (.iconst 0, 1) := by decide +kernel
theorem d_C_readClause_44 : decode b_C_readClause 44 = .ok (.invokevirtual 61, 3) := by decide +kernel
theorem d_C_readClause_47 : decode b_C_readClause 47 = .ok (.istore_n 3, 1) := by decide +kernel
theorem d_C_readClause_48 : decode b_C_readClause 48 = .ok (.aload_n 0, 1) := by decide +kernel
theorem d_C_readClause_49 : decode b_C_readClause 49 = .ok (.getfield 31, 3) := by decide +kernel
theorem d_C_readClause_52 : decode b_C_readClause 52 = .ok (.iload_n 1, 1) := by decide +kernel
theorem d_C_readClause_53 : decode b_C_readClause 53 = .ok (.aload_n 0, 1) := by decide +kernel
theorem d_C_readClause_54 : decode b_C_readClause 54 = .ok (.getfield 47, 3) := by decide +kernel
theorem d_C_readClause_57 : decode b_C_readClause 57 = .ok (.iastore, 1) := by decide +kernel
theorem d_C_readClause_58 : decode b_C_readClause 58 = .ok (.iload_n 3, 1) := by decide +kernel
theorem d_C_readClause_59 : decode b_C_readClause 59 = .ok (.ireturn, 1) := by decide +kernel
theorem d_C_readClause_60 : decode b_C_readClause 60 = .ok (.aload_n 0, 1) := by decide +kernel
theorem d_C_readClause_61 : decode b_C_readClause 61 = .ok (.getfield 28, 3) := by decide +kernel
theorem d_C_readClause_64 : decode b_C_readClause 64 = .ok (.iload_n 1, 1) := by decide +kernel
theorem d_C_readClause_65 : decode b_C_readClause 65 = .ok (.aload_n 0, 1) := by decide +kernel
theorem d_C_readClause_66 : decode b_C_readClause 66 = .ok (.iconst 0, 1) := by decide +kernel
theorem d_C_readClause_67 : decode b_C_readClause 67 = .ok (.invokevirtual 64, 3) := by decide +kernel
theorem d_C_readClause_70 : decode b_C_readClause 70 = .ok (.iastore, 1) := by decide +kernel
theorem d_C_readClause_71 : decode b_C_readClause 71 = .ok (.aload_n 0, 1) := by decide +kernel
theorem d_C_readClause_72 : decode b_C_readClause 72 = .ok (.getfield 28, 3) := by decide +kernel
theorem d_C_readClause_75 : decode b_C_readClause 75 = .ok (.iload_n 1, 1) := by decide +kernel
theorem d_C_readClause_76 : decode b_C_readClause 76 = .ok (.iaload, 1) := by decide +kernel
theorem d_C_readClause_77 : decode b_C_readClause 77 = .ok (.ifCond .lt 13, 3) := by decide +kernel
theorem d_C_readClause_80 : decode b_C_readClause 80 = .ok (.iload_n 2, 1) := by decide +kernel
theorem d_C_readClause_81 : decode b_C_readClause 81 = .ok (.iconst 1, 1) := by decide +kernel
theorem d_C_readClause_82 : decode b_C_readClause 82 = .ok (.if_icmp .eq 8, 3) := by decide +kernel
theorem d_C_readClause_85 : decode b_C_readClause 85 = .ok (.iload_n 2, 1) := by decide +kernel
theorem d_C_readClause_86 : decode b_C_readClause 86 = .ok (.iconst 3, 1) := by decide +kernel
theorem d_C_readClause_87 : decode b_C_readClause 87 = .ok (.if_icmp .ne 18, 3) := by decide +kernel
theorem d_C_readClause_90 : decode b_C_readClause 90 = .ok (.aload_n 0, 1) := by decide +kernel
theorem d_C_readClause_91 : decode b_C_readClause 91 = .ok (.getfield 28, 3) := by decide +kernel
theorem d_C_readClause_94 : decode b_C_readClause 94 = .ok (.iload_n 1, 1) := by decide +kernel
theorem d_C_readClause_95 : decode b_C_readClause 95 = .ok (.iaload, 1) := by decide +kernel
theorem d_C_readClause_96 : decode b_C_readClause 96 = .ok (.ifCond .lt 7, 3) := by decide +kernel
theorem d_C_readClause_99 : decode b_C_readClause 99 = .ok (.iconst 1, 1) := by decide +kernel
theorem d_C_readClause_100 : decode b_C_readClause 100 = .ok (.goto 4, 3) := by decide +kernel
theorem d_C_readClause_103 : decode b_C_readClause 103 = .ok (.iconst 0, 1) := by decide +kernel
theorem d_C_readClause_104 : decode b_C_readClause 104 = .ok (.ireturn, 1) := by decide +kernel
theorem d_C_readClause_105 : decode b_C_readClause 105 = .ok (.aload_n 0, 1) := by decide +kernel
theorem d_C_readClause_106 : decode b_C_readClause 106 = .ok (.bipush 32, 2) := by decide +kernel
theorem d_C_readClause_108 : decode b_C_readClause 108 = .ok (.invokevirtual 54, 3) := by decide +kernel
theorem d_C_readClause_111 : decode b_C_readClause 111 = .ok (.ifCond .ne 5, 3) := by decide +kernel
theorem d_C_readClause_114 : decode b_C_readClause 114 = .ok (.iconst 0, 1) := by decide +kernel
theorem d_C_readClause_115 : decode b_C_readClause 115 = .ok (.ireturn, 1) := by decide +kernel
theorem d_C_readClause_116 : decode b_C_readClause 116 = .ok (.aload_n 0, 1) := by decide +kernel
theorem d_C_readClause_117 : decode b_C_readClause 117 = .ok (.getfield 31, 3) := by decide +kernel
theorem d_C_readClause_120 : decode b_C_readClause 120 = .ok (.iload_n 1, 1) := by decide +kernel
theorem d_C_readClause_121 : decode b_C_readClause 121 = .ok (.aload_n 0, 1) := by decide +kernel
theorem d_C_readClause_122 : decode b_C_readClause 122 = .ok (.iload_n 2, 1) := by decide +kernel
theorem d_C_readClause_123 : decode b_C_readClause 123 = .ok (.ifCond .ne 7, 3) := by decide +kernel
theorem d_C_readClause_126 : decode b_C_readClause 126 = .ok (.iconst 1, 1) := by decide +kernel
theorem d_C_readClause_127 : decode b_C_readClause 127 = .ok (.goto 4, 3) := by decide +kernel
theorem d_C_readClause_130 : decode b_C_readClause 130 = .ok (.iconst 0, 1) := by decide +kernel
theorem d_C_readClause_131 : decode b_C_readClause 131 = .ok (.invokevirtual 64, 3) := by decide +kernel
theorem d_C_readClause_134 : decode b_C_readClause 134 = .ok (.iastore, 1) := by decide +kernel
theorem d_C_readClause_135 : decode b_C_readClause 135 = .ok (.aload_n 0, 1) := by decide +kernel
theorem d_C_readClause_136 : decode b_C_readClause 136 = .ok (.getfield 31, 3) := by decide +kernel
theorem d_C_readClause_139 : decode b_C_readClause 139 = .ok (.iload_n 1, 1) := by decide +kernel
theorem d_C_readClause_140 : decode b_C_readClause 140 = .ok (.iaload, 1) := by decide +kernel
theorem d_C_readClause_141 : decode b_C_readClause 141 = .ok (.ifCond .lt 7, 3) := by decide +kernel
theorem d_C_readClause_144 : decode b_C_readClause 144 = .ok (.iconst 1, 1) := by decide +kernel
theorem d_C_readClause_145 : decode b_C_readClause 145 = .ok (.goto 4, 3) := by decide +kernel
theorem d_C_readClause_148 : decode b_C_readClause 148 = .ok (.iconst 0, 1) := by decide +kernel
theorem d_C_readClause_149 : decode b_C_readClause 149 = .ok (.ireturn, 1) := by decide +kernel
abbrev b_C_parse : ByteArray := prog_2_method_3_code
abbrev y_C_parse : MethodName := ⟨"WhoRules$Charters", "parse", "()I"⟩
theorem d_C_parse_0 : decode b_C_parse 0 = .ok (.aload_n 0, 1) := by decide +kernel
theorem d_C_parse_1 : decode b_C_parse 1 = .ok (.iconst 0, 1) := by decide +kernel
theorem d_C_parse_2 : decode b_C_parse 2 = .ok (.putfield 41, 3) := by decide +kernel
theorem d_C_parse_5 : decode b_C_parse 5 = .ok (.aload_n 0, 1) := by decide +kernel
theorem d_C_parse_6 : decode b_C_parse 6 = .ok (.aload_n 0, 1) := by decide +kernel
theorem d_C_parse_7 : decode b_C_parse 7 = .ok (.getfield 44, 3) := by decide +kernel
theorem d_C_parse_10 : decode b_C_parse 10 = .ok (.bipush 100, 2) := by decide +kernel
theorem d_C_parse_12 : decode b_C_parse 12 = .ok (.imul, 1) := by decide +kernel
theorem d_C_parse_13 : decode b_C_parse 13 = .ok (.putfield 47, 3) := by decide +kernel
theorem d_C_parse_16 : decode b_C_parse 16 = .ok (.iconst 1, 1) := by decide +kernel
theorem d_C_parse_17 : decode b_C_parse 17 = .ok (.istore_n 1, 1) := by decide +kernel
theorem d_C_parse_18 : decode b_C_parse 18 = .ok (.iconst 0, 1) := by decide +kernel
theorem d_C_parse_19 : decode b_C_parse 19 = .ok (.istore_n 2, 1) := by decide +kernel
theorem d_C_parse_20 : decode b_C_parse 20 = .ok (.iload_n 2, 1) := by decide +kernel
theorem d_C_parse_21 : decode b_C_parse 21 = .ok (.bipush 6, 2) := by decide +kernel
theorem d_C_parse_23 : decode b_C_parse 23 = .ok (.if_icmp .ge 85, 3) := by decide +kernel
theorem d_C_parse_26 : decode b_C_parse 26 = .ok (.iload_n 1, 1) := by decide +kernel
theorem d_C_parse_27 : decode b_C_parse 27 = .ok (.ifCond .eq 81, 3) := by decide +kernel
theorem d_C_parse_30 : decode b_C_parse 30 = .ok (.aload_n 0, 1) := by decide +kernel
theorem d_C_parse_31 : decode b_C_parse 31 = .ok (.aload_n 0, 1) := by decide +kernel
theorem d_C_parse_32 : decode b_C_parse 32 = .ok (.getfield 44, 3) := by decide +kernel
theorem d_C_parse_35 : decode b_C_parse 35 = .ok (.bipush 6, 2) := by decide +kernel
theorem d_C_parse_37 : decode b_C_parse 37 = .ok (.imul, 1) := by decide +kernel
theorem d_C_parse_38 : decode b_C_parse 38 = .ok (.iload_n 2, 1) := by decide +kernel
theorem d_C_parse_39 : decode b_C_parse 39 = .ok (.iadd, 1) := by decide +kernel
theorem d_C_parse_40 : decode b_C_parse 40 = .ok (.invokevirtual 50, 3) := by decide +kernel
theorem d_C_parse_43 : decode b_C_parse 43 = .ok (.istore_n 1, 1) := by decide +kernel
theorem d_C_parse_44 : decode b_C_parse 44 = .ok (.iload_n 1, 1) := by decide +kernel
theorem d_C_parse_45 : decode b_C_parse 45 = .ok (.ifCond .eq 33, 3) := by decide +kernel
theorem d_C_parse_48 : decode b_C_parse 48 = .ok (.aload_n 0, 1) := by decide +kernel
theorem d_C_parse_49 : decode b_C_parse 49 = .ok (.getfield 41, 3) := by decide +kernel
theorem d_C_parse_52 : decode b_C_parse 52 = .ok (.aload_n 0, 1) := by decide +kernel
theorem d_C_parse_53 : decode b_C_parse 53 = .ok (.getfield 37, 3) := by decide +kernel
theorem d_C_parse_56 : decode b_C_parse 56 = .ok (.if_icmp .lt 22, 3) := by decide +kernel
theorem d_C_parse_59 : decode b_C_parse 59 = .ok (.aload_n 0, 1) := by decide +kernel
theorem d_C_parse_60 : decode b_C_parse 60 = .ok (.getfield 22, 3) := by decide +kernel
theorem d_C_parse_63 : decode b_C_parse 63 = .ok (.aload_n 0, 1) := by decide +kernel
theorem d_C_parse_64 : decode b_C_parse 64 = .ok (.getfield 44, 3) := by decide +kernel
theorem d_C_parse_67 : decode b_C_parse 67 = .ok (.iload_n 2, 1) := by decide +kernel
theorem d_C_parse_68 : decode b_C_parse 68 = .ok (.iconst 1, 1) := by decide +kernel
theorem d_C_parse_69 : decode b_C_parse 69 = .ok (.iadd, 1) := by decide +kernel
theorem d_C_parse_70 : decode b_C_parse 70 = .ok (.iastore, 1) := by decide +kernel
theorem d_C_parse_71 : decode b_C_parse 71 = .ok (.aload_n 0, 1) := by decide +kernel
theorem d_C_parse_72 : decode b_C_parse 72 = .ok (.iconst 0, 1) := by decide +kernel
theorem d_C_parse_73 : decode b_C_parse 73 = .ok (.putfield 37, 3) := by decide +kernel
theorem d_C_parse_76 : decode b_C_parse 76 = .ok (.iconst (-1), 1) := by decide +kernel
theorem d_C_parse_77 : decode b_C_parse 77 = .ok (.ireturn, 1) := by decide +kernel
theorem d_C_parse_78 : decode b_C_parse 78 = .ok (.iload_n 1, 1) := by decide +kernel
theorem d_C_parse_79 : decode b_C_parse 79 = .ok (.ifCond .eq 21, 3) := by decide +kernel
theorem d_C_parse_82 : decode b_C_parse 82 = .ok (.iload_n 2, 1) := by decide +kernel
theorem d_C_parse_83 : decode b_C_parse 83 = .ok (.iconst 5, 1) := by decide +kernel
theorem d_C_parse_84 : decode b_C_parse 84 = .ok (.if_icmp .ge 16, 3) := by decide +kernel
theorem d_C_parse_87 : decode b_C_parse 87 = .ok (.aload_n 0, 1) := by decide +kernel
theorem d_C_parse_88 : decode b_C_parse 88 = .ok (.bipush 59, 2) := by decide +kernel
theorem d_C_parse_90 : decode b_C_parse 90 = .ok (.invokevirtual 54, 3) := by decide +kernel
theorem d_C_parse_93 : decode b_C_parse 93 = .ok (.ifCond .eq 7, 3) := by decide +kernel
theorem d_C_parse_96 : decode b_C_parse 96 = .ok (.iconst 1, 1) := by decide +kernel
theorem d_C_parse_97 : decode b_C_parse 97 = .ok (.goto 4, 3) := by decide +kernel
theorem d_C_parse_100 : decode b_C_parse 100 = .ok (.iconst 0, 1) := by decide +kernel
theorem d_C_parse_101 : decode b_C_parse 101 = .ok (.istore_n 1, 1) := by decide +kernel
theorem d_C_parse_102 : decode b_C_parse 102 = .ok (.iinc 2 1, 3) := by decide +kernel
theorem d_C_parse_105 : decode b_C_parse 105 = .ok (.goto (-85), 3) := by decide +kernel
theorem d_C_parse_108 : decode b_C_parse 108 = .ok (.aload_n 0, 1) := by decide +kernel
theorem d_C_parse_109 : decode b_C_parse 109 = .ok (.iconst 0, 1) := by decide +kernel
theorem d_C_parse_110 : decode b_C_parse 110 = .ok (.putfield 37, 3) := by decide +kernel
theorem d_C_parse_113 : decode b_C_parse 113 = .ok (.aload_n 0, 1) := by decide +kernel
theorem d_C_parse_114 : decode b_C_parse 114 = .ok (.getfield 41, 3) := by decide +kernel
theorem d_C_parse_117 : decode b_C_parse 117 = .ok (.ireturn, 1) := by decide +kernel
abbrev b_C_enact : ByteArray := prog_2_method_4_code
abbrev y_C_enact : MethodName := ⟨"WhoRules$Charters", "enact", "(II)I"⟩
theorem d_C_enact_0 : decode b_C_enact 0 = .ok (.aload_n 0, 1) := by decide +kernel
theorem d_C_enact_1 : decode b_C_enact 1 = .ok (.getfield 15, 3) := by decide +kernel
theorem d_C_enact_4 : decode b_C_enact 4 = .ok (.aload_n 0, 1) := by decide +kernel
theorem d_C_enact_5 : decode b_C_enact 5 = .ok (.getfield 44, 3) := by decide +kernel
theorem d_C_enact_8 : decode b_C_enact 8 = .ok (.iload_n 1, 1) := by decide +kernel
theorem d_C_enact_9 : decode b_C_enact 9 = .ok (.iastore, 1) := by decide +kernel
theorem d_C_enact_10 : decode b_C_enact 10 = .ok (.aload_n 0, 1) := by decide +kernel
theorem d_C_enact_11 : decode b_C_enact 11 = .ok (.getfield 19, 3) := by decide +kernel
theorem d_C_enact_14 : decode b_C_enact 14 = .ok (.aload_n 0, 1) := by decide +kernel
theorem d_C_enact_15 : decode b_C_enact 15 = .ok (.getfield 44, 3) := by decide +kernel
theorem d_C_enact_18 : decode b_C_enact 18 = .ok (.iload_n 2, 1) := by decide +kernel
theorem d_C_enact_19 : decode b_C_enact 19 = .ok (.iastore, 1) := by decide +kernel
theorem d_C_enact_20 : decode b_C_enact 20 = .ok (.aload_n 0, 1) := by decide +kernel
theorem d_C_enact_21 : decode b_C_enact 21 = .ok (.dup, 1) := by decide +kernel
theorem d_C_enact_22 : decode b_C_enact 22 = .ok (.getfield 44, 3) := by decide +kernel
theorem d_C_enact_25 : decode b_C_enact 25 = .ok (.iconst 1, 1) := by decide +kernel
theorem d_C_enact_26 : decode b_C_enact 26 = .ok (.iadd, 1) := by decide +kernel
theorem d_C_enact_27 : decode b_C_enact 27 = .ok (.putfield 44, 3) := by decide +kernel
theorem d_C_enact_30 : decode b_C_enact 30 = .ok (.aload_n 0, 1) := by decide +kernel
theorem d_C_enact_31 : decode b_C_enact 31 = .ok (.getfield 44, 3) := by decide +kernel
theorem d_C_enact_34 : decode b_C_enact 34 = .ok (.iconst 1, 1) := by decide +kernel
theorem d_C_enact_35 : decode b_C_enact 35 = .ok (.isub, 1) := by decide +kernel
theorem d_C_enact_36 : decode b_C_enact 36 = .ok (.ireturn, 1) := by decide +kernel
abbrev b_W_charter : ByteArray := prog_1_method_10_code
abbrev y_W_charter : MethodName := ⟨"WhoRules", "charter", "(II)I"⟩
theorem d_W_charter_0 : decode b_W_charter 0 = .ok (.aload_n 0, 1) := by decide +kernel
theorem d_W_charter_1 : decode b_W_charter 1 = .ok (.getfield 18, 3) := by decide +kernel
theorem d_W_charter_4 : decode b_W_charter 4 = .ok (.iload_n 1, 1) := by decide +kernel
theorem d_W_charter_5 : decode b_W_charter 5 = .ok (.invokevirtual 87, 3) := by decide +kernel
theorem d_W_charter_8 : decode b_W_charter 8 = .ok (.ifCond .ne 5, 3) := by decide +kernel
theorem d_W_charter_11 : decode b_W_charter 11 = .ok (.iconst (-1), 1) := by decide +kernel
theorem d_W_charter_12 : decode b_W_charter 12 = .ok (.ireturn, 1) := by decide +kernel
theorem d_W_charter_13 : decode b_W_charter 13 = .ok (.iload_n 2, 1) := by decide +kernel
theorem d_W_charter_14 : decode b_W_charter 14 = .ok (.invokestatic 132, 3) := by decide +kernel
theorem d_W_charter_17 : decode b_W_charter 17 = .ok (.ifCond .ne 6, 3) := by decide +kernel
theorem d_W_charter_20 : decode b_W_charter 20 = .ok (.bipush (-2), 2) := by decide +kernel
theorem d_W_charter_22 : decode b_W_charter 22 = .ok (.ireturn, 1) := by decide +kernel
theorem d_W_charter_23 : decode b_W_charter 23 = .ok (.aload_n 0, 1) := by decide +kernel
theorem d_W_charter_24 : decode b_W_charter 24 = .ok (.getfield 25, 3) := by decide +kernel
theorem d_W_charter_27 : decode b_W_charter 27 = .ok (.getfield 145, 3) := by decide +kernel
theorem d_W_charter_30 : decode b_W_charter 30 = .ok (.bipush 20, 2) := by decide +kernel
theorem d_W_charter_32 : decode b_W_charter 32 = .ok (.if_icmp .lt 6, 3) := by decide +kernel
theorem d_W_charter_35 : decode b_W_charter 35 = .ok (.bipush (-4), 2) := by decide +kernel
theorem d_W_charter_37 : decode b_W_charter 37 = .ok (.ireturn, 1) := by decide +kernel
theorem d_W_charter_38 : decode b_W_charter 38 = .ok (.aload_n 0, 1) := by decide +kernel
theorem d_W_charter_39 : decode b_W_charter 39 = .ok (.getfield 25, 3) := by decide +kernel
theorem d_W_charter_42 : decode b_W_charter 42 = .ok (.invokevirtual 148, 3) := by decide +kernel
theorem d_W_charter_45 : decode b_W_charter 45 = .ok (.istore_n 3, 1) := by decide +kernel
theorem d_W_charter_46 : decode b_W_charter 46 = .ok (.iload_n 3, 1) := by decide +kernel
theorem d_W_charter_47 : decode b_W_charter 47 = .ok (.ifCond .lt 10, 3) := by decide +kernel
theorem d_W_charter_50 : decode b_W_charter 50 = .ok (.bipush (-10), 2) := by decide +kernel
theorem d_W_charter_52 : decode b_W_charter 52 = .ok (.iload_n 3, 1) := by decide +kernel
theorem d_W_charter_53 : decode b_W_charter 53 = .ok (.isub, 1) := by decide +kernel
theorem d_W_charter_54 : decode b_W_charter 54 = .ok (.goto 12, 3) := by decide +kernel
theorem d_W_charter_57 : decode b_W_charter 57 = .ok (.aload_n 0, 1) := by decide +kernel
theorem d_W_charter_58 : decode b_W_charter 58 = .ok (.getfield 25, 3) := by decide +kernel
theorem d_W_charter_61 : decode b_W_charter 61 = .ok (.iload_n 1, 1) := by decide +kernel
theorem d_W_charter_62 : decode b_W_charter 62 = .ok (.iload_n 2, 1) := by decide +kernel
theorem d_W_charter_63 : decode b_W_charter 63 = .ok (.invokevirtual 151, 3) := by decide +kernel
theorem d_W_charter_66 : decode b_W_charter 66 = .ok (.ireturn, 1) := by decide +kernel
abbrev b_W_isWord : ByteArray := prog_1_method_40_code
abbrev y_W_isWord : MethodName := ⟨"WhoRules", "isWord", "(I)Z"⟩
theorem d_W_isWord_0 : decode b_W_isWord 0 = .ok (.iload_n 0, 1) := by decide +kernel
theorem d_W_isWord_1 : decode b_W_isWord 1 = .ok (.ifCond .lt 12, 3) := by decide +kernel
theorem d_W_isWord_4 : decode b_W_isWord 4 = .ok (.iload_n 0, 1) := by decide +kernel
theorem d_W_isWord_5 : decode b_W_isWord 5 = .ok (.iconst 5, 1) := by decide +kernel
theorem d_W_isWord_6 : decode b_W_isWord 6 = .ok (.if_icmp .ge 7, 3) := by decide +kernel
theorem d_W_isWord_9 : decode b_W_isWord 9 = .ok (.iconst 1, 1) := by decide +kernel
theorem d_W_isWord_10 : decode b_W_isWord 10 = .ok (.goto 4, 3) := by decide +kernel
theorem d_W_isWord_13 : decode b_W_isWord 13 = .ok (.iconst 0, 1) := by decide +kernel
theorem d_W_isWord_14 : decode b_W_isWord 14 = .ok (.ireturn, 1) := by decide +kernel
abbrev b_C_lastOf : ByteArray := prog_2_method_19_code
abbrev y_C_lastOf : MethodName := ⟨"WhoRules$Charters", "lastOf", "(II)I"⟩
theorem d_C_lastOf_0 : decode b_C_lastOf 0 = .ok (.aload_n 0, 1) := by decide +kernel
theorem d_C_lastOf_1 : decode b_C_lastOf 1 = .ok (.getfield 22, 3) := by decide +kernel
theorem d_C_lastOf_4 : decode b_C_lastOf 4 = .ok (.iload_n 1, 1) := by decide +kernel
theorem d_C_lastOf_5 : decode b_C_lastOf 5 = .ok (.iaload, 1) := by decide +kernel
theorem d_C_lastOf_6 : decode b_C_lastOf 6 = .ok (.iconst 1, 1) := by decide +kernel
theorem d_C_lastOf_7 : decode b_C_lastOf 7 = .ok (.isub, 1) := by decide +kernel
theorem d_C_lastOf_8 : decode b_C_lastOf 8 = .ok (.istore_n 3, 1) := by decide +kernel
theorem d_C_lastOf_9 : decode b_C_lastOf 9 = .ok (.iload_n 3, 1) := by decide +kernel
theorem d_C_lastOf_10 : decode b_C_lastOf 10 = .ok (.ifCond .lt 31, 3) := by decide +kernel
theorem d_C_lastOf_13 : decode b_C_lastOf 13 = .ok (.aload_n 0, 1) := by decide +kernel
theorem d_C_lastOf_14 : decode b_C_lastOf 14 = .ok (.getfield 25, 3) := by decide +kernel
theorem d_C_lastOf_17 : decode b_C_lastOf 17 = .ok (.iload_n 1, 1) := by decide +kernel
theorem d_C_lastOf_18 : decode b_C_lastOf 18 = .ok (.bipush 6, 2) := by decide +kernel
theorem d_C_lastOf_20 : decode b_C_lastOf 20 = .ok (.imul, 1) := by decide +kernel
theorem d_C_lastOf_21 : decode b_C_lastOf 21 = .ok (.iload_n 3, 1) := by decide +kernel
theorem d_C_lastOf_22 : decode b_C_lastOf 22 = .ok (.iadd, 1) := by decide +kernel
theorem d_C_lastOf_23 : decode b_C_lastOf 23 = .ok (.iaload, 1) := by decide +kernel
theorem d_C_lastOf_24 : decode b_C_lastOf 24 = .ok (.iload_n 2, 1) := by decide +kernel
theorem d_C_lastOf_25 : decode b_C_lastOf 25 = .ok (.if_icmp .ne 10, 3) := by decide +kernel
theorem d_C_lastOf_28 : decode b_C_lastOf 28 = .ok (.iload_n 1, 1) := by decide +kernel
theorem d_C_lastOf_29 : decode b_C_lastOf 29 = .ok (.bipush 6, 2) := by decide +kernel
theorem d_C_lastOf_31 : decode b_C_lastOf 31 = .ok (.imul, 1) := by decide +kernel
theorem d_C_lastOf_32 : decode b_C_lastOf 32 = .ok (.iload_n 3, 1) := by decide +kernel
theorem d_C_lastOf_33 : decode b_C_lastOf 33 = .ok (.iadd, 1) := by decide +kernel
theorem d_C_lastOf_34 : decode b_C_lastOf 34 = .ok (.ireturn, 1) := by decide +kernel
theorem d_C_lastOf_35 : decode b_C_lastOf 35 = .ok (.iinc 3 (-1), 3) := by decide +kernel
theorem d_C_lastOf_38 : decode b_C_lastOf 38 = .ok (.goto (-29), 3) := by decide +kernel
theorem d_C_lastOf_41 : decode b_C_lastOf 41 = .ok (.iconst (-1), 1) := by decide +kernel
theorem d_C_lastOf_42 : decode b_C_lastOf 42 = .ok (.ireturn, 1) := by decide +kernel
abbrev b_C_inForce : ByteArray := prog_2_method_18_code
abbrev y_C_inForce : MethodName := ⟨"WhoRules$Charters", "inForce", "(III)I"⟩
theorem d_C_inForce_0 : decode b_C_inForce 0 = .ok (.iconst (-1), 1) := by decide +kernel
theorem d_C_inForce_1 : decode b_C_inForce 1 = .ok (.istore 4, 2) := by decide +kernel
theorem d_C_inForce_3 : decode b_C_inForce 3 = .ok (.iconst (-1), 1) := by decide +kernel
theorem d_C_inForce_4 : decode b_C_inForce 4 = .ok (.istore 5, 2) := by decide +kernel
theorem d_C_inForce_6 : decode b_C_inForce 6 = .ok (.iconst 0, 1) := by decide +kernel
theorem d_C_inForce_7 : decode b_C_inForce 7 = .ok (.istore 6, 2) := by decide +kernel
theorem d_C_inForce_9 : decode b_C_inForce 9 = .ok (.iload 6, 2) := by decide +kernel
theorem d_C_inForce_11 : decode b_C_inForce 11 = .ok (.aload_n 0, 1) := by decide +kernel
theorem d_C_inForce_12 : decode b_C_inForce 12 = .ok (.getfield 44, 3) := by decide +kernel
theorem d_C_inForce_15 : decode b_C_inForce 15 = .ok (.if_icmp .ge 70, 3) := by decide +kernel
theorem d_C_inForce_18 : decode b_C_inForce 18 = .ok (.aload_n 0, 1) := by decide +kernel
theorem d_C_inForce_19 : decode b_C_inForce 19 = .ok (.getfield 15, 3) := by decide +kernel
theorem d_C_inForce_22 : decode b_C_inForce 22 = .ok (.iload 6, 2) := by decide +kernel
theorem d_C_inForce_24 : decode b_C_inForce 24 = .ok (.iaload, 1) := by decide +kernel
theorem d_C_inForce_25 : decode b_C_inForce 25 = .ok (.iload_n 1, 1) := by decide +kernel
theorem d_C_inForce_26 : decode b_C_inForce 26 = .ok (.if_icmp .ne 53, 3) := by decide +kernel
theorem d_C_inForce_29 : decode b_C_inForce 29 = .ok (.aload_n 0, 1) := by decide +kernel
theorem d_C_inForce_30 : decode b_C_inForce 30 = .ok (.getfield 19, 3) := by decide +kernel
theorem d_C_inForce_33 : decode b_C_inForce 33 = .ok (.iload 6, 2) := by decide +kernel
theorem d_C_inForce_35 : decode b_C_inForce 35 = .ok (.iaload, 1) := by decide +kernel
theorem d_C_inForce_36 : decode b_C_inForce 36 = .ok (.iload_n 3, 1) := by decide +kernel
theorem d_C_inForce_37 : decode b_C_inForce 37 = .ok (.if_icmp .gt 42, 3) := by decide +kernel
theorem d_C_inForce_40 : decode b_C_inForce 40 = .ok (.aload_n 0, 1) := by decide +kernel
theorem d_C_inForce_41 : decode b_C_inForce 41 = .ok (.getfield 19, 3) := by decide +kernel
theorem d_C_inForce_44 : decode b_C_inForce 44 = .ok (.iload 6, 2) := by decide +kernel
theorem d_C_inForce_46 : decode b_C_inForce 46 = .ok (.iaload, 1) := by decide +kernel
theorem d_C_inForce_47 : decode b_C_inForce 47 = .ok (.iload 5, 2) := by decide +kernel
theorem d_C_inForce_49 : decode b_C_inForce 49 = .ok (.if_icmp .lt 30, 3) := by decide +kernel
theorem d_C_inForce_52 : decode b_C_inForce 52 = .ok (.aload_n 0, 1) := by decide +kernel
theorem d_C_inForce_53 : decode b_C_inForce 53 = .ok (.iload 6, 2) := by decide +kernel
theorem d_C_inForce_55 : decode b_C_inForce 55 = .ok (.iload_n 2, 1) := by decide +kernel
theorem d_C_inForce_56 : decode b_C_inForce 56 = .ok (.invokevirtual 119, 3) := by decide +kernel
theorem d_C_inForce_59 : decode b_C_inForce 59 = .ok (.istore 7, 2) := by decide +kernel
theorem d_C_inForce_61 : decode b_C_inForce 61 = .ok (.iload 7, 2) := by decide +kernel
theorem d_C_inForce_63 : decode b_C_inForce 63 = .ok (.ifCond .lt 16, 3) := by decide +kernel
theorem d_C_inForce_66 : decode b_C_inForce 66 = .ok (.iload 7, 2) := by decide +kernel
theorem d_C_inForce_68 : decode b_C_inForce 68 = .ok (.istore 4, 2) := by decide +kernel
theorem d_C_inForce_70 : decode b_C_inForce 70 = .ok (.aload_n 0, 1) := by decide +kernel
theorem d_C_inForce_71 : decode b_C_inForce 71 = .ok (.getfield 19, 3) := by decide +kernel
theorem d_C_inForce_74 : decode b_C_inForce 74 = .ok (.iload 6, 2) := by decide +kernel
theorem d_C_inForce_76 : decode b_C_inForce 76 = .ok (.iaload, 1) := by decide +kernel
theorem d_C_inForce_77 : decode b_C_inForce 77 = .ok (.istore 5, 2) := by decide +kernel
theorem d_C_inForce_79 : decode b_C_inForce 79 = .ok (.iinc 6 1, 3) := by decide +kernel
theorem d_C_inForce_82 : decode b_C_inForce 82 = .ok (.goto (-73), 3) := by decide +kernel
theorem d_C_inForce_85 : decode b_C_inForce 85 = .ok (.iload 4, 2) := by decide +kernel
theorem d_C_inForce_87 : decode b_C_inForce 87 = .ok (.ireturn, 1) := by decide +kernel
abbrev b_C_firstOf : ByteArray := prog_2_method_20_code
abbrev y_C_firstOf : MethodName := ⟨"WhoRules$Charters", "firstOf", "(II)I"⟩
theorem d_C_firstOf_0 : decode b_C_firstOf 0 = .ok (.iload_n 1, 1) := by decide +kernel
theorem d_C_firstOf_1 : decode b_C_firstOf 1 = .ok (.ifCond .lt 10, 3) := by decide +kernel
theorem d_C_firstOf_4 : decode b_C_firstOf 4 = .ok (.aload_n 0, 1) := by decide +kernel
theorem d_C_firstOf_5 : decode b_C_firstOf 5 = .ok (.getfield 28, 3) := by decide +kernel
theorem d_C_firstOf_8 : decode b_C_firstOf 8 = .ok (.iload_n 1, 1) := by decide +kernel
theorem d_C_firstOf_9 : decode b_C_firstOf 9 = .ok (.iaload, 1) := by decide +kernel
theorem d_C_firstOf_10 : decode b_C_firstOf 10 = .ok (.ireturn, 1) := by decide +kernel
theorem d_C_firstOf_11 : decode b_C_firstOf 11 = .ok (.iload_n 2, 1) := by decide +kernel
theorem d_C_firstOf_12 : decode b_C_firstOf 12 = .ok (.lookupswitch 33 #[(0, 28), (3, 30)], 28) := by decide +kernel
theorem d_C_firstOf_40 : decode b_C_firstOf 40 = .ok (.iconst 1, 1) := by decide +kernel
theorem d_C_firstOf_41 : decode b_C_firstOf 41 = .ok (.ireturn, 1) := by decide +kernel
theorem d_C_firstOf_42 : decode b_C_firstOf 42 = .ok (.bipush (-5), 2) := by decide +kernel
theorem d_C_firstOf_44 : decode b_C_firstOf 44 = .ok (.ireturn, 1) := by decide +kernel
theorem d_C_firstOf_45 : decode b_C_firstOf 45 = .ok (.sipush 999, 3) := by decide +kernel
theorem d_C_firstOf_48 : decode b_C_firstOf 48 = .ok (.ireturn, 1) := by decide +kernel
abbrev b_R_isVoteless : ByteArray := prog_10_method_6_code
abbrev y_R_isVoteless : MethodName := ⟨"WhoRules$Register", "isVoteless", "(I)Z"⟩
theorem d_R_isVoteless_0 : decode b_R_isVoteless 0 = .ok (.aload_n 0, 1) := by decide +kernel
theorem d_R_isVoteless_1 : decode b_R_isVoteless 1 = .ok (.iload_n 1, 1) := by decide +kernel
theorem d_R_isVoteless_2 : decode b_R_isVoteless 2 = .ok (.invokevirtual 61, 3) := by decide +kernel
theorem d_R_isVoteless_5 : decode b_R_isVoteless 5 = .ok (.ifCond .eq 27, 3) := by decide +kernel
theorem d_R_isVoteless_8 : decode b_R_isVoteless 8 = .ok (.aload_n 0, 1) := by decide +kernel
theorem d_R_isVoteless_9 : decode b_R_isVoteless 9 = .ok (.getfield 17, 3) := by decide +kernel
theorem d_R_isVoteless_12 : decode b_R_isVoteless 12 = .ok (.iload_n 1, 1) := by decide +kernel
theorem d_R_isVoteless_13 : decode b_R_isVoteless 13 = .ok (.iaload, 1) := by decide +kernel
theorem d_R_isVoteless_14 : decode b_R_isVoteless 14 = .ok (.iconst 4, 1) := by decide +kernel
theorem d_R_isVoteless_15 : decode b_R_isVoteless 15 = .ok (.if_icmp .eq 13, 3) := by decide +kernel
theorem d_R_isVoteless_18 : decode b_R_isVoteless 18 = .ok (.aload_n 0, 1) := by decide +kernel
theorem d_R_isVoteless_19 : decode b_R_isVoteless 19 = .ok (.getfield 17, 3) := by decide +kernel
theorem d_R_isVoteless_22 : decode b_R_isVoteless 22 = .ok (.iload_n 1, 1) := by decide +kernel
theorem d_R_isVoteless_23 : decode b_R_isVoteless 23 = .ok (.iaload, 1) := by decide +kernel
theorem d_R_isVoteless_24 : decode b_R_isVoteless 24 = .ok (.iconst 5, 1) := by decide +kernel
theorem d_R_isVoteless_25 : decode b_R_isVoteless 25 = .ok (.if_icmp .ne 7, 3) := by decide +kernel
theorem d_R_isVoteless_28 : decode b_R_isVoteless 28 = .ok (.iconst 1, 1) := by decide +kernel
theorem d_R_isVoteless_29 : decode b_R_isVoteless 29 = .ok (.goto 4, 3) := by decide +kernel
theorem d_R_isVoteless_32 : decode b_R_isVoteless 32 = .ok (.iconst 0, 1) := by decide +kernel
theorem d_R_isVoteless_33 : decode b_R_isVoteless 33 = .ok (.ireturn, 1) := by decide +kernel
abbrev b_C_holds : ByteArray := prog_2_method_23_code
abbrev y_C_holds : MethodName := ⟨"WhoRules$Charters", "holds", "(I[I)Z"⟩
theorem d_C_holds_0 : decode b_C_holds 0 = .ok (.iconst 0, 1) := by decide +kernel
theorem d_C_holds_1 : decode b_C_holds 1 = .ok (.istore_n 3, 1) := by decide +kernel
theorem d_C_holds_2 : decode b_C_holds 2 = .ok (.aload_n 0, 1) := by decide +kernel
theorem d_C_holds_3 : decode b_C_holds 3 = .ok (.getfield 28, 3) := by decide +kernel
theorem d_C_holds_6 : decode b_C_holds 6 = .ok (.iload_n 1, 1) := by decide +kernel
theorem d_C_holds_7 : decode b_C_holds 7 = .ok (.iaload, 1) := by decide +kernel
theorem d_C_holds_8 : decode b_C_holds 8 = .ok (.istore 4, 2) := by decide +kernel
theorem d_C_holds_10 : decode b_C_holds 10 = .ok (.iload 4, 2) := by decide +kernel
theorem d_C_holds_12 : decode b_C_holds 12 = .ok (.aload_n 0, 1) := by decide +kernel
theorem d_C_holds_13 : decode b_C_holds 13 = .ok (.getfield 31, 3) := by decide +kernel
theorem d_C_holds_16 : decode b_C_holds 16 = .ok (.iload_n 1, 1) := by decide +kernel
theorem d_C_holds_17 : decode b_C_holds 17 = .ok (.iaload, 1) := by decide +kernel
theorem d_C_holds_18 : decode b_C_holds 18 = .ok (.if_icmp .ge 171, 3) := by decide +kernel
theorem d_C_holds_21 : decode b_C_holds 21 = .ok (.aload_n 0, 1) := by decide +kernel
theorem d_C_holds_22 : decode b_C_holds 22 = .ok (.getfield 34, 3) := by decide +kernel
theorem d_C_holds_25 : decode b_C_holds 25 = .ok (.iload 4, 2) := by decide +kernel
theorem d_C_holds_27 : decode b_C_holds 27 = .ok (.iaload, 1) := by decide +kernel
theorem d_C_holds_28 : decode b_C_holds 28 = .ok (.istore 5, 2) := by decide +kernel
theorem d_C_holds_30 : decode b_C_holds 30 = .ok (.iload 5, 2) := by decide +kernel
theorem d_C_holds_32 : decode b_C_holds 32 = .ok (.ifCond .lt 106, 3) := by decide +kernel
theorem d_C_holds_35 : decode b_C_holds 35 = .ok (.aload_n 2, 1) := by decide +kernel
theorem d_C_holds_36 : decode b_C_holds 36 = .ok (.iload 5, 2) := by decide +kernel
theorem d_C_holds_38 : decode b_C_holds 38 = .ok (.sipush 3000, 3) := by decide +kernel
theorem d_C_holds_41 : decode b_C_holds 41 = .ok (.idiv, 1) := by decide +kernel
theorem d_C_holds_42 : decode b_C_holds 42 = .ok (.iaload, 1) := by decide +kernel
theorem d_C_holds_43 : decode b_C_holds 43 = .ok (.istore 6, 2) := by decide +kernel
theorem d_C_holds_45 : decode b_C_holds 45 = .ok (.iload 5, 2) := by decide +kernel
theorem d_C_holds_47 : decode b_C_holds 47 = .ok (.sipush 1000, 3) := by decide +kernel
theorem d_C_holds_50 : decode b_C_holds 50 = .ok (.irem, 1) := by decide +kernel
theorem d_C_holds_51 : decode b_C_holds 51 = .ok (.istore 7, 2) := by decide +kernel
theorem d_C_holds_53 : decode b_C_holds 53 = .ok (.iload 5, 2) := by decide +kernel
theorem d_C_holds_55 : decode b_C_holds 55 = .ok (.sipush 3000, 3) := by decide +kernel
theorem d_C_holds_58 : decode b_C_holds 58 = .ok (.irem, 1) := by decide +kernel
theorem d_C_holds_59 : decode b_C_holds 59 = .ok (.sipush 1000, 3) := by decide +kernel
theorem d_C_holds_62 : decode b_C_holds 62 = .ok (.idiv, 1) := by decide +kernel
theorem d_C_holds_63 : decode b_C_holds 63 = .ok (.istore 8, 2) := by decide +kernel
theorem d_C_holds_65 : decode b_C_holds 65 = .ok (.iload 8, 2) := by decide +kernel
theorem d_C_holds_67 : decode b_C_holds 67 = .ok (.ifCond .ne 18, 3) := by decide +kernel
theorem d_C_holds_70 : decode b_C_holds 70 = .ok (.iload 6, 2) := by decide +kernel
theorem d_C_holds_72 : decode b_C_holds 72 = .ok (.iload 7, 2) := by decide +kernel
theorem d_C_holds_74 : decode b_C_holds 74 = .ok (.if_icmp .ge 7, 3) := by decide +kernel
theorem d_C_holds_77 : decode b_C_holds 77 = .ok (.iconst 1, 1) := by decide +kernel
theorem d_C_holds_78 : decode b_C_holds 78 = .ok (.goto 40, 3) := by decide +kernel
theorem d_C_holds_81 : decode b_C_holds 81 = .ok (.iconst 0, 1) := by decide +kernel
theorem d_C_holds_82 : decode b_C_holds 82 = .ok (.goto 36, 3) := by decide +kernel
theorem d_C_holds_85 : decode b_C_holds 85 = .ok (.iload 8, 2) := by decide +kernel
theorem d_C_holds_87 : decode b_C_holds 87 = .ok (.iconst 1, 1) := by decide +kernel
theorem d_C_holds_88 : decode b_C_holds 88 = .ok (.if_icmp .ne 18, 3) := by decide +kernel
theorem d_C_holds_91 : decode b_C_holds 91 = .ok (.iload 6, 2) := by decide +kernel
theorem d_C_holds_93 : decode b_C_holds 93 = .ok (.iload 7, 2) := by decide +kernel
theorem d_C_holds_95 : decode b_C_holds 95 = .ok (.if_icmp .ne 7, 3) := by decide +kernel
theorem d_C_holds_98 : decode b_C_holds 98 = .ok (.iconst 1, 1) := by decide +kernel
theorem d_C_holds_99 : decode b_C_holds 99 = .ok (.goto 19, 3) := by decide +kernel
theorem d_C_holds_102 : decode b_C_holds 102 = .ok (.iconst 0, 1) := by decide +kernel
theorem d_C_holds_103 : decode b_C_holds 103 = .ok (.goto 15, 3) := by decide +kernel
theorem d_C_holds_106 : decode b_C_holds 106 = .ok (.iload 6, 2) := by decide +kernel
theorem d_C_holds_108 : decode b_C_holds 108 = .ok (.iload 7, 2) := by decide +kernel
theorem d_C_holds_110 : decode b_C_holds 110 = .ok (.if_icmp .le 7, 3) := by decide +kernel
theorem d_C_holds_113 : decode b_C_holds 113 = .ok (.iconst 1, 1) := by decide +kernel
theorem d_C_holds_114 : decode b_C_holds 114 = .ok (.goto 4, 3) := by decide +kernel
theorem d_C_holds_117 : decode b_C_holds 117 = .ok (.iconst 0, 1) := by decide +kernel
theorem d_C_holds_118 : decode b_C_holds 118 = .ok (.istore 9, 2) := by decide +kernel
theorem d_C_holds_120 : decode b_C_holds 120 = .ok (.iload_n 3, 1) := by decide +kernel
theorem d_C_holds_121 : decode b_C_holds 121 = .ok (.iconst 1, 1) := by decide +kernel
theorem d_C_holds_122 : decode b_C_holds 122 = .ok (.ishl, 1) := by decide +kernel
theorem d_C_holds_123 : decode b_C_holds 123 = .ok (.iload 9, 2) := by decide +kernel
theorem d_C_holds_125 : decode b_C_holds 125 = .ok (.ifCond .eq 7, 3) := by decide +kernel
theorem d_C_holds_128 : decode b_C_holds 128 = .ok (.iconst 1, 1) := by decide +kernel
theorem d_C_holds_129 : decode b_C_holds 129 = .ok (.goto 4, 3) := by decide +kernel
theorem d_C_holds_132 : decode b_C_holds 132 = .ok (.iconst 0, 1) := by decide +kernel
theorem d_C_holds_133 : decode b_C_holds 133 = .ok (.ior, 1) := by decide +kernel
theorem d_C_holds_134 : decode b_C_holds 134 = .ok (.istore_n 3, 1) := by decide +kernel
theorem d_C_holds_135 : decode b_C_holds 135 = .ok (.goto 48, 3) := by decide +kernel
theorem d_C_holds_138 : decode b_C_holds 138 = .ok (.iload 5, 2) := by decide +kernel
theorem d_C_holds_140 : decode b_C_holds 140 = .ok (.bipush (-3), 2) := by decide +kernel
theorem d_C_holds_142 : decode b_C_holds 142 = .ok (.if_icmp .ne 10, 3) := by decide +kernel
theorem d_C_holds_145 : decode b_C_holds 145 = .ok (.iload_n 3, 1) := by decide +kernel
theorem d_C_holds_146 : decode b_C_holds 146 = .ok (.iconst 1, 1) := by decide +kernel
theorem d_C_holds_147 : decode b_C_holds 147 = .ok (.ixor, 1) := by decide +kernel
theorem d_C_holds_148 : decode b_C_holds 148 = .ok (.istore_n 3, 1) := by decide +kernel
theorem d_C_holds_149 : decode b_C_holds 149 = .ok (.goto 34, 3) := by decide +kernel
theorem d_C_holds_152 : decode b_C_holds 152 = .ok (.iload_n 3, 1) := by decide +kernel
theorem d_C_holds_153 : decode b_C_holds 153 = .ok (.iconst 1, 1) := by decide +kernel
theorem d_C_holds_154 : decode b_C_holds 154 = .ok (.iand, 1) := by decide +kernel
theorem d_C_holds_155 : decode b_C_holds 155 = .ok (.istore 6, 2) := by decide +kernel
theorem d_C_holds_157 : decode b_C_holds 157 = .ok (.iload_n 3, 1) := by decide +kernel
theorem d_C_holds_158 : decode b_C_holds 158 = .ok (.iconst 1, 1) := by decide +kernel
theorem d_C_holds_159 : decode b_C_holds 159 = .ok (.ishr, 1) := by decide +kernel
theorem d_C_holds_160 : decode b_C_holds 160 = .ok (.istore_n 3, 1) := by decide +kernel
theorem d_C_holds_161 : decode b_C_holds 161 = .ok (.iload 5, 2) := by decide +kernel
theorem d_C_holds_163 : decode b_C_holds 163 = .ok (.bipush (-2), 2) := by decide +kernel
theorem d_C_holds_165 : decode b_C_holds 165 = .ok (.if_icmp .ne 10, 3) := by decide +kernel
theorem d_C_holds_168 : decode b_C_holds 168 = .ok (.iload_n 3, 1) := by decide +kernel
theorem d_C_holds_169 : decode b_C_holds 169 = .ok (.iload 6, 2) := by decide +kernel
theorem d_C_holds_171 : decode b_C_holds 171 = .ok (.ior, 1) := by decide +kernel
theorem d_C_holds_172 : decode b_C_holds 172 = .ok (.goto 10, 3) := by decide +kernel
theorem d_C_holds_175 : decode b_C_holds 175 = .ok (.iload_n 3, 1) := by decide +kernel
theorem d_C_holds_176 : decode b_C_holds 176 = .ok (.iload 6, 2) := by decide +kernel
theorem d_C_holds_178 : decode b_C_holds 178 = .ok (.bipush (-2), 2) := by decide +kernel
theorem d_C_holds_180 : decode b_C_holds 180 = .ok (.ior, 1) := by decide +kernel
theorem d_C_holds_181 : decode b_C_holds 181 = .ok (.iand, 1) := by decide +kernel
theorem d_C_holds_182 : decode b_C_holds 182 = .ok (.istore_n 3, 1) := by decide +kernel
theorem d_C_holds_183 : decode b_C_holds 183 = .ok (.iinc 4 1, 3) := by decide +kernel
theorem d_C_holds_186 : decode b_C_holds 186 = .ok (.goto (-176), 3) := by decide +kernel
theorem d_C_holds_189 : decode b_C_holds 189 = .ok (.iload_n 3, 1) := by decide +kernel
theorem d_C_holds_190 : decode b_C_holds 190 = .ok (.iconst 1, 1) := by decide +kernel
theorem d_C_holds_191 : decode b_C_holds 191 = .ok (.iand, 1) := by decide +kernel
theorem d_C_holds_192 : decode b_C_holds 192 = .ok (.iconst 1, 1) := by decide +kernel
theorem d_C_holds_193 : decode b_C_holds 193 = .ok (.if_icmp .ne 7, 3) := by decide +kernel
theorem d_C_holds_196 : decode b_C_holds 196 = .ok (.iconst 1, 1) := by decide +kernel
theorem d_C_holds_197 : decode b_C_holds 197 = .ok (.goto 4, 3) := by decide +kernel
theorem d_C_holds_200 : decode b_C_holds 200 = .ok (.iconst 0, 1) := by decide +kernel
theorem d_C_holds_201 : decode b_C_holds 201 = .ok (.ireturn, 1) := by decide +kernel
abbrev b_U_sleeps : ByteArray := prog_11_method_6_code
abbrev y_U_sleeps : MethodName := ⟨"WhoRules$Rule", "sleeps", "(IIII)Z"⟩
theorem d_U_sleeps_0 : decode b_U_sleeps 0 = .ok (.aload_n 0, 1) := by decide +kernel
theorem d_U_sleeps_1 : decode b_U_sleeps 1 = .ok (.getfield 11, 3) := by decide +kernel
theorem d_U_sleeps_4 : decode b_U_sleeps 4 = .ok (.iload_n 1, 1) := by decide +kernel
theorem d_U_sleeps_5 : decode b_U_sleeps 5 = .ok (.aaload, 1) := by decide +kernel
theorem d_U_sleeps_6 : decode b_U_sleeps 6 = .ok (.iconst 4, 1) := by decide +kernel
theorem d_U_sleeps_7 : decode b_U_sleeps 7 = .ok (.iaload, 1) := by decide +kernel
theorem d_U_sleeps_8 : decode b_U_sleeps 8 = .ok (.istore 5, 2) := by decide +kernel
theorem d_U_sleeps_10 : decode b_U_sleeps 10 = .ok (.iload 5, 2) := by decide +kernel
theorem d_U_sleeps_12 : decode b_U_sleeps 12 = .ok (.ifCond .ge 5, 3) := by decide +kernel
theorem d_U_sleeps_15 : decode b_U_sleeps 15 = .ok (.iconst 0, 1) := by decide +kernel
theorem d_U_sleeps_16 : decode b_U_sleeps 16 = .ok (.ireturn, 1) := by decide +kernel
theorem d_U_sleeps_17 : decode b_U_sleeps 17 = .ok (.aload_n 0, 1) := by decide +kernel
theorem d_U_sleeps_18 : decode b_U_sleeps 18 = .ok (.getfield 25, 3) := by decide +kernel
theorem d_U_sleeps_21 : decode b_U_sleeps 21 = .ok (.iconst 0, 1) := by decide +kernel
theorem d_U_sleeps_22 : decode b_U_sleeps 22 = .ok (.aload_n 0, 1) := by decide +kernel
theorem d_U_sleeps_23 : decode b_U_sleeps 23 = .ok (.getfield 46, 3) := by decide +kernel
theorem d_U_sleeps_26 : decode b_U_sleeps 26 = .ok (.getfield 110, 3) := by decide +kernel
theorem d_U_sleeps_29 : decode b_U_sleeps 29 = .ok (.iload_n 3, 1) := by decide +kernel
theorem d_U_sleeps_30 : decode b_U_sleeps 30 = .ok (.iaload, 1) := by decide +kernel
theorem d_U_sleeps_31 : decode b_U_sleeps 31 = .ok (.iastore, 1) := by decide +kernel
theorem d_U_sleeps_32 : decode b_U_sleeps 32 = .ok (.aload_n 0, 1) := by decide +kernel
theorem d_U_sleeps_33 : decode b_U_sleeps 33 = .ok (.getfield 25, 3) := by decide +kernel
theorem d_U_sleeps_36 : decode b_U_sleeps 36 = .ok (.iconst 1, 1) := by decide +kernel
theorem d_U_sleeps_37 : decode b_U_sleeps 37 = .ok (.iload_n 3, 1) := by decide +kernel
theorem d_U_sleeps_38 : decode b_U_sleeps 38 = .ok (.iastore, 1) := by decide +kernel
theorem d_U_sleeps_39 : decode b_U_sleeps 39 = .ok (.aload_n 0, 1) := by decide +kernel
theorem d_U_sleeps_40 : decode b_U_sleeps 40 = .ok (.getfield 25, 3) := by decide +kernel
theorem d_U_sleeps_43 : decode b_U_sleeps 43 = .ok (.iconst 2, 1) := by decide +kernel
theorem d_U_sleeps_44 : decode b_U_sleeps 44 = .ok (.iload 4, 2) := by decide +kernel
theorem d_U_sleeps_46 : decode b_U_sleeps 46 = .ok (.iastore, 1) := by decide +kernel
theorem d_U_sleeps_47 : decode b_U_sleeps 47 = .ok (.aload_n 0, 1) := by decide +kernel
theorem d_U_sleeps_48 : decode b_U_sleeps 48 = .ok (.getfield 25, 3) := by decide +kernel
theorem d_U_sleeps_51 : decode b_U_sleeps 51 = .ok (.iconst 3, 1) := by decide +kernel
theorem d_U_sleeps_52 : decode b_U_sleeps 52 = .ok (.aload_n 0, 1) := by decide +kernel
theorem d_U_sleeps_53 : decode b_U_sleeps 53 = .ok (.getfield 46, 3) := by decide +kernel
theorem d_U_sleeps_56 : decode b_U_sleeps 56 = .ok (.getfield 113, 3) := by decide +kernel
theorem d_U_sleeps_59 : decode b_U_sleeps 59 = .ok (.iload_n 2, 1) := by decide +kernel
theorem d_U_sleeps_60 : decode b_U_sleeps 60 = .ok (.iaload, 1) := by decide +kernel
theorem d_U_sleeps_61 : decode b_U_sleeps 61 = .ok (.iastore, 1) := by decide +kernel
theorem d_U_sleeps_62 : decode b_U_sleeps 62 = .ok (.aload_n 0, 1) := by decide +kernel
theorem d_U_sleeps_63 : decode b_U_sleeps 63 = .ok (.getfield 25, 3) := by decide +kernel
theorem d_U_sleeps_66 : decode b_U_sleeps 66 = .ok (.iconst 4, 1) := by decide +kernel
theorem d_U_sleeps_67 : decode b_U_sleeps 67 = .ok (.aload_n 0, 1) := by decide +kernel
theorem d_U_sleeps_68 : decode b_U_sleeps 68 = .ok (.getfield 46, 3) := by decide +kernel
theorem d_U_sleeps_71 : decode b_U_sleeps 71 = .ok (.getfield 105, 3) := by decide +kernel
theorem d_U_sleeps_74 : decode b_U_sleeps 74 = .ok (.iload_n 2, 1) := by decide +kernel
theorem d_U_sleeps_75 : decode b_U_sleeps 75 = .ok (.iaload, 1) := by decide +kernel
theorem d_U_sleeps_76 : decode b_U_sleeps 76 = .ok (.iastore, 1) := by decide +kernel
theorem d_U_sleeps_77 : decode b_U_sleeps 77 = .ok (.aload_n 0, 1) := by decide +kernel
theorem d_U_sleeps_78 : decode b_U_sleeps 78 = .ok (.getfield 50, 3) := by decide +kernel
theorem d_U_sleeps_81 : decode b_U_sleeps 81 = .ok (.iload 5, 2) := by decide +kernel
theorem d_U_sleeps_83 : decode b_U_sleeps 83 = .ok (.aload_n 0, 1) := by decide +kernel
theorem d_U_sleeps_84 : decode b_U_sleeps 84 = .ok (.getfield 25, 3) := by decide +kernel
theorem d_U_sleeps_87 : decode b_U_sleeps 87 = .ok (.invokevirtual 116, 3) := by decide +kernel
theorem d_U_sleeps_90 : decode b_U_sleeps 90 = .ok (.ireturn, 1) := by decide +kernel
abbrev b_C_secondOf : ByteArray := prog_2_method_21_code
abbrev y_C_secondOf : MethodName := ⟨"WhoRules$Charters", "secondOf", "(II)I"⟩
theorem d_C_secondOf_0 : decode b_C_secondOf 0 = .ok (.iload_n 1, 1) := by decide +kernel
theorem d_C_secondOf_1 : decode b_C_secondOf 1 = .ok (.ifCond .lt 10, 3) := by decide +kernel
theorem d_C_secondOf_4 : decode b_C_secondOf 4 = .ok (.aload_n 0, 1) := by decide +kernel
theorem d_C_secondOf_5 : decode b_C_secondOf 5 = .ok (.getfield 31, 3) := by decide +kernel
theorem d_C_secondOf_8 : decode b_C_secondOf 8 = .ok (.iload_n 1, 1) := by decide +kernel
theorem d_C_secondOf_9 : decode b_C_secondOf 9 = .ok (.iaload, 1) := by decide +kernel
theorem d_C_secondOf_10 : decode b_C_secondOf 10 = .ok (.ireturn, 1) := by decide +kernel
theorem d_C_secondOf_11 : decode b_C_secondOf 11 = .ok (.iload_n 2, 1) := by decide +kernel
theorem d_C_secondOf_12 : decode b_C_secondOf 12 = .ok (.ifCond .ne 7, 3) := by decide +kernel
theorem d_C_secondOf_15 : decode b_C_secondOf 15 = .ok (.iconst 2, 1) := by decide +kernel
theorem d_C_secondOf_16 : decode b_C_secondOf 16 = .ok (.goto 4, 3) := by decide +kernel
theorem d_C_secondOf_19 : decode b_C_secondOf 19 = .ok (.iconst 1, 1) := by decide +kernel
theorem d_C_secondOf_20 : decode b_C_secondOf 20 = .ok (.ireturn, 1) := by decide +kernel
abbrev b_U_weigh : ByteArray := prog_11_method_5_code
abbrev y_U_weigh : MethodName := ⟨"WhoRules$Rule", "weigh", "(III)I"⟩
theorem d_U_weigh_0 : decode b_U_weigh 0 = .ok (.aload_n 0, 1) := by decide +kernel
theorem d_U_weigh_1 : decode b_U_weigh 1 = .ok (.getfield 46, 3) := by decide +kernel
theorem d_U_weigh_4 : decode b_U_weigh 4 = .ok (.getfield 95, 3) := by decide +kernel
theorem d_U_weigh_7 : decode b_U_weigh 7 = .ok (.iload_n 1, 1) := by decide +kernel
theorem d_U_weigh_8 : decode b_U_weigh 8 = .ok (.iaload, 1) := by decide +kernel
theorem d_U_weigh_9 : decode b_U_weigh 9 = .ok (.istore 4, 2) := by decide +kernel
theorem d_U_weigh_11 : decode b_U_weigh 11 = .ok (.iload_n 2, 1) := by decide +kernel
theorem d_U_weigh_12 : decode b_U_weigh 12 = .ok (.ifCond .lt 20, 3) := by decide +kernel
theorem d_U_weigh_15 : decode b_U_weigh 15 = .ok (.iload_n 2, 1) := by decide +kernel
theorem d_U_weigh_16 : decode b_U_weigh 16 = .ok (.iload 4, 2) := by decide +kernel
theorem d_U_weigh_18 : decode b_U_weigh 18 = .ok (.if_icmp .eq 14, 3) := by decide +kernel
theorem d_U_weigh_21 : decode b_U_weigh 21 = .ok (.aload_n 0, 1) := by decide +kernel
theorem d_U_weigh_22 : decode b_U_weigh 22 = .ok (.getfield 46, 3) := by decide +kernel
theorem d_U_weigh_25 : decode b_U_weigh 25 = .ok (.iload_n 2, 1) := by decide +kernel
theorem d_U_weigh_26 : decode b_U_weigh 26 = .ok (.invokevirtual 98, 3) := by decide +kernel
theorem d_U_weigh_29 : decode b_U_weigh 29 = .ok (.ifCond .eq 5, 3) := by decide +kernel
theorem d_U_weigh_32 : decode b_U_weigh 32 = .ok (.iconst 0, 1) := by decide +kernel
theorem d_U_weigh_33 : decode b_U_weigh 33 = .ok (.ireturn, 1) := by decide +kernel
theorem d_U_weigh_34 : decode b_U_weigh 34 = .ok (.aload_n 0, 1) := by decide +kernel
theorem d_U_weigh_35 : decode b_U_weigh 35 = .ok (.iload 4, 2) := by decide +kernel
theorem d_U_weigh_37 : decode b_U_weigh 37 = .ok (.iload_n 1, 1) := by decide +kernel
theorem d_U_weigh_38 : decode b_U_weigh 38 = .ok (.iload_n 2, 1) := by decide +kernel
theorem d_U_weigh_39 : decode b_U_weigh 39 = .ok (.aload_n 0, 1) := by decide +kernel
theorem d_U_weigh_40 : decode b_U_weigh 40 = .ok (.getfield 54, 3) := by decide +kernel
theorem d_U_weigh_43 : decode b_U_weigh 43 = .ok (.iload_n 3, 1) := by decide +kernel
theorem d_U_weigh_44 : decode b_U_weigh 44 = .ok (.isub, 1) := by decide +kernel
theorem d_U_weigh_45 : decode b_U_weigh 45 = .ok (.invokevirtual 101, 3) := by decide +kernel
theorem d_U_weigh_48 : decode b_U_weigh 48 = .ok (.ifCond .eq 5, 3) := by decide +kernel
theorem d_U_weigh_51 : decode b_U_weigh 51 = .ok (.iconst 0, 1) := by decide +kernel
theorem d_U_weigh_52 : decode b_U_weigh 52 = .ok (.ireturn, 1) := by decide +kernel
theorem d_U_weigh_53 : decode b_U_weigh 53 = .ok (.aload_n 0, 1) := by decide +kernel
theorem d_U_weigh_54 : decode b_U_weigh 54 = .ok (.getfield 11, 3) := by decide +kernel
theorem d_U_weigh_57 : decode b_U_weigh 57 = .ok (.iload 4, 2) := by decide +kernel
theorem d_U_weigh_59 : decode b_U_weigh 59 = .ok (.aaload, 1) := by decide +kernel
theorem d_U_weigh_60 : decode b_U_weigh 60 = .ok (.iconst 2, 1) := by decide +kernel
theorem d_U_weigh_61 : decode b_U_weigh 61 = .ok (.iaload, 1) := by decide +kernel
theorem d_U_weigh_62 : decode b_U_weigh 62 = .ok (.istore 5, 2) := by decide +kernel
theorem d_U_weigh_64 : decode b_U_weigh 64 = .ok (.aload_n 0, 1) := by decide +kernel
theorem d_U_weigh_65 : decode b_U_weigh 65 = .ok (.getfield 54, 3) := by decide +kernel
theorem d_U_weigh_68 : decode b_U_weigh 68 = .ok (.iload_n 3, 1) := by decide +kernel
theorem d_U_weigh_69 : decode b_U_weigh 69 = .ok (.isub, 1) := by decide +kernel
theorem d_U_weigh_70 : decode b_U_weigh 70 = .ok (.aload_n 0, 1) := by decide +kernel
theorem d_U_weigh_71 : decode b_U_weigh 71 = .ok (.getfield 50, 3) := by decide +kernel
theorem d_U_weigh_74 : decode b_U_weigh 74 = .ok (.iload 5, 2) := by decide +kernel
theorem d_U_weigh_76 : decode b_U_weigh 76 = .ok (.iconst 2, 1) := by decide +kernel
theorem d_U_weigh_77 : decode b_U_weigh 77 = .ok (.invokevirtual 70, 3) := by decide +kernel
theorem d_U_weigh_80 : decode b_U_weigh 80 = .ok (.if_icmp .lt 7, 3) := by decide +kernel
theorem d_U_weigh_83 : decode b_U_weigh 83 = .ok (.iconst 1, 1) := by decide +kernel
theorem d_U_weigh_84 : decode b_U_weigh 84 = .ok (.goto 4, 3) := by decide +kernel
theorem d_U_weigh_87 : decode b_U_weigh 87 = .ok (.iconst 0, 1) := by decide +kernel
theorem d_U_weigh_88 : decode b_U_weigh 88 = .ok (.istore 6, 2) := by decide +kernel
theorem d_U_weigh_90 : decode b_U_weigh 90 = .ok (.aload_n 0, 1) := by decide +kernel
theorem d_U_weigh_91 : decode b_U_weigh 91 = .ok (.getfield 46, 3) := by decide +kernel
theorem d_U_weigh_94 : decode b_U_weigh 94 = .ok (.getfield 105, 3) := by decide +kernel
theorem d_U_weigh_97 : decode b_U_weigh 97 = .ok (.iload_n 1, 1) := by decide +kernel
theorem d_U_weigh_98 : decode b_U_weigh 98 = .ok (.iaload, 1) := by decide +kernel
theorem d_U_weigh_99 : decode b_U_weigh 99 = .ok (.iload 6, 2) := by decide +kernel
theorem d_U_weigh_101 : decode b_U_weigh 101 = .ok (.ifCond .eq 16, 3) := by decide +kernel
theorem d_U_weigh_104 : decode b_U_weigh 104 = .ok (.aload_n 0, 1) := by decide +kernel
theorem d_U_weigh_105 : decode b_U_weigh 105 = .ok (.getfield 50, 3) := by decide +kernel
theorem d_U_weigh_108 : decode b_U_weigh 108 = .ok (.iload 5, 2) := by decide +kernel
theorem d_U_weigh_110 : decode b_U_weigh 110 = .ok (.iconst 2, 1) := by decide +kernel
theorem d_U_weigh_111 : decode b_U_weigh 111 = .ok (.invokevirtual 107, 3) := by decide +kernel
theorem d_U_weigh_114 : decode b_U_weigh 114 = .ok (.goto 4, 3) := by decide +kernel
theorem d_U_weigh_117 : decode b_U_weigh 117 = .ok (.iconst 1, 1) := by decide +kernel
theorem d_U_weigh_118 : decode b_U_weigh 118 = .ok (.imul, 1) := by decide +kernel
theorem d_U_weigh_119 : decode b_U_weigh 119 = .ok (.ireturn, 1) := by decide +kernel
abbrev b_U_restore : ByteArray := prog_11_method_3_code
abbrev y_U_restore : MethodName := ⟨"WhoRules$Rule", "restore", "(I)V"⟩
theorem d_U_restore_0 : decode b_U_restore 0 = .ok (.aload_n 0, 1) := by decide +kernel
theorem d_U_restore_1 : decode b_U_restore 1 = .ok (.getfield 16, 3) := by decide +kernel
theorem d_U_restore_4 : decode b_U_restore 4 = .ok (.iload_n 1, 1) := by decide +kernel
theorem d_U_restore_5 : decode b_U_restore 5 = .ok (.aload_n 0, 1) := by decide +kernel
theorem d_U_restore_6 : decode b_U_restore 6 = .ok (.getfield 46, 3) := by decide +kernel
theorem d_U_restore_9 : decode b_U_restore 9 = .ok (.getfield 88, 3) := by decide +kernel
theorem d_U_restore_12 : decode b_U_restore 12 = .ok (.iload_n 1, 1) := by decide +kernel
theorem d_U_restore_13 : decode b_U_restore 13 = .ok (.iaload, 1) := by decide +kernel
theorem d_U_restore_14 : decode b_U_restore 14 = .ok (.iastore, 1) := by decide +kernel
theorem d_U_restore_15 : decode b_U_restore 15 = .ok (.aload_n 0, 1) := by decide +kernel
theorem d_U_restore_16 : decode b_U_restore 16 = .ok (.getfield 20, 3) := by decide +kernel
theorem d_U_restore_19 : decode b_U_restore 19 = .ok (.iload_n 1, 1) := by decide +kernel
theorem d_U_restore_20 : decode b_U_restore 20 = .ok (.aload_n 0, 1) := by decide +kernel
theorem d_U_restore_21 : decode b_U_restore 21 = .ok (.iload_n 1, 1) := by decide +kernel
theorem d_U_restore_22 : decode b_U_restore 22 = .ok (.aload_n 0, 1) := by decide +kernel
theorem d_U_restore_23 : decode b_U_restore 23 = .ok (.getfield 16, 3) := by decide +kernel
theorem d_U_restore_26 : decode b_U_restore 26 = .ok (.iload_n 1, 1) := by decide +kernel
theorem d_U_restore_27 : decode b_U_restore 27 = .ok (.iaload, 1) := by decide +kernel
theorem d_U_restore_28 : decode b_U_restore 28 = .ok (.aload_n 0, 1) := by decide +kernel
theorem d_U_restore_29 : decode b_U_restore 29 = .ok (.getfield 46, 3) := by decide +kernel
theorem d_U_restore_32 : decode b_U_restore 32 = .ok (.getfield 89, 3) := by decide +kernel
theorem d_U_restore_35 : decode b_U_restore 35 = .ok (.iload_n 1, 1) := by decide +kernel
theorem d_U_restore_36 : decode b_U_restore 36 = .ok (.iaload, 1) := by decide +kernel
theorem d_U_restore_37 : decode b_U_restore 37 = .ok (.invokevirtual 92, 3) := by decide +kernel
theorem d_U_restore_40 : decode b_U_restore 40 = .ok (.iastore, 1) := by decide +kernel
theorem d_U_restore_41 : decode b_U_restore 41 = .ok (.return_, 1) := by decide +kernel
abbrev b_U_look : ByteArray := prog_11_method_2_code
abbrev y_U_look : MethodName := ⟨"WhoRules$Rule", "look", "(I)V"⟩
theorem d_U_look_0 : decode b_U_look 0 = .ok (.aload_n 0, 1) := by decide +kernel
theorem d_U_look_1 : decode b_U_look 1 = .ok (.iload_n 1, 1) := by decide +kernel
theorem d_U_look_2 : decode b_U_look 2 = .ok (.putfield 54, 3) := by decide +kernel
theorem d_U_look_5 : decode b_U_look 5 = .ok (.iconst 0, 1) := by decide +kernel
theorem d_U_look_6 : decode b_U_look 6 = .ok (.istore_n 2, 1) := by decide +kernel
theorem d_U_look_7 : decode b_U_look 7 = .ok (.iload_n 2, 1) := by decide +kernel
theorem d_U_look_8 : decode b_U_look 8 = .ok (.aload_n 0, 1) := by decide +kernel
theorem d_U_look_9 : decode b_U_look 9 = .ok (.getfield 46, 3) := by decide +kernel
theorem d_U_look_12 : decode b_U_look 12 = .ok (.getfield 58, 3) := by decide +kernel
theorem d_U_look_15 : decode b_U_look 15 = .ok (.if_icmp .ge 100, 3) := by decide +kernel
theorem d_U_look_18 : decode b_U_look 18 = .ok (.aload_n 0, 1) := by decide +kernel
theorem d_U_look_19 : decode b_U_look 19 = .ok (.getfield 46, 3) := by decide +kernel
theorem d_U_look_22 : decode b_U_look 22 = .ok (.getfield 63, 3) := by decide +kernel
theorem d_U_look_25 : decode b_U_look 25 = .ok (.iload_n 2, 1) := by decide +kernel
theorem d_U_look_26 : decode b_U_look 26 = .ok (.iaload, 1) := by decide +kernel
theorem d_U_look_27 : decode b_U_look 27 = .ok (.istore_n 3, 1) := by decide +kernel
theorem d_U_look_28 : decode b_U_look 28 = .ok (.iconst 0, 1) := by decide +kernel
theorem d_U_look_29 : decode b_U_look 29 = .ok (.istore 4, 2) := by decide +kernel
theorem d_U_look_31 : decode b_U_look 31 = .ok (.iload 4, 2) := by decide +kernel
theorem d_U_look_33 : decode b_U_look 33 = .ok (.iconst 5, 1) := by decide +kernel
theorem d_U_look_34 : decode b_U_look 34 = .ok (.if_icmp .ge 32, 3) := by decide +kernel
theorem d_U_look_37 : decode b_U_look 37 = .ok (.aload_n 0, 1) := by decide +kernel
theorem d_U_look_38 : decode b_U_look 38 = .ok (.getfield 11, 3) := by decide +kernel
theorem d_U_look_41 : decode b_U_look 41 = .ok (.iload_n 3, 1) := by decide +kernel
theorem d_U_look_42 : decode b_U_look 42 = .ok (.aaload, 1) := by decide +kernel
theorem d_U_look_43 : decode b_U_look 43 = .ok (.iload 4, 2) := by decide +kernel
theorem d_U_look_45 : decode b_U_look 45 = .ok (.aload_n 0, 1) := by decide +kernel
theorem d_U_look_46 : decode b_U_look 46 = .ok (.getfield 50, 3) := by decide +kernel
theorem d_U_look_49 : decode b_U_look 49 = .ok (.iload_n 3, 1) := by decide +kernel
theorem d_U_look_50 : decode b_U_look 50 = .ok (.iload 4, 2) := by decide +kernel
theorem d_U_look_52 : decode b_U_look 52 = .ok (.aload_n 0, 1) := by decide +kernel
theorem d_U_look_53 : decode b_U_look 53 = .ok (.getfield 54, 3) := by decide +kernel
theorem d_U_look_56 : decode b_U_look 56 = .ok (.invokevirtual 66, 3) := by decide +kernel
theorem d_U_look_59 : decode b_U_look 59 = .ok (.iastore, 1) := by decide +kernel
theorem d_U_look_60 : decode b_U_look 60 = .ok (.iinc 4 1, 3) := by decide +kernel
theorem d_U_look_63 : decode b_U_look 63 = .ok (.goto (-32), 3) := by decide +kernel
theorem d_U_look_66 : decode b_U_look 66 = .ok (.aload_n 0, 1) := by decide +kernel
theorem d_U_look_67 : decode b_U_look 67 = .ok (.getfield 50, 3) := by decide +kernel
theorem d_U_look_70 : decode b_U_look 70 = .ok (.aload_n 0, 1) := by decide +kernel
theorem d_U_look_71 : decode b_U_look 71 = .ok (.getfield 11, 3) := by decide +kernel
theorem d_U_look_74 : decode b_U_look 74 = .ok (.iload_n 3, 1) := by decide +kernel
theorem d_U_look_75 : decode b_U_look 75 = .ok (.aaload, 1) := by decide +kernel
theorem d_U_look_76 : decode b_U_look 76 = .ok (.iconst 3, 1) := by decide +kernel
theorem d_U_look_77 : decode b_U_look 77 = .ok (.iaload, 1) := by decide +kernel
theorem d_U_look_78 : decode b_U_look 78 = .ok (.iconst 3, 1) := by decide +kernel
theorem d_U_look_79 : decode b_U_look 79 = .ok (.invokevirtual 70, 3) := by decide +kernel
theorem d_U_look_82 : decode b_U_look 82 = .ok (.istore 4, 2) := by decide +kernel
theorem d_U_look_84 : decode b_U_look 84 = .ok (.aload_n 0, 1) := by decide +kernel
theorem d_U_look_85 : decode b_U_look 85 = .ok (.getfield 31, 3) := by decide +kernel
theorem d_U_look_88 : decode b_U_look 88 = .ok (.iload_n 3, 1) := by decide +kernel
theorem d_U_look_89 : decode b_U_look 89 = .ok (.aload_n 0, 1) := by decide +kernel
theorem d_U_look_90 : decode b_U_look 90 = .ok (.getfield 46, 3) := by decide +kernel
theorem d_U_look_93 : decode b_U_look 93 = .ok (.iload 4, 2) := by decide +kernel
theorem d_U_look_95 : decode b_U_look 95 = .ok (.invokevirtual 74, 3) := by decide +kernel
theorem d_U_look_98 : decode b_U_look 98 = .ok (.ifCond .eq 8, 3) := by decide +kernel
theorem d_U_look_101 : decode b_U_look 101 = .ok (.iload 4, 2) := by decide +kernel
theorem d_U_look_103 : decode b_U_look 103 = .ok (.goto 5, 3) := by decide +kernel
theorem d_U_look_106 : decode b_U_look 106 = .ok (.bipush (-5), 2) := by decide +kernel
theorem d_U_look_108 : decode b_U_look 108 = .ok (.iastore, 1) := by decide +kernel
theorem d_U_look_109 : decode b_U_look 109 = .ok (.iinc 2 1, 3) := by decide +kernel
theorem d_U_look_112 : decode b_U_look 112 = .ok (.goto (-105), 3) := by decide +kernel
theorem d_U_look_115 : decode b_U_look 115 = .ok (.aload_n 0, 1) := by decide +kernel
theorem d_U_look_116 : decode b_U_look 116 = .ok (.getfield 46, 3) := by decide +kernel
theorem d_U_look_119 : decode b_U_look 119 = .ok (.aload_n 0, 1) := by decide +kernel
theorem d_U_look_120 : decode b_U_look 120 = .ok (.getfield 54, 3) := by decide +kernel
theorem d_U_look_123 : decode b_U_look 123 = .ok (.invokevirtual 78, 3) := by decide +kernel
theorem d_U_look_126 : decode b_U_look 126 = .ok (.iconst 0, 1) := by decide +kernel
theorem d_U_look_127 : decode b_U_look 127 = .ok (.istore_n 2, 1) := by decide +kernel
theorem d_U_look_128 : decode b_U_look 128 = .ok (.iload_n 2, 1) := by decide +kernel
theorem d_U_look_129 : decode b_U_look 129 = .ok (.aload_n 0, 1) := by decide +kernel
theorem d_U_look_130 : decode b_U_look 130 = .ok (.getfield 46, 3) := by decide +kernel
theorem d_U_look_133 : decode b_U_look 133 = .ok (.getfield 82, 3) := by decide +kernel
theorem d_U_look_136 : decode b_U_look 136 = .ok (.if_icmp .ge 14, 3) := by decide +kernel
theorem d_U_look_139 : decode b_U_look 139 = .ok (.aload_n 0, 1) := by decide +kernel
theorem d_U_look_140 : decode b_U_look 140 = .ok (.iload_n 2, 1) := by decide +kernel
theorem d_U_look_141 : decode b_U_look 141 = .ok (.invokevirtual 85, 3) := by decide +kernel
theorem d_U_look_144 : decode b_U_look 144 = .ok (.iinc 2 1, 3) := by decide +kernel
theorem d_U_look_147 : decode b_U_look 147 = .ok (.goto (-19), 3) := by decide +kernel
theorem d_U_look_150 : decode b_U_look 150 = .ok (.return_, 1) := by decide +kernel
abbrev b_U_sleepsNow : ByteArray := prog_11_method_7_code
abbrev y_U_sleepsNow : MethodName := ⟨"WhoRules$Rule", "sleepsNow", "(II)I"⟩
theorem d_U_sleepsNow_0 : decode b_U_sleepsNow 0 = .ok (.aload_n 0, 1) := by decide +kernel
theorem d_U_sleepsNow_1 : decode b_U_sleepsNow 1 = .ok (.getfield 46, 3) := by decide +kernel
theorem d_U_sleepsNow_4 : decode b_U_sleepsNow 4 = .ok (.getfield 88, 3) := by decide +kernel
theorem d_U_sleepsNow_7 : decode b_U_sleepsNow 7 = .ok (.iload_n 2, 1) := by decide +kernel
theorem d_U_sleepsNow_8 : decode b_U_sleepsNow 8 = .ok (.iaload, 1) := by decide +kernel
theorem d_U_sleepsNow_9 : decode b_U_sleepsNow 9 = .ok (.istore_n 3, 1) := by decide +kernel
theorem d_U_sleepsNow_10 : decode b_U_sleepsNow 10 = .ok (.iload_n 3, 1) := by decide +kernel
theorem d_U_sleepsNow_11 : decode b_U_sleepsNow 11 = .ok (.ifCond .lt 31, 3) := by decide +kernel
theorem d_U_sleepsNow_14 : decode b_U_sleepsNow 14 = .ok (.aload_n 0, 1) := by decide +kernel
theorem d_U_sleepsNow_15 : decode b_U_sleepsNow 15 = .ok (.iload_n 1, 1) := by decide +kernel
theorem d_U_sleepsNow_16 : decode b_U_sleepsNow 16 = .ok (.iload_n 2, 1) := by decide +kernel
theorem d_U_sleepsNow_17 : decode b_U_sleepsNow 17 = .ok (.iload_n 3, 1) := by decide +kernel
theorem d_U_sleepsNow_18 : decode b_U_sleepsNow 18 = .ok (.aload_n 0, 1) := by decide +kernel
theorem d_U_sleepsNow_19 : decode b_U_sleepsNow 19 = .ok (.getfield 54, 3) := by decide +kernel
theorem d_U_sleepsNow_22 : decode b_U_sleepsNow 22 = .ok (.aload_n 0, 1) := by decide +kernel
theorem d_U_sleepsNow_23 : decode b_U_sleepsNow 23 = .ok (.getfield 46, 3) := by decide +kernel
theorem d_U_sleepsNow_26 : decode b_U_sleepsNow 26 = .ok (.getfield 89, 3) := by decide +kernel
theorem d_U_sleepsNow_29 : decode b_U_sleepsNow 29 = .ok (.iload_n 2, 1) := by decide +kernel
theorem d_U_sleepsNow_30 : decode b_U_sleepsNow 30 = .ok (.iaload, 1) := by decide +kernel
theorem d_U_sleepsNow_31 : decode b_U_sleepsNow 31 = .ok (.isub, 1) := by decide +kernel
theorem d_U_sleepsNow_32 : decode b_U_sleepsNow 32 = .ok (.invokevirtual 101, 3) := by decide +kernel
theorem d_U_sleepsNow_35 : decode b_U_sleepsNow 35 = .ok (.ifCond .eq 7, 3) := by decide +kernel
theorem d_U_sleepsNow_38 : decode b_U_sleepsNow 38 = .ok (.iconst 1, 1) := by decide +kernel
theorem d_U_sleepsNow_39 : decode b_U_sleepsNow 39 = .ok (.goto 4, 3) := by decide +kernel
theorem d_U_sleepsNow_42 : decode b_U_sleepsNow 42 = .ok (.iconst 0, 1) := by decide +kernel
theorem d_U_sleepsNow_43 : decode b_U_sleepsNow 43 = .ok (.ireturn, 1) := by decide +kernel
abbrev b_C_told : ByteArray := prog_2_method_22_code
abbrev y_C_told : MethodName := ⟨"WhoRules$Charters", "told", "(II)I"⟩
theorem d_C_told_0 : decode b_C_told 0 = .ok (.aload_n 0, 1) := by decide +kernel
theorem d_C_told_1 : decode b_C_told 1 = .ok (.iload_n 1, 1) := by decide +kernel
theorem d_C_told_2 : decode b_C_told 2 = .ok (.iload_n 2, 1) := by decide +kernel
theorem d_C_told_3 : decode b_C_told 3 = .ok (.invokevirtual 123, 3) := by decide +kernel
theorem d_C_told_6 : decode b_C_told 6 = .ok (.istore_n 3, 1) := by decide +kernel
theorem d_C_told_7 : decode b_C_told 7 = .ok (.iload_n 2, 1) := by decide +kernel
theorem d_C_told_8 : decode b_C_told 8 = .ok (.ifCond .eq 8, 3) := by decide +kernel
theorem d_C_told_11 : decode b_C_told 11 = .ok (.iload_n 2, 1) := by decide +kernel
theorem d_C_told_12 : decode b_C_told 12 = .ok (.iconst 2, 1) := by decide +kernel
theorem d_C_told_13 : decode b_C_told 13 = .ok (.if_icmp .ne 18, 3) := by decide +kernel
theorem d_C_told_16 : decode b_C_told 16 = .ok (.sipush 1000, 3) := by decide +kernel
theorem d_C_told_19 : decode b_C_told 19 = .ok (.iload_n 3, 1) := by decide +kernel
theorem d_C_told_20 : decode b_C_told 20 = .ok (.imul, 1) := by decide +kernel
theorem d_C_told_21 : decode b_C_told 21 = .ok (.aload_n 0, 1) := by decide +kernel
theorem d_C_told_22 : decode b_C_told 22 = .ok (.iload_n 1, 1) := by decide +kernel
theorem d_C_told_23 : decode b_C_told 23 = .ok (.iload_n 2, 1) := by decide +kernel
theorem d_C_told_24 : decode b_C_told 24 = .ok (.invokevirtual 126, 3) := by decide +kernel
theorem d_C_told_27 : decode b_C_told 27 = .ok (.iadd, 1) := by decide +kernel
theorem d_C_told_28 : decode b_C_told 28 = .ok (.goto 4, 3) := by decide +kernel
theorem d_C_told_31 : decode b_C_told 31 = .ok (.iload_n 3, 1) := by decide +kernel
theorem d_C_told_32 : decode b_C_told 32 = .ok (.ireturn, 1) := by decide +kernel
abbrev b_W_force : ByteArray := prog_1_method_11_code
abbrev y_W_force : MethodName := ⟨"WhoRules", "force", "(IIII)I"⟩
theorem d_W_force_0 : decode b_W_force 0 = .ok (.aload_n 0, 1) := by decide +kernel
theorem d_W_force_1 : decode b_W_force 1 = .ok (.getfield 18, 3) := by decide +kernel
theorem d_W_force_4 : decode b_W_force 4 = .ok (.iload_n 1, 1) := by decide +kernel
theorem d_W_force_5 : decode b_W_force 5 = .ok (.invokevirtual 87, 3) := by decide +kernel
theorem d_W_force_8 : decode b_W_force 8 = .ok (.ifCond .eq 27, 3) := by decide +kernel
theorem d_W_force_11 : decode b_W_force 11 = .ok (.iload_n 2, 1) := by decide +kernel
theorem d_W_force_12 : decode b_W_force 12 = .ok (.invokestatic 155, 3) := by decide +kernel
theorem d_W_force_15 : decode b_W_force 15 = .ok (.ifCond .eq 20, 3) := by decide +kernel
theorem d_W_force_18 : decode b_W_force 18 = .ok (.iload_n 2, 1) := by decide +kernel
theorem d_W_force_19 : decode b_W_force 19 = .ok (.iconst 4, 1) := by decide +kernel
theorem d_W_force_20 : decode b_W_force 20 = .ok (.if_icmp .ne 17, 3) := by decide +kernel
theorem d_W_force_23 : decode b_W_force 23 = .ok (.aload_n 0, 1) := by decide +kernel
theorem d_W_force_24 : decode b_W_force 24 = .ok (.getfield 18, 3) := by decide +kernel
theorem d_W_force_27 : decode b_W_force 27 = .ok (.iload 4, 2) := by decide +kernel
theorem d_W_force_29 : decode b_W_force 29 = .ok (.invokevirtual 102, 3) := by decide +kernel
theorem d_W_force_32 : decode b_W_force 32 = .ok (.ifCond .ne 5, 3) := by decide +kernel
theorem d_W_force_35 : decode b_W_force 35 = .ok (.iconst (-1), 1) := by decide +kernel
theorem d_W_force_36 : decode b_W_force 36 = .ok (.ireturn, 1) := by decide +kernel
theorem d_W_force_37 : decode b_W_force 37 = .ok (.iload_n 3, 1) := by decide +kernel
theorem d_W_force_38 : decode b_W_force 38 = .ok (.invokestatic 132, 3) := by decide +kernel
theorem d_W_force_41 : decode b_W_force 41 = .ok (.ifCond .ne 6, 3) := by decide +kernel
theorem d_W_force_44 : decode b_W_force 44 = .ok (.bipush (-2), 2) := by decide +kernel
theorem d_W_force_46 : decode b_W_force 46 = .ok (.ireturn, 1) := by decide +kernel
theorem d_W_force_47 : decode b_W_force 47 = .ok (.aload_n 0, 1) := by decide +kernel
theorem d_W_force_48 : decode b_W_force 48 = .ok (.getfield 34, 3) := by decide +kernel
theorem d_W_force_51 : decode b_W_force 51 = .ok (.iload_n 3, 1) := by decide +kernel
theorem d_W_force_52 : decode b_W_force 52 = .ok (.invokevirtual 158, 3) := by decide +kernel
theorem d_W_force_55 : decode b_W_force 55 = .ok (.iload_n 2, 1) := by decide +kernel
theorem d_W_force_56 : decode b_W_force 56 = .ok (.iconst 4, 1) := by decide +kernel
theorem d_W_force_57 : decode b_W_force 57 = .ok (.if_icmp .ne 16, 3) := by decide +kernel
theorem d_W_force_60 : decode b_W_force 60 = .ok (.aload_n 0, 1) := by decide +kernel
theorem d_W_force_61 : decode b_W_force 61 = .ok (.getfield 34, 3) := by decide +kernel
theorem d_W_force_64 : decode b_W_force 64 = .ok (.iload_n 1, 1) := by decide +kernel
theorem d_W_force_65 : decode b_W_force 65 = .ok (.iload 4, 2) := by decide +kernel
theorem d_W_force_67 : decode b_W_force 67 = .ok (.invokevirtual 161, 3) := by decide +kernel
theorem d_W_force_70 : decode b_W_force 70 = .ok (.goto 22, 3) := by decide +kernel
theorem d_W_force_73 : decode b_W_force 73 = .ok (.aload_n 0, 1) := by decide +kernel
theorem d_W_force_74 : decode b_W_force 74 = .ok (.getfield 25, 3) := by decide +kernel
theorem d_W_force_77 : decode b_W_force 77 = .ok (.aload_n 0, 1) := by decide +kernel
theorem d_W_force_78 : decode b_W_force 78 = .ok (.getfield 34, 3) := by decide +kernel
theorem d_W_force_81 : decode b_W_force 81 = .ok (.getfield 164, 3) := by decide +kernel
theorem d_W_force_84 : decode b_W_force 84 = .ok (.iload_n 1, 1) := by decide +kernel
theorem d_W_force_85 : decode b_W_force 85 = .ok (.aaload, 1) := by decide +kernel
theorem d_W_force_86 : decode b_W_force 86 = .ok (.iload_n 2, 1) := by decide +kernel
theorem d_W_force_87 : decode b_W_force 87 = .ok (.iaload, 1) := by decide +kernel
theorem d_W_force_88 : decode b_W_force 88 = .ok (.iload_n 2, 1) := by decide +kernel
theorem d_W_force_89 : decode b_W_force 89 = .ok (.invokevirtual 168, 3) := by decide +kernel
theorem d_W_force_92 : decode b_W_force 92 = .ok (.ireturn, 1) := by decide +kernel
abbrev b_W_why : ByteArray := prog_1_method_12_code
abbrev y_W_why : MethodName := ⟨"WhoRules", "why", "(III)I"⟩
theorem d_W_why_0 : decode b_W_why 0 = .ok (.aload_n 0, 1) := by decide +kernel
theorem d_W_why_1 : decode b_W_why 1 = .ok (.getfield 18, 3) := by decide +kernel
theorem d_W_why_4 : decode b_W_why 4 = .ok (.iload_n 1, 1) := by decide +kernel
theorem d_W_why_5 : decode b_W_why 5 = .ok (.invokevirtual 87, 3) := by decide +kernel
theorem d_W_why_8 : decode b_W_why 8 = .ok (.ifCond .eq 10, 3) := by decide +kernel
theorem d_W_why_11 : decode b_W_why 11 = .ok (.iload_n 2, 1) := by decide +kernel
theorem d_W_why_12 : decode b_W_why 12 = .ok (.invokestatic 155, 3) := by decide +kernel
theorem d_W_why_15 : decode b_W_why 15 = .ok (.ifCond .ne 5, 3) := by decide +kernel
theorem d_W_why_18 : decode b_W_why 18 = .ok (.iconst (-1), 1) := by decide +kernel
theorem d_W_why_19 : decode b_W_why 19 = .ok (.ireturn, 1) := by decide +kernel
theorem d_W_why_20 : decode b_W_why 20 = .ok (.iload_n 3, 1) := by decide +kernel
theorem d_W_why_21 : decode b_W_why 21 = .ok (.invokestatic 132, 3) := by decide +kernel
theorem d_W_why_24 : decode b_W_why 24 = .ok (.ifCond .ne 6, 3) := by decide +kernel
theorem d_W_why_27 : decode b_W_why 27 = .ok (.bipush (-2), 2) := by decide +kernel
theorem d_W_why_29 : decode b_W_why 29 = .ok (.ireturn, 1) := by decide +kernel
theorem d_W_why_30 : decode b_W_why 30 = .ok (.aload_n 0, 1) := by decide +kernel
theorem d_W_why_31 : decode b_W_why 31 = .ok (.getfield 25, 3) := by decide +kernel
theorem d_W_why_34 : decode b_W_why 34 = .ok (.iload_n 1, 1) := by decide +kernel
theorem d_W_why_35 : decode b_W_why 35 = .ok (.iload_n 2, 1) := by decide +kernel
theorem d_W_why_36 : decode b_W_why 36 = .ok (.iload_n 3, 1) := by decide +kernel
theorem d_W_why_37 : decode b_W_why 37 = .ok (.invokevirtual 171, 3) := by decide +kernel
theorem d_W_why_40 : decode b_W_why 40 = .ok (.istore 4, 2) := by decide +kernel
theorem d_W_why_42 : decode b_W_why 42 = .ok (.iload 4, 2) := by decide +kernel
theorem d_W_why_44 : decode b_W_why 44 = .ok (.ifCond .ge 8, 3) := by decide +kernel
theorem d_W_why_47 : decode b_W_why 47 = .ok (.bipush (-5), 2) := by decide +kernel
theorem d_W_why_49 : decode b_W_why 49 = .ok (.goto 17, 3) := by decide +kernel
theorem d_W_why_52 : decode b_W_why 52 = .ok (.bipush 100, 2) := by decide +kernel
theorem d_W_why_54 : decode b_W_why 54 = .ok (.iload 4, 2) := by decide +kernel
theorem d_W_why_56 : decode b_W_why 56 = .ok (.bipush 6, 2) := by decide +kernel
theorem d_W_why_58 : decode b_W_why 58 = .ok (.idiv, 1) := by decide +kernel
theorem d_W_why_59 : decode b_W_why 59 = .ok (.imul, 1) := by decide +kernel
theorem d_W_why_60 : decode b_W_why 60 = .ok (.iload 4, 2) := by decide +kernel
theorem d_W_why_62 : decode b_W_why 62 = .ok (.bipush 6, 2) := by decide +kernel
theorem d_W_why_64 : decode b_W_why 64 = .ok (.irem, 1) := by decide +kernel
theorem d_W_why_65 : decode b_W_why 65 = .ok (.iadd, 1) := by decide +kernel
theorem d_W_why_66 : decode b_W_why 66 = .ok (.ireturn, 1) := by decide +kernel
abbrev b_U_bound : ByteArray := prog_11_method_9_code
abbrev y_U_bound : MethodName := ⟨"WhoRules$Rule", "bound", "(I)V"⟩
theorem d_U_bound_0 : decode b_U_bound 0 = .ok (.aload_n 0, 1) := by decide +kernel
theorem d_U_bound_1 : decode b_U_bound 1 = .ok (.getfield 50, 3) := by decide +kernel
theorem d_U_bound_4 : decode b_U_bound 4 = .ok (.aload_n 0, 1) := by decide +kernel
theorem d_U_bound_5 : decode b_U_bound 5 = .ok (.getfield 11, 3) := by decide +kernel
theorem d_U_bound_8 : decode b_U_bound 8 = .ok (.iload_n 1, 1) := by decide +kernel
theorem d_U_bound_9 : decode b_U_bound 9 = .ok (.aaload, 1) := by decide +kernel
theorem d_U_bound_10 : decode b_U_bound 10 = .ok (.iconst 1, 1) := by decide +kernel
theorem d_U_bound_11 : decode b_U_bound 11 = .ok (.iaload, 1) := by decide +kernel
theorem d_U_bound_12 : decode b_U_bound 12 = .ok (.iconst 1, 1) := by decide +kernel
theorem d_U_bound_13 : decode b_U_bound 13 = .ok (.invokevirtual 70, 3) := by decide +kernel
theorem d_U_bound_16 : decode b_U_bound 16 = .ok (.istore_n 2, 1) := by decide +kernel
theorem d_U_bound_17 : decode b_U_bound 17 = .ok (.iconst 0, 1) := by decide +kernel
theorem d_U_bound_18 : decode b_U_bound 18 = .ok (.istore_n 3, 1) := by decide +kernel
theorem d_U_bound_19 : decode b_U_bound 19 = .ok (.iconst 0, 1) := by decide +kernel
theorem d_U_bound_20 : decode b_U_bound 20 = .ok (.istore 4, 2) := by decide +kernel
theorem d_U_bound_22 : decode b_U_bound 22 = .ok (.iload 4, 2) := by decide +kernel
theorem d_U_bound_24 : decode b_U_bound 24 = .ok (.aload_n 0, 1) := by decide +kernel
theorem d_U_bound_25 : decode b_U_bound 25 = .ok (.getfield 46, 3) := by decide +kernel
theorem d_U_bound_28 : decode b_U_bound 28 = .ok (.getfield 129, 3) := by decide +kernel
theorem d_U_bound_31 : decode b_U_bound 31 = .ok (.if_icmp .ge 43, 3) := by decide +kernel
theorem d_U_bound_34 : decode b_U_bound 34 = .ok (.aload_n 0, 1) := by decide +kernel
theorem d_U_bound_35 : decode b_U_bound 35 = .ok (.getfield 28, 3) := by decide +kernel
theorem d_U_bound_38 : decode b_U_bound 38 = .ok (.iload_n 1, 1) := by decide +kernel
theorem d_U_bound_39 : decode b_U_bound 39 = .ok (.aaload, 1) := by decide +kernel
theorem d_U_bound_40 : decode b_U_bound 40 = .ok (.iload 4, 2) := by decide +kernel
theorem d_U_bound_42 : decode b_U_bound 42 = .ok (.aload_n 0, 1) := by decide +kernel
theorem d_U_bound_43 : decode b_U_bound 43 = .ok (.getfield 28, 3) := by decide +kernel
theorem d_U_bound_46 : decode b_U_bound 46 = .ok (.iload_n 1, 1) := by decide +kernel
theorem d_U_bound_47 : decode b_U_bound 47 = .ok (.aaload, 1) := by decide +kernel
theorem d_U_bound_48 : decode b_U_bound 48 = .ok (.iload 4, 2) := by decide +kernel
theorem d_U_bound_50 : decode b_U_bound 50 = .ok (.iaload, 1) := by decide +kernel
theorem d_U_bound_51 : decode b_U_bound 51 = .ok (.iload_n 2, 1) := by decide +kernel
theorem d_U_bound_52 : decode b_U_bound 52 = .ok (.invokestatic 132, 3) := by decide +kernel
theorem d_U_bound_55 : decode b_U_bound 55 = .ok (.iastore, 1) := by decide +kernel
theorem d_U_bound_56 : decode b_U_bound 56 = .ok (.iload_n 3, 1) := by decide +kernel
theorem d_U_bound_57 : decode b_U_bound 57 = .ok (.aload_n 0, 1) := by decide +kernel
theorem d_U_bound_58 : decode b_U_bound 58 = .ok (.getfield 28, 3) := by decide +kernel
theorem d_U_bound_61 : decode b_U_bound 61 = .ok (.iload_n 1, 1) := by decide +kernel
theorem d_U_bound_62 : decode b_U_bound 62 = .ok (.aaload, 1) := by decide +kernel
theorem d_U_bound_63 : decode b_U_bound 63 = .ok (.iload 4, 2) := by decide +kernel
theorem d_U_bound_65 : decode b_U_bound 65 = .ok (.iaload, 1) := by decide +kernel
theorem d_U_bound_66 : decode b_U_bound 66 = .ok (.iadd, 1) := by decide +kernel
theorem d_U_bound_67 : decode b_U_bound 67 = .ok (.istore_n 3, 1) := by decide +kernel
theorem d_U_bound_68 : decode b_U_bound 68 = .ok (.iinc 4 1, 3) := by decide +kernel
theorem d_U_bound_71 : decode b_U_bound 71 = .ok (.goto (-49), 3) := by decide +kernel
theorem d_U_bound_74 : decode b_U_bound 74 = .ok (.aload_n 0, 1) := by decide +kernel
theorem d_U_bound_75 : decode b_U_bound 75 = .ok (.getfield 11, 3) := by decide +kernel
theorem d_U_bound_78 : decode b_U_bound 78 = .ok (.iload_n 1, 1) := by decide +kernel
theorem d_U_bound_79 : decode b_U_bound 79 = .ok (.aaload, 1) := by decide +kernel
theorem d_U_bound_80 : decode b_U_bound 80 = .ok (.iconst 0, 1) := by decide +kernel
theorem d_U_bound_81 : decode b_U_bound 81 = .ok (.iaload, 1) := by decide +kernel
theorem d_U_bound_82 : decode b_U_bound 82 = .ok (.istore 4, 2) := by decide +kernel
theorem d_U_bound_84 : decode b_U_bound 84 = .ok (.aload_n 0, 1) := by decide +kernel
theorem d_U_bound_85 : decode b_U_bound 85 = .ok (.getfield 50, 3) := by decide +kernel
theorem d_U_bound_88 : decode b_U_bound 88 = .ok (.iload 4, 2) := by decide +kernel
theorem d_U_bound_90 : decode b_U_bound 90 = .ok (.iconst 0, 1) := by decide +kernel
theorem d_U_bound_91 : decode b_U_bound 91 = .ok (.invokevirtual 107, 3) := by decide +kernel
theorem d_U_bound_94 : decode b_U_bound 94 = .ok (.istore 5, 2) := by decide +kernel
theorem d_U_bound_96 : decode b_U_bound 96 = .ok (.aload_n 0, 1) := by decide +kernel
theorem d_U_bound_97 : decode b_U_bound 97 = .ok (.getfield 34, 3) := by decide +kernel
theorem d_U_bound_100 : decode b_U_bound 100 = .ok (.iload_n 1, 1) := by decide +kernel
theorem d_U_bound_101 : decode b_U_bound 101 = .ok (.iload 5, 2) := by decide +kernel
theorem d_U_bound_103 : decode b_U_bound 103 = .ok (.ifCond .le 21, 3) := by decide +kernel
theorem d_U_bound_106 : decode b_U_bound 106 = .ok (.aload_n 0, 1) := by decide +kernel
theorem d_U_bound_107 : decode b_U_bound 107 = .ok (.getfield 50, 3) := by decide +kernel
theorem d_U_bound_110 : decode b_U_bound 110 = .ok (.iload 4, 2) := by decide +kernel
theorem d_U_bound_112 : decode b_U_bound 112 = .ok (.iconst 0, 1) := by decide +kernel
theorem d_U_bound_113 : decode b_U_bound 113 = .ok (.invokevirtual 70, 3) := by decide +kernel
theorem d_U_bound_116 : decode b_U_bound 116 = .ok (.iload_n 3, 1) := by decide +kernel
theorem d_U_bound_117 : decode b_U_bound 117 = .ok (.imul, 1) := by decide +kernel
theorem d_U_bound_118 : decode b_U_bound 118 = .ok (.iload 5, 2) := by decide +kernel
theorem d_U_bound_120 : decode b_U_bound 120 = .ok (.idiv, 1) := by decide +kernel
theorem d_U_bound_121 : decode b_U_bound 121 = .ok (.goto 4, 3) := by decide +kernel
theorem d_U_bound_124 : decode b_U_bound 124 = .ok (.iconst 0, 1) := by decide +kernel
theorem d_U_bound_125 : decode b_U_bound 125 = .ok (.iastore, 1) := by decide +kernel
theorem d_U_bound_126 : decode b_U_bound 126 = .ok (.return_, 1) := by decide +kernel
abbrev b_U_tally : ByteArray := prog_11_method_8_code
abbrev y_U_tally : MethodName := ⟨"WhoRules$Rule", "tally", "()V"⟩
theorem d_U_tally_0 : decode b_U_tally 0 = .ok (.iconst 0, 1) := by decide +kernel
theorem d_U_tally_1 : decode b_U_tally 1 = .ok (.istore_n 1, 1) := by decide +kernel
theorem d_U_tally_2 : decode b_U_tally 2 = .ok (.iload_n 1, 1) := by decide +kernel
theorem d_U_tally_3 : decode b_U_tally 3 = .ok (.aload_n 0, 1) := by decide +kernel
theorem d_U_tally_4 : decode b_U_tally 4 = .ok (.getfield 46, 3) := by decide +kernel
theorem d_U_tally_7 : decode b_U_tally 7 = .ok (.getfield 58, 3) := by decide +kernel
theorem d_U_tally_10 : decode b_U_tally 10 = .ok (.if_icmp .ge 27, 3) := by decide +kernel
theorem d_U_tally_13 : decode b_U_tally 13 = .ok (.aload_n 0, 1) := by decide +kernel
theorem d_U_tally_14 : decode b_U_tally 14 = .ok (.getfield 28, 3) := by decide +kernel
theorem d_U_tally_17 : decode b_U_tally 17 = .ok (.aload_n 0, 1) := by decide +kernel
theorem d_U_tally_18 : decode b_U_tally 18 = .ok (.getfield 46, 3) := by decide +kernel
theorem d_U_tally_21 : decode b_U_tally 21 = .ok (.getfield 63, 3) := by decide +kernel
theorem d_U_tally_24 : decode b_U_tally 24 = .ok (.iload_n 1, 1) := by decide +kernel
theorem d_U_tally_25 : decode b_U_tally 25 = .ok (.iaload, 1) := by decide +kernel
theorem d_U_tally_26 : decode b_U_tally 26 = .ok (.aaload, 1) := by decide +kernel
theorem d_U_tally_27 : decode b_U_tally 27 = .ok (.iconst 0, 1) := by decide +kernel
theorem d_U_tally_28 : decode b_U_tally 28 = .ok (.invokestatic 120, 3) := by decide +kernel
theorem d_U_tally_31 : decode b_U_tally 31 = .ok (.iinc 1 1, 3) := by decide +kernel
theorem d_U_tally_34 : decode b_U_tally 34 = .ok (.goto (-32), 3) := by decide +kernel
theorem d_U_tally_37 : decode b_U_tally 37 = .ok (.iconst 0, 1) := by decide +kernel
theorem d_U_tally_38 : decode b_U_tally 38 = .ok (.istore_n 1, 1) := by decide +kernel
theorem d_U_tally_39 : decode b_U_tally 39 = .ok (.iload_n 1, 1) := by decide +kernel
theorem d_U_tally_40 : decode b_U_tally 40 = .ok (.aload_n 0, 1) := by decide +kernel
theorem d_U_tally_41 : decode b_U_tally 41 = .ok (.getfield 46, 3) := by decide +kernel
theorem d_U_tally_44 : decode b_U_tally 44 = .ok (.getfield 82, 3) := by decide +kernel
theorem d_U_tally_47 : decode b_U_tally 47 = .ok (.if_icmp .ge 48, 3) := by decide +kernel
theorem d_U_tally_50 : decode b_U_tally 50 = .ok (.aload_n 0, 1) := by decide +kernel
theorem d_U_tally_51 : decode b_U_tally 51 = .ok (.getfield 16, 3) := by decide +kernel
theorem d_U_tally_54 : decode b_U_tally 54 = .ok (.iload_n 1, 1) := by decide +kernel
theorem d_U_tally_55 : decode b_U_tally 55 = .ok (.iaload, 1) := by decide +kernel
theorem d_U_tally_56 : decode b_U_tally 56 = .ok (.ifCond .lt 33, 3) := by decide +kernel
theorem d_U_tally_59 : decode b_U_tally 59 = .ok (.aload_n 0, 1) := by decide +kernel
theorem d_U_tally_60 : decode b_U_tally 60 = .ok (.getfield 28, 3) := by decide +kernel
theorem d_U_tally_63 : decode b_U_tally 63 = .ok (.aload_n 0, 1) := by decide +kernel
theorem d_U_tally_64 : decode b_U_tally 64 = .ok (.getfield 46, 3) := by decide +kernel
theorem d_U_tally_67 : decode b_U_tally 67 = .ok (.getfield 95, 3) := by decide +kernel
theorem d_U_tally_70 : decode b_U_tally 70 = .ok (.iload_n 1, 1) := by decide +kernel
theorem d_U_tally_71 : decode b_U_tally 71 = .ok (.iaload, 1) := by decide +kernel
theorem d_U_tally_72 : decode b_U_tally 72 = .ok (.aaload, 1) := by decide +kernel
theorem d_U_tally_73 : decode b_U_tally 73 = .ok (.aload_n 0, 1) := by decide +kernel
theorem d_U_tally_74 : decode b_U_tally 74 = .ok (.getfield 16, 3) := by decide +kernel
theorem d_U_tally_77 : decode b_U_tally 77 = .ok (.iload_n 1, 1) := by decide +kernel
theorem d_U_tally_78 : decode b_U_tally 78 = .ok (.iaload, 1) := by decide +kernel
theorem d_U_tally_79 : decode b_U_tally 79 = .ok (.dup2, 1) := by decide +kernel
theorem d_U_tally_80 : decode b_U_tally 80 = .ok (.iaload, 1) := by decide +kernel
theorem d_U_tally_81 : decode b_U_tally 81 = .ok (.aload_n 0, 1) := by decide +kernel
theorem d_U_tally_82 : decode b_U_tally 82 = .ok (.getfield 20, 3) := by decide +kernel
theorem d_U_tally_85 : decode b_U_tally 85 = .ok (.iload_n 1, 1) := by decide +kernel
theorem d_U_tally_86 : decode b_U_tally 86 = .ok (.iaload, 1) := by decide +kernel
theorem d_U_tally_87 : decode b_U_tally 87 = .ok (.iadd, 1) := by decide +kernel
theorem d_U_tally_88 : decode b_U_tally 88 = .ok (.iastore, 1) := by decide +kernel
theorem d_U_tally_89 : decode b_U_tally 89 = .ok (.iinc 1 1, 3) := by decide +kernel
theorem d_U_tally_92 : decode b_U_tally 92 = .ok (.goto (-53), 3) := by decide +kernel
theorem d_U_tally_95 : decode b_U_tally 95 = .ok (.iconst 0, 1) := by decide +kernel
theorem d_U_tally_96 : decode b_U_tally 96 = .ok (.istore_n 1, 1) := by decide +kernel
theorem d_U_tally_97 : decode b_U_tally 97 = .ok (.iload_n 1, 1) := by decide +kernel
theorem d_U_tally_98 : decode b_U_tally 98 = .ok (.aload_n 0, 1) := by decide +kernel
theorem d_U_tally_99 : decode b_U_tally 99 = .ok (.getfield 46, 3) := by decide +kernel
theorem d_U_tally_102 : decode b_U_tally 102 = .ok (.getfield 58, 3) := by decide +kernel
theorem d_U_tally_105 : decode b_U_tally 105 = .ok (.if_icmp .ge 22, 3) := by decide +kernel
theorem d_U_tally_108 : decode b_U_tally 108 = .ok (.aload_n 0, 1) := by decide +kernel
theorem d_U_tally_109 : decode b_U_tally 109 = .ok (.aload_n 0, 1) := by decide +kernel
theorem d_U_tally_110 : decode b_U_tally 110 = .ok (.getfield 46, 3) := by decide +kernel
theorem d_U_tally_113 : decode b_U_tally 113 = .ok (.getfield 63, 3) := by decide +kernel
theorem d_U_tally_116 : decode b_U_tally 116 = .ok (.iload_n 1, 1) := by decide +kernel
theorem d_U_tally_117 : decode b_U_tally 117 = .ok (.iaload, 1) := by decide +kernel
theorem d_U_tally_118 : decode b_U_tally 118 = .ok (.invokevirtual 126, 3) := by decide +kernel
theorem d_U_tally_121 : decode b_U_tally 121 = .ok (.iinc 1 1, 3) := by decide +kernel
theorem d_U_tally_124 : decode b_U_tally 124 = .ok (.goto (-27), 3) := by decide +kernel
theorem d_U_tally_127 : decode b_U_tally 127 = .ok (.return_, 1) := by decide +kernel
abbrev b_W_votes : ByteArray := prog_1_method_13_code
abbrev y_W_votes : MethodName := ⟨"WhoRules", "votes", "(III)I"⟩
theorem d_W_votes_0 : decode b_W_votes 0 = .ok (.aload_n 0, 1) := by decide +kernel
theorem d_W_votes_1 : decode b_W_votes 1 = .ok (.getfield 18, 3) := by decide +kernel
theorem d_W_votes_4 : decode b_W_votes 4 = .ok (.iload_n 1, 1) := by decide +kernel
theorem d_W_votes_5 : decode b_W_votes 5 = .ok (.invokevirtual 87, 3) := by decide +kernel
theorem d_W_votes_8 : decode b_W_votes 8 = .ok (.ifCond .eq 21, 3) := by decide +kernel
theorem d_W_votes_11 : decode b_W_votes 11 = .ok (.aload_n 0, 1) := by decide +kernel
theorem d_W_votes_12 : decode b_W_votes 12 = .ok (.getfield 18, 3) := by decide +kernel
theorem d_W_votes_15 : decode b_W_votes 15 = .ok (.iload_n 2, 1) := by decide +kernel
theorem d_W_votes_16 : decode b_W_votes 16 = .ok (.invokevirtual 91, 3) := by decide +kernel
theorem d_W_votes_19 : decode b_W_votes 19 = .ok (.ifCond .eq 10, 3) := by decide +kernel
theorem d_W_votes_22 : decode b_W_votes 22 = .ok (.iload_n 3, 1) := by decide +kernel
theorem d_W_votes_23 : decode b_W_votes 23 = .ok (.invokestatic 132, 3) := by decide +kernel
theorem d_W_votes_26 : decode b_W_votes 26 = .ok (.ifCond .ne 5, 3) := by decide +kernel
theorem d_W_votes_29 : decode b_W_votes 29 = .ok (.iconst (-1), 1) := by decide +kernel
theorem d_W_votes_30 : decode b_W_votes 30 = .ok (.ireturn, 1) := by decide +kernel
theorem d_W_votes_31 : decode b_W_votes 31 = .ok (.aload_n 0, 1) := by decide +kernel
theorem d_W_votes_32 : decode b_W_votes 32 = .ok (.getfield 34, 3) := by decide +kernel
theorem d_W_votes_35 : decode b_W_votes 35 = .ok (.iload_n 3, 1) := by decide +kernel
theorem d_W_votes_36 : decode b_W_votes 36 = .ok (.invokevirtual 158, 3) := by decide +kernel
theorem d_W_votes_39 : decode b_W_votes 39 = .ok (.aload_n 0, 1) := by decide +kernel
theorem d_W_votes_40 : decode b_W_votes 40 = .ok (.getfield 34, 3) := by decide +kernel
theorem d_W_votes_43 : decode b_W_votes 43 = .ok (.invokevirtual 175, 3) := by decide +kernel
theorem d_W_votes_46 : decode b_W_votes 46 = .ok (.aload_n 0, 1) := by decide +kernel
theorem d_W_votes_47 : decode b_W_votes 47 = .ok (.getfield 34, 3) := by decide +kernel
theorem d_W_votes_50 : decode b_W_votes 50 = .ok (.getfield 178, 3) := by decide +kernel
theorem d_W_votes_53 : decode b_W_votes 53 = .ok (.iload_n 1, 1) := by decide +kernel
theorem d_W_votes_54 : decode b_W_votes 54 = .ok (.aaload, 1) := by decide +kernel
theorem d_W_votes_55 : decode b_W_votes 55 = .ok (.iload_n 2, 1) := by decide +kernel
theorem d_W_votes_56 : decode b_W_votes 56 = .ok (.iaload, 1) := by decide +kernel
theorem d_W_votes_57 : decode b_W_votes 57 = .ok (.ireturn, 1) := by decide +kernel
abbrev b_R_isSet : ByteArray := prog_10_method_8_code
abbrev y_R_isSet : MethodName := ⟨"WhoRules$Register", "isSet", "(I)Z"⟩
theorem d_R_isSet_0 : decode b_R_isSet 0 = .ok (.iload_n 1, 1) := by decide +kernel
theorem d_R_isSet_1 : decode b_R_isSet 1 = .ok (.aload_n 0, 1) := by decide +kernel
theorem d_R_isSet_2 : decode b_R_isSet 2 = .ok (.getfield 57, 3) := by decide +kernel
theorem d_R_isSet_5 : decode b_R_isSet 5 = .ok (.iushr, 1) := by decide +kernel
theorem d_R_isSet_6 : decode b_R_isSet 6 = .ok (.ifCond .ne 7, 3) := by decide +kernel
theorem d_R_isSet_9 : decode b_R_isSet 9 = .ok (.iconst 1, 1) := by decide +kernel
theorem d_R_isSet_10 : decode b_R_isSet 10 = .ok (.goto 4, 3) := by decide +kernel
theorem d_R_isSet_13 : decode b_R_isSet 13 = .ok (.iconst 0, 1) := by decide +kernel
theorem d_R_isSet_14 : decode b_R_isSet 14 = .ok (.ireturn, 1) := by decide +kernel
abbrev b_U_carriedBySet : ByteArray := prog_11_method_10_code
abbrev y_U_carriedBySet : MethodName := ⟨"WhoRules$Rule", "carriedBySet", "(II)Z"⟩
theorem d_U_carriedBySet_0 : decode b_U_carriedBySet 0 = .ok (.iconst 0, 1) := by decide +kernel
theorem d_U_carriedBySet_1 : decode b_U_carriedBySet 1 = .ok (.istore_n 3, 1) := by decide +kernel
theorem d_U_carriedBySet_2 : decode b_U_carriedBySet 2 = .ok (.iconst 0, 1) := by decide +kernel
theorem d_U_carriedBySet_3 : decode b_U_carriedBySet 3 = .ok (.istore 4, 2) := by decide +kernel
theorem d_U_carriedBySet_5 : decode b_U_carriedBySet 5 = .ok (.iload 4, 2) := by decide +kernel
theorem d_U_carriedBySet_7 : decode b_U_carriedBySet 7 = .ok (.aload_n 0, 1) := by decide +kernel
theorem d_U_carriedBySet_8 : decode b_U_carriedBySet 8 = .ok (.getfield 46, 3) := by decide +kernel
theorem d_U_carriedBySet_11 : decode b_U_carriedBySet 11 = .ok (.getfield 129, 3) := by decide +kernel
theorem d_U_carriedBySet_14 : decode b_U_carriedBySet 14 = .ok (.if_icmp .ge 35, 3) := by decide +kernel
theorem d_U_carriedBySet_17 : decode b_U_carriedBySet 17 = .ok (.iload_n 3, 1) := by decide +kernel
theorem d_U_carriedBySet_18 : decode b_U_carriedBySet 18 = .ok (.iload_n 2, 1) := by decide +kernel
theorem d_U_carriedBySet_19 : decode b_U_carriedBySet 19 = .ok (.iload 4, 2) := by decide +kernel
theorem d_U_carriedBySet_21 : decode b_U_carriedBySet 21 = .ok (.ishr, 1) := by decide +kernel
theorem d_U_carriedBySet_22 : decode b_U_carriedBySet 22 = .ok (.iconst 1, 1) := by decide +kernel
theorem d_U_carriedBySet_23 : decode b_U_carriedBySet 23 = .ok (.iand, 1) := by decide +kernel
theorem d_U_carriedBySet_24 : decode b_U_carriedBySet 24 = .ok (.iconst 1, 1) := by decide +kernel
theorem d_U_carriedBySet_25 : decode b_U_carriedBySet 25 = .ok (.if_icmp .ne 15, 3) := by decide +kernel
theorem d_U_carriedBySet_28 : decode b_U_carriedBySet 28 = .ok (.aload_n 0, 1) := by decide +kernel
theorem d_U_carriedBySet_29 : decode b_U_carriedBySet 29 = .ok (.getfield 28, 3) := by decide +kernel
theorem d_U_carriedBySet_32 : decode b_U_carriedBySet 32 = .ok (.iload_n 1, 1) := by decide +kernel
theorem d_U_carriedBySet_33 : decode b_U_carriedBySet 33 = .ok (.aaload, 1) := by decide +kernel
theorem d_U_carriedBySet_34 : decode b_U_carriedBySet 34 = .ok (.iload 4, 2) := by decide +kernel
theorem d_U_carriedBySet_36 : decode b_U_carriedBySet 36 = .ok (.iaload, 1) := by decide +kernel
theorem d_U_carriedBySet_37 : decode b_U_carriedBySet 37 = .ok (.goto 4, 3) := by decide +kernel
theorem d_U_carriedBySet_40 : decode b_U_carriedBySet 40 = .ok (.iconst 0, 1) := by decide +kernel
theorem d_U_carriedBySet_41 : decode b_U_carriedBySet 41 = .ok (.iadd, 1) := by decide +kernel
theorem d_U_carriedBySet_42 : decode b_U_carriedBySet 42 = .ok (.istore_n 3, 1) := by decide +kernel
theorem d_U_carriedBySet_43 : decode b_U_carriedBySet 43 = .ok (.iinc 4 1, 3) := by decide +kernel
theorem d_U_carriedBySet_46 : decode b_U_carriedBySet 46 = .ok (.goto (-41), 3) := by decide +kernel
theorem d_U_carriedBySet_49 : decode b_U_carriedBySet 49 = .ok (.iload_n 3, 1) := by decide +kernel
theorem d_U_carriedBySet_50 : decode b_U_carriedBySet 50 = .ok (.aload_n 0, 1) := by decide +kernel
theorem d_U_carriedBySet_51 : decode b_U_carriedBySet 51 = .ok (.getfield 34, 3) := by decide +kernel
theorem d_U_carriedBySet_54 : decode b_U_carriedBySet 54 = .ok (.iload_n 1, 1) := by decide +kernel
theorem d_U_carriedBySet_55 : decode b_U_carriedBySet 55 = .ok (.iaload, 1) := by decide +kernel
theorem d_U_carriedBySet_56 : decode b_U_carriedBySet 56 = .ok (.if_icmp .le 30, 3) := by decide +kernel
theorem d_U_carriedBySet_59 : decode b_U_carriedBySet 59 = .ok (.aload_n 0, 1) := by decide +kernel
theorem d_U_carriedBySet_60 : decode b_U_carriedBySet 60 = .ok (.getfield 31, 3) := by decide +kernel
theorem d_U_carriedBySet_63 : decode b_U_carriedBySet 63 = .ok (.iload_n 1, 1) := by decide +kernel
theorem d_U_carriedBySet_64 : decode b_U_carriedBySet 64 = .ok (.iaload, 1) := by decide +kernel
theorem d_U_carriedBySet_65 : decode b_U_carriedBySet 65 = .ok (.ifCond .lt 17, 3) := by decide +kernel
theorem d_U_carriedBySet_68 : decode b_U_carriedBySet 68 = .ok (.iload_n 2, 1) := by decide +kernel
theorem d_U_carriedBySet_69 : decode b_U_carriedBySet 69 = .ok (.aload_n 0, 1) := by decide +kernel
theorem d_U_carriedBySet_70 : decode b_U_carriedBySet 70 = .ok (.getfield 31, 3) := by decide +kernel
theorem d_U_carriedBySet_73 : decode b_U_carriedBySet 73 = .ok (.iload_n 1, 1) := by decide +kernel
theorem d_U_carriedBySet_74 : decode b_U_carriedBySet 74 = .ok (.iaload, 1) := by decide +kernel
theorem d_U_carriedBySet_75 : decode b_U_carriedBySet 75 = .ok (.ishr, 1) := by decide +kernel
theorem d_U_carriedBySet_76 : decode b_U_carriedBySet 76 = .ok (.iconst 1, 1) := by decide +kernel
theorem d_U_carriedBySet_77 : decode b_U_carriedBySet 77 = .ok (.iand, 1) := by decide +kernel
theorem d_U_carriedBySet_78 : decode b_U_carriedBySet 78 = .ok (.iconst 1, 1) := by decide +kernel
theorem d_U_carriedBySet_79 : decode b_U_carriedBySet 79 = .ok (.if_icmp .ne 7, 3) := by decide +kernel
theorem d_U_carriedBySet_82 : decode b_U_carriedBySet 82 = .ok (.iconst 1, 1) := by decide +kernel
theorem d_U_carriedBySet_83 : decode b_U_carriedBySet 83 = .ok (.goto 4, 3) := by decide +kernel
theorem d_U_carriedBySet_86 : decode b_U_carriedBySet 86 = .ok (.iconst 0, 1) := by decide +kernel
theorem d_U_carriedBySet_87 : decode b_U_carriedBySet 87 = .ok (.ireturn, 1) := by decide +kernel
abbrev b_W_carry : ByteArray := prog_1_method_14_code
abbrev y_W_carry : MethodName := ⟨"WhoRules", "carry", "(III)I"⟩
theorem d_W_carry_0 : decode b_W_carry 0 = .ok (.aload_n 0, 1) := by decide +kernel
theorem d_W_carry_1 : decode b_W_carry 1 = .ok (.getfield 18, 3) := by decide +kernel
theorem d_W_carry_4 : decode b_W_carry 4 = .ok (.iload_n 1, 1) := by decide +kernel
theorem d_W_carry_5 : decode b_W_carry 5 = .ok (.invokevirtual 87, 3) := by decide +kernel
theorem d_W_carry_8 : decode b_W_carry 8 = .ok (.ifCond .eq 10, 3) := by decide +kernel
theorem d_W_carry_11 : decode b_W_carry 11 = .ok (.iload_n 3, 1) := by decide +kernel
theorem d_W_carry_12 : decode b_W_carry 12 = .ok (.invokestatic 132, 3) := by decide +kernel
theorem d_W_carry_15 : decode b_W_carry 15 = .ok (.ifCond .ne 5, 3) := by decide +kernel
theorem d_W_carry_18 : decode b_W_carry 18 = .ok (.iconst (-1), 1) := by decide +kernel
theorem d_W_carry_19 : decode b_W_carry 19 = .ok (.ireturn, 1) := by decide +kernel
theorem d_W_carry_20 : decode b_W_carry 20 = .ok (.aload_n 0, 1) := by decide +kernel
theorem d_W_carry_21 : decode b_W_carry 21 = .ok (.getfield 18, 3) := by decide +kernel
theorem d_W_carry_24 : decode b_W_carry 24 = .ok (.iload_n 2, 1) := by decide +kernel
theorem d_W_carry_25 : decode b_W_carry 25 = .ok (.invokevirtual 180, 3) := by decide +kernel
theorem d_W_carry_28 : decode b_W_carry 28 = .ok (.ifCond .ne 6, 3) := by decide +kernel
theorem d_W_carry_31 : decode b_W_carry 31 = .ok (.bipush (-2), 2) := by decide +kernel
theorem d_W_carry_33 : decode b_W_carry 33 = .ok (.ireturn, 1) := by decide +kernel
theorem d_W_carry_34 : decode b_W_carry 34 = .ok (.aload_n 0, 1) := by decide +kernel
theorem d_W_carry_35 : decode b_W_carry 35 = .ok (.getfield 34, 3) := by decide +kernel
theorem d_W_carry_38 : decode b_W_carry 38 = .ok (.iload_n 3, 1) := by decide +kernel
theorem d_W_carry_39 : decode b_W_carry 39 = .ok (.invokevirtual 158, 3) := by decide +kernel
theorem d_W_carry_42 : decode b_W_carry 42 = .ok (.aload_n 0, 1) := by decide +kernel
theorem d_W_carry_43 : decode b_W_carry 43 = .ok (.getfield 34, 3) := by decide +kernel
theorem d_W_carry_46 : decode b_W_carry 46 = .ok (.invokevirtual 175, 3) := by decide +kernel
theorem d_W_carry_49 : decode b_W_carry 49 = .ok (.aload_n 0, 1) := by decide +kernel
theorem d_W_carry_50 : decode b_W_carry 50 = .ok (.getfield 34, 3) := by decide +kernel
theorem d_W_carry_53 : decode b_W_carry 53 = .ok (.iload_n 1, 1) := by decide +kernel
theorem d_W_carry_54 : decode b_W_carry 54 = .ok (.iload_n 2, 1) := by decide +kernel
theorem d_W_carry_55 : decode b_W_carry 55 = .ok (.invokevirtual 183, 3) := by decide +kernel
theorem d_W_carry_58 : decode b_W_carry 58 = .ok (.ifCond .eq 7, 3) := by decide +kernel
theorem d_W_carry_61 : decode b_W_carry 61 = .ok (.iconst 1, 1) := by decide +kernel
theorem d_W_carry_62 : decode b_W_carry 62 = .ok (.goto 4, 3) := by decide +kernel
theorem d_W_carry_65 : decode b_W_carry 65 = .ok (.iconst 0, 1) := by decide +kernel
theorem d_W_carry_66 : decode b_W_carry 66 = .ok (.ireturn, 1) := by decide +kernel
abbrev b_U_clear : ByteArray := prog_11_method_12_code
abbrev y_U_clear : MethodName := ⟨"WhoRules$Rule", "clear", "()V"⟩
theorem d_U_clear_0 : decode b_U_clear 0 = .ok (.aload_n 0, 1) := by decide +kernel
theorem d_U_clear_1 : decode b_U_clear 1 = .ok (.iconst 0, 1) := by decide +kernel
theorem d_U_clear_2 : decode b_U_clear 2 = .ok (.putfield 137, 3) := by decide +kernel
theorem d_U_clear_5 : decode b_U_clear 5 = .ok (.iconst 0, 1) := by decide +kernel
theorem d_U_clear_6 : decode b_U_clear 6 = .ok (.istore_n 1, 1) := by decide +kernel
theorem d_U_clear_7 : decode b_U_clear 7 = .ok (.iload_n 1, 1) := by decide +kernel
theorem d_U_clear_8 : decode b_U_clear 8 = .ok (.aload_n 0, 1) := by decide +kernel
theorem d_U_clear_9 : decode b_U_clear 9 = .ok (.getfield 46, 3) := by decide +kernel
theorem d_U_clear_12 : decode b_U_clear 12 = .ok (.getfield 129, 3) := by decide +kernel
theorem d_U_clear_15 : decode b_U_clear 15 = .ok (.if_icmp .ge 40, 3) := by decide +kernel
theorem d_U_clear_18 : decode b_U_clear 18 = .ok (.aload_n 0, 1) := by decide +kernel
theorem d_U_clear_19 : decode b_U_clear 19 = .ok (.getfield 37, 3) := by decide +kernel
theorem d_U_clear_22 : decode b_U_clear 22 = .ok (.iload_n 1, 1) := by decide +kernel
theorem d_U_clear_23 : decode b_U_clear 23 = .ok (.aload_n 0, 1) := by decide +kernel
theorem d_U_clear_24 : decode b_U_clear 24 = .ok (.getfield 46, 3) := by decide +kernel
theorem d_U_clear_27 : decode b_U_clear 27 = .ok (.iload_n 1, 1) := by decide +kernel
theorem d_U_clear_28 : decode b_U_clear 28 = .ok (.invokevirtual 140, 3) := by decide +kernel
theorem d_U_clear_31 : decode b_U_clear 31 = .ok (.ifCond .eq 8, 3) := by decide +kernel
theorem d_U_clear_34 : decode b_U_clear 34 = .ok (.bipush (-5), 2) := by decide +kernel
theorem d_U_clear_36 : decode b_U_clear 36 = .ok (.goto 12, 3) := by decide +kernel
theorem d_U_clear_39 : decode b_U_clear 39 = .ok (.aload_n 0, 1) := by decide +kernel
theorem d_U_clear_40 : decode b_U_clear 40 = .ok (.getfield 46, 3) := by decide +kernel
theorem d_U_clear_43 : decode b_U_clear 43 = .ok (.getfield 143, 3) := by decide +kernel
theorem d_U_clear_46 : decode b_U_clear 46 = .ok (.iload_n 1, 1) := by decide +kernel
theorem d_U_clear_47 : decode b_U_clear 47 = .ok (.iaload, 1) := by decide +kernel
theorem d_U_clear_48 : decode b_U_clear 48 = .ok (.iastore, 1) := by decide +kernel
theorem d_U_clear_49 : decode b_U_clear 49 = .ok (.iinc 1 1, 3) := by decide +kernel
theorem d_U_clear_52 : decode b_U_clear 52 = .ok (.goto (-45), 3) := by decide +kernel
theorem d_U_clear_55 : decode b_U_clear 55 = .ok (.iconst 0, 1) := by decide +kernel
theorem d_U_clear_56 : decode b_U_clear 56 = .ok (.istore_n 1, 1) := by decide +kernel
theorem d_U_clear_57 : decode b_U_clear 57 = .ok (.iload_n 1, 1) := by decide +kernel
theorem d_U_clear_58 : decode b_U_clear 58 = .ok (.aload_n 0, 1) := by decide +kernel
theorem d_U_clear_59 : decode b_U_clear 59 = .ok (.getfield 46, 3) := by decide +kernel
theorem d_U_clear_62 : decode b_U_clear 62 = .ok (.getfield 58, 3) := by decide +kernel
theorem d_U_clear_65 : decode b_U_clear 65 = .ok (.if_icmp .ge 81, 3) := by decide +kernel
theorem d_U_clear_68 : decode b_U_clear 68 = .ok (.aload_n 0, 1) := by decide +kernel
theorem d_U_clear_69 : decode b_U_clear 69 = .ok (.getfield 46, 3) := by decide +kernel
theorem d_U_clear_72 : decode b_U_clear 72 = .ok (.getfield 63, 3) := by decide +kernel
theorem d_U_clear_75 : decode b_U_clear 75 = .ok (.iload_n 1, 1) := by decide +kernel
theorem d_U_clear_76 : decode b_U_clear 76 = .ok (.iaload, 1) := by decide +kernel
theorem d_U_clear_77 : decode b_U_clear 77 = .ok (.istore_n 2, 1) := by decide +kernel
theorem d_U_clear_78 : decode b_U_clear 78 = .ok (.aload_n 0, 1) := by decide +kernel
theorem d_U_clear_79 : decode b_U_clear 79 = .ok (.getfield 40, 3) := by decide +kernel
theorem d_U_clear_82 : decode b_U_clear 82 = .ok (.iload_n 2, 1) := by decide +kernel
theorem d_U_clear_83 : decode b_U_clear 83 = .ok (.aaload, 1) := by decide +kernel
theorem d_U_clear_84 : decode b_U_clear 84 = .ok (.iconst 0, 1) := by decide +kernel
theorem d_U_clear_85 : decode b_U_clear 85 = .ok (.invokestatic 120, 3) := by decide +kernel
theorem d_U_clear_88 : decode b_U_clear 88 = .ok (.iconst 0, 1) := by decide +kernel
theorem d_U_clear_89 : decode b_U_clear 89 = .ok (.istore_n 3, 1) := by decide +kernel
theorem d_U_clear_90 : decode b_U_clear 90 = .ok (.iload_n 3, 1) := by decide +kernel
theorem d_U_clear_91 : decode b_U_clear 91 = .ok (.aload_n 0, 1) := by decide +kernel
theorem d_U_clear_92 : decode b_U_clear 92 = .ok (.getfield 46, 3) := by decide +kernel
theorem d_U_clear_95 : decode b_U_clear 95 = .ok (.getfield 129, 3) := by decide +kernel
theorem d_U_clear_98 : decode b_U_clear 98 = .ok (.if_icmp .ge 42, 3) := by decide +kernel
theorem d_U_clear_101 : decode b_U_clear 101 = .ok (.aload_n 0, 1) := by decide +kernel
theorem d_U_clear_102 : decode b_U_clear 102 = .ok (.getfield 37, 3) := by decide +kernel
theorem d_U_clear_105 : decode b_U_clear 105 = .ok (.iload_n 3, 1) := by decide +kernel
theorem d_U_clear_106 : decode b_U_clear 106 = .ok (.iaload, 1) := by decide +kernel
theorem d_U_clear_107 : decode b_U_clear 107 = .ok (.ifCond .lt 27, 3) := by decide +kernel
theorem d_U_clear_110 : decode b_U_clear 110 = .ok (.aload_n 0, 1) := by decide +kernel
theorem d_U_clear_111 : decode b_U_clear 111 = .ok (.getfield 40, 3) := by decide +kernel
theorem d_U_clear_114 : decode b_U_clear 114 = .ok (.iload_n 2, 1) := by decide +kernel
theorem d_U_clear_115 : decode b_U_clear 115 = .ok (.aaload, 1) := by decide +kernel
theorem d_U_clear_116 : decode b_U_clear 116 = .ok (.aload_n 0, 1) := by decide +kernel
theorem d_U_clear_117 : decode b_U_clear 117 = .ok (.getfield 37, 3) := by decide +kernel
theorem d_U_clear_120 : decode b_U_clear 120 = .ok (.iload_n 3, 1) := by decide +kernel
theorem d_U_clear_121 : decode b_U_clear 121 = .ok (.iaload, 1) := by decide +kernel
theorem d_U_clear_122 : decode b_U_clear 122 = .ok (.dup2, 1) := by decide +kernel
theorem d_U_clear_123 : decode b_U_clear 123 = .ok (.iaload, 1) := by decide +kernel
theorem d_U_clear_124 : decode b_U_clear 124 = .ok (.aload_n 0, 1) := by decide +kernel
theorem d_U_clear_125 : decode b_U_clear 125 = .ok (.getfield 28, 3) := by decide +kernel
theorem d_U_clear_128 : decode b_U_clear 128 = .ok (.iload_n 2, 1) := by decide +kernel
theorem d_U_clear_129 : decode b_U_clear 129 = .ok (.aaload, 1) := by decide +kernel
theorem d_U_clear_130 : decode b_U_clear 130 = .ok (.iload_n 3, 1) := by decide +kernel
theorem d_U_clear_131 : decode b_U_clear 131 = .ok (.iaload, 1) := by decide +kernel
theorem d_U_clear_132 : decode b_U_clear 132 = .ok (.iadd, 1) := by decide +kernel
theorem d_U_clear_133 : decode b_U_clear 133 = .ok (.iastore, 1) := by decide +kernel
theorem d_U_clear_134 : decode b_U_clear 134 = .ok (.iinc 3 1, 3) := by decide +kernel
theorem d_U_clear_137 : decode b_U_clear 137 = .ok (.goto (-47), 3) := by decide +kernel
theorem d_U_clear_140 : decode b_U_clear 140 = .ok (.iinc 1 1, 3) := by decide +kernel
theorem d_U_clear_143 : decode b_U_clear 143 = .ok (.goto (-86), 3) := by decide +kernel
theorem d_U_clear_146 : decode b_U_clear 146 = .ok (.return_, 1) := by decide +kernel
abbrev b_U_carriedByGroup : ByteArray := prog_11_method_11_code
abbrev y_U_carriedByGroup : MethodName := ⟨"WhoRules$Rule", "carriedByGroup", "(II)Z"⟩
theorem d_U_carriedByGroup_0 : decode b_U_carriedByGroup 0 = .ok (.aload_n 0, 1) := by decide +kernel
theorem d_U_carriedByGroup_1 : decode b_U_carriedByGroup 1 = .ok (.getfield 40, 3) := by decide +kernel
theorem d_U_carriedByGroup_4 : decode b_U_carriedByGroup 4 = .ok (.iload_n 1, 1) := by decide +kernel
theorem d_U_carriedByGroup_5 : decode b_U_carriedByGroup 5 = .ok (.aaload, 1) := by decide +kernel
theorem d_U_carriedByGroup_6 : decode b_U_carriedByGroup 6 = .ok (.iload_n 2, 1) := by decide +kernel
theorem d_U_carriedByGroup_7 : decode b_U_carriedByGroup 7 = .ok (.iaload, 1) := by decide +kernel
theorem d_U_carriedByGroup_8 : decode b_U_carriedByGroup 8 = .ok (.aload_n 0, 1) := by decide +kernel
theorem d_U_carriedByGroup_9 : decode b_U_carriedByGroup 9 = .ok (.getfield 34, 3) := by decide +kernel
theorem d_U_carriedByGroup_12 : decode b_U_carriedByGroup 12 = .ok (.iload_n 1, 1) := by decide +kernel
theorem d_U_carriedByGroup_13 : decode b_U_carriedByGroup 13 = .ok (.iaload, 1) := by decide +kernel
theorem d_U_carriedByGroup_14 : decode b_U_carriedByGroup 14 = .ok (.if_icmp .le 31, 3) := by decide +kernel
theorem d_U_carriedByGroup_17 : decode b_U_carriedByGroup 17 = .ok (.aload_n 0, 1) := by decide +kernel
theorem d_U_carriedByGroup_18 : decode b_U_carriedByGroup 18 = .ok (.getfield 31, 3) := by decide +kernel
theorem d_U_carriedByGroup_21 : decode b_U_carriedByGroup 21 = .ok (.iload_n 1, 1) := by decide +kernel
theorem d_U_carriedByGroup_22 : decode b_U_carriedByGroup 22 = .ok (.iaload, 1) := by decide +kernel
theorem d_U_carriedByGroup_23 : decode b_U_carriedByGroup 23 = .ok (.ifCond .lt 18, 3) := by decide +kernel
theorem d_U_carriedByGroup_26 : decode b_U_carriedByGroup 26 = .ok (.aload_n 0, 1) := by decide +kernel
theorem d_U_carriedByGroup_27 : decode b_U_carriedByGroup 27 = .ok (.getfield 37, 3) := by decide +kernel
theorem d_U_carriedByGroup_30 : decode b_U_carriedByGroup 30 = .ok (.aload_n 0, 1) := by decide +kernel
theorem d_U_carriedByGroup_31 : decode b_U_carriedByGroup 31 = .ok (.getfield 31, 3) := by decide +kernel
theorem d_U_carriedByGroup_34 : decode b_U_carriedByGroup 34 = .ok (.iload_n 1, 1) := by decide +kernel
theorem d_U_carriedByGroup_35 : decode b_U_carriedByGroup 35 = .ok (.iaload, 1) := by decide +kernel
theorem d_U_carriedByGroup_36 : decode b_U_carriedByGroup 36 = .ok (.iaload, 1) := by decide +kernel
theorem d_U_carriedByGroup_37 : decode b_U_carriedByGroup 37 = .ok (.iload_n 2, 1) := by decide +kernel
theorem d_U_carriedByGroup_38 : decode b_U_carriedByGroup 38 = .ok (.if_icmp .ne 7, 3) := by decide +kernel
theorem d_U_carriedByGroup_41 : decode b_U_carriedByGroup 41 = .ok (.iconst 1, 1) := by decide +kernel
theorem d_U_carriedByGroup_42 : decode b_U_carriedByGroup 42 = .ok (.goto 4, 3) := by decide +kernel
theorem d_U_carriedByGroup_45 : decode b_U_carriedByGroup 45 = .ok (.iconst 0, 1) := by decide +kernel
theorem d_U_carriedByGroup_46 : decode b_U_carriedByGroup 46 = .ok (.ireturn, 1) := by decide +kernel
abbrev b_U_leastRuler : ByteArray := prog_11_method_17_code
abbrev y_U_leastRuler : MethodName := ⟨"WhoRules$Rule", "leastRuler", "(I)I"⟩
theorem d_U_leastRuler_0 : decode b_U_leastRuler 0 = .ok (.iconst 0, 1) := by decide +kernel
theorem d_U_leastRuler_1 : decode b_U_leastRuler 1 = .ok (.istore_n 2, 1) := by decide +kernel
theorem d_U_leastRuler_2 : decode b_U_leastRuler 2 = .ok (.iload_n 2, 1) := by decide +kernel
theorem d_U_leastRuler_3 : decode b_U_leastRuler 3 = .ok (.aload_n 0, 1) := by decide +kernel
theorem d_U_leastRuler_4 : decode b_U_leastRuler 4 = .ok (.getfield 46, 3) := by decide +kernel
theorem d_U_leastRuler_7 : decode b_U_leastRuler 7 = .ok (.getfield 171, 3) := by decide +kernel
theorem d_U_leastRuler_10 : decode b_U_leastRuler 10 = .ok (.if_icmp .ge 36, 3) := by decide +kernel
theorem d_U_leastRuler_13 : decode b_U_leastRuler 13 = .ok (.aload_n 0, 1) := by decide +kernel
theorem d_U_leastRuler_14 : decode b_U_leastRuler 14 = .ok (.iload_n 1, 1) := by decide +kernel
theorem d_U_leastRuler_15 : decode b_U_leastRuler 15 = .ok (.aload_n 0, 1) := by decide +kernel
theorem d_U_leastRuler_16 : decode b_U_leastRuler 16 = .ok (.getfield 46, 3) := by decide +kernel
theorem d_U_leastRuler_19 : decode b_U_leastRuler 19 = .ok (.getfield 174, 3) := by decide +kernel
theorem d_U_leastRuler_22 : decode b_U_leastRuler 22 = .ok (.iload_n 2, 1) := by decide +kernel
theorem d_U_leastRuler_23 : decode b_U_leastRuler 23 = .ok (.iaload, 1) := by decide +kernel
theorem d_U_leastRuler_24 : decode b_U_leastRuler 24 = .ok (.invokevirtual 149, 3) := by decide +kernel
theorem d_U_leastRuler_27 : decode b_U_leastRuler 27 = .ok (.ifCond .eq 13, 3) := by decide +kernel
theorem d_U_leastRuler_30 : decode b_U_leastRuler 30 = .ok (.aload_n 0, 1) := by decide +kernel
theorem d_U_leastRuler_31 : decode b_U_leastRuler 31 = .ok (.getfield 46, 3) := by decide +kernel
theorem d_U_leastRuler_34 : decode b_U_leastRuler 34 = .ok (.getfield 174, 3) := by decide +kernel
theorem d_U_leastRuler_37 : decode b_U_leastRuler 37 = .ok (.iload_n 2, 1) := by decide +kernel
theorem d_U_leastRuler_38 : decode b_U_leastRuler 38 = .ok (.iaload, 1) := by decide +kernel
theorem d_U_leastRuler_39 : decode b_U_leastRuler 39 = .ok (.ireturn, 1) := by decide +kernel
theorem d_U_leastRuler_40 : decode b_U_leastRuler 40 = .ok (.iinc 2 1, 3) := by decide +kernel
theorem d_U_leastRuler_43 : decode b_U_leastRuler 43 = .ok (.goto (-41), 3) := by decide +kernel
theorem d_U_leastRuler_46 : decode b_U_leastRuler 46 = .ok (.bipush (-5), 2) := by decide +kernel
theorem d_U_leastRuler_48 : decode b_U_leastRuler 48 = .ok (.ireturn, 1) := by decide +kernel
abbrev b_U_crown : ByteArray := prog_11_method_13_code
abbrev y_U_crown : MethodName := ⟨"WhoRules$Rule", "crown", "(II)V"⟩
theorem d_U_crown_0 : decode b_U_crown 0 = .ok (.aload_n 0, 1) := by decide +kernel
theorem d_U_crown_1 : decode b_U_crown 1 = .ok (.getfield 37, 3) := by decide +kernel
theorem d_U_crown_4 : decode b_U_crown 4 = .ok (.iload_n 1, 1) := by decide +kernel
theorem d_U_crown_5 : decode b_U_crown 5 = .ok (.iload_n 2, 1) := by decide +kernel
theorem d_U_crown_6 : decode b_U_crown 6 = .ok (.iastore, 1) := by decide +kernel
theorem d_U_crown_7 : decode b_U_crown 7 = .ok (.iconst 0, 1) := by decide +kernel
theorem d_U_crown_8 : decode b_U_crown 8 = .ok (.istore_n 3, 1) := by decide +kernel
theorem d_U_crown_9 : decode b_U_crown 9 = .ok (.iload_n 3, 1) := by decide +kernel
theorem d_U_crown_10 : decode b_U_crown 10 = .ok (.aload_n 0, 1) := by decide +kernel
theorem d_U_crown_11 : decode b_U_crown 11 = .ok (.getfield 46, 3) := by decide +kernel
theorem d_U_crown_14 : decode b_U_crown 14 = .ok (.getfield 58, 3) := by decide +kernel
theorem d_U_crown_17 : decode b_U_crown 17 = .ok (.if_icmp .ge 41, 3) := by decide +kernel
theorem d_U_crown_20 : decode b_U_crown 20 = .ok (.aload_n 0, 1) := by decide +kernel
theorem d_U_crown_21 : decode b_U_crown 21 = .ok (.getfield 46, 3) := by decide +kernel
theorem d_U_crown_24 : decode b_U_crown 24 = .ok (.getfield 63, 3) := by decide +kernel
theorem d_U_crown_27 : decode b_U_crown 27 = .ok (.iload_n 3, 1) := by decide +kernel
theorem d_U_crown_28 : decode b_U_crown 28 = .ok (.iaload, 1) := by decide +kernel
theorem d_U_crown_29 : decode b_U_crown 29 = .ok (.istore 4, 2) := by decide +kernel
theorem d_U_crown_31 : decode b_U_crown 31 = .ok (.aload_n 0, 1) := by decide +kernel
theorem d_U_crown_32 : decode b_U_crown 32 = .ok (.getfield 40, 3) := by decide +kernel
theorem d_U_crown_35 : decode b_U_crown 35 = .ok (.iload 4, 2) := by decide +kernel
theorem d_U_crown_37 : decode b_U_crown 37 = .ok (.aaload, 1) := by decide +kernel
theorem d_U_crown_38 : decode b_U_crown 38 = .ok (.iload_n 2, 1) := by decide +kernel
theorem d_U_crown_39 : decode b_U_crown 39 = .ok (.dup2, 1) := by decide +kernel
theorem d_U_crown_40 : decode b_U_crown 40 = .ok (.iaload, 1) := by decide +kernel
theorem d_U_crown_41 : decode b_U_crown 41 = .ok (.aload_n 0, 1) := by decide +kernel
theorem d_U_crown_42 : decode b_U_crown 42 = .ok (.getfield 28, 3) := by decide +kernel
theorem d_U_crown_45 : decode b_U_crown 45 = .ok (.iload 4, 2) := by decide +kernel
theorem d_U_crown_47 : decode b_U_crown 47 = .ok (.aaload, 1) := by decide +kernel
theorem d_U_crown_48 : decode b_U_crown 48 = .ok (.iload_n 1, 1) := by decide +kernel
theorem d_U_crown_49 : decode b_U_crown 49 = .ok (.iaload, 1) := by decide +kernel
theorem d_U_crown_50 : decode b_U_crown 50 = .ok (.iadd, 1) := by decide +kernel
theorem d_U_crown_51 : decode b_U_crown 51 = .ok (.iastore, 1) := by decide +kernel
theorem d_U_crown_52 : decode b_U_crown 52 = .ok (.iinc 3 1, 3) := by decide +kernel
theorem d_U_crown_55 : decode b_U_crown 55 = .ok (.goto (-46), 3) := by decide +kernel
theorem d_U_crown_58 : decode b_U_crown 58 = .ok (.aload_n 0, 1) := by decide +kernel
theorem d_U_crown_59 : decode b_U_crown 59 = .ok (.getfield 137, 3) := by decide +kernel
theorem d_U_crown_62 : decode b_U_crown 62 = .ok (.bipush 7, 2) := by decide +kernel
theorem d_U_crown_64 : decode b_U_crown 64 = .ok (.if_icmp .ge 23, 3) := by decide +kernel
theorem d_U_crown_67 : decode b_U_crown 67 = .ok (.aload_n 0, 1) := by decide +kernel
theorem d_U_crown_68 : decode b_U_crown 68 = .ok (.getfield 43, 3) := by decide +kernel
theorem d_U_crown_71 : decode b_U_crown 71 = .ok (.aload_n 0, 1) := by decide +kernel
theorem d_U_crown_72 : decode b_U_crown 72 = .ok (.getfield 137, 3) := by decide +kernel
theorem d_U_crown_75 : decode b_U_crown 75 = .ok (.iload_n 1, 1) := by decide +kernel
theorem d_U_crown_76 : decode b_U_crown 76 = .ok (.iastore, 1) := by decide +kernel
theorem d_U_crown_77 : decode b_U_crown 77 = .ok (.aload_n 0, 1) := by decide +kernel
theorem d_U_crown_78 : decode b_U_crown 78 = .ok (.dup, 1) := by decide +kernel
theorem d_U_crown_79 : decode b_U_crown 79 = .ok (.getfield 137, 3) := by decide +kernel
theorem d_U_crown_82 : decode b_U_crown 82 = .ok (.iconst 1, 1) := by decide +kernel
theorem d_U_crown_83 : decode b_U_crown 83 = .ok (.iadd, 1) := by decide +kernel
theorem d_U_crown_84 : decode b_U_crown 84 = .ok (.putfield 137, 3) := by decide +kernel
theorem d_U_crown_87 : decode b_U_crown 87 = .ok (.return_, 1) := by decide +kernel
abbrev b_U_crownsInRound : ByteArray := prog_11_method_16_code
abbrev y_U_crownsInRound : MethodName := ⟨"WhoRules$Rule", "crownsInRound", "()Z"⟩
theorem d_U_crownsInRound_0 : decode b_U_crownsInRound 0 = .ok (.iconst 0, 1) := by decide +kernel
theorem d_U_crownsInRound_1 : decode b_U_crownsInRound 1 = .ok (.istore_n 1, 1) := by decide +kernel
theorem d_U_crownsInRound_2 : decode b_U_crownsInRound 2 = .ok (.iconst 0, 1) := by decide +kernel
theorem d_U_crownsInRound_3 : decode b_U_crownsInRound 3 = .ok (.istore_n 2, 1) := by decide +kernel
theorem d_U_crownsInRound_4 : decode b_U_crownsInRound 4 = .ok (.iload_n 2, 1) := by decide +kernel
theorem d_U_crownsInRound_5 : decode b_U_crownsInRound 5 = .ok (.aload_n 0, 1) := by decide +kernel
theorem d_U_crownsInRound_6 : decode b_U_crownsInRound 6 = .ok (.getfield 46, 3) := by decide +kernel
theorem d_U_crownsInRound_9 : decode b_U_crownsInRound 9 = .ok (.getfield 58, 3) := by decide +kernel
theorem d_U_crownsInRound_12 : decode b_U_crownsInRound 12 = .ok (.if_icmp .ge 54, 3) := by decide +kernel
theorem d_U_crownsInRound_15 : decode b_U_crownsInRound 15 = .ok (.aload_n 0, 1) := by decide +kernel
theorem d_U_crownsInRound_16 : decode b_U_crownsInRound 16 = .ok (.getfield 46, 3) := by decide +kernel
theorem d_U_crownsInRound_19 : decode b_U_crownsInRound 19 = .ok (.getfield 63, 3) := by decide +kernel
theorem d_U_crownsInRound_22 : decode b_U_crownsInRound 22 = .ok (.iload_n 2, 1) := by decide +kernel
theorem d_U_crownsInRound_23 : decode b_U_crownsInRound 23 = .ok (.iaload, 1) := by decide +kernel
theorem d_U_crownsInRound_24 : decode b_U_crownsInRound 24 = .ok (.istore_n 3, 1) := by decide +kernel
theorem d_U_crownsInRound_25 : decode b_U_crownsInRound 25 = .ok (.aload_n 0, 1) := by decide +kernel
theorem d_U_crownsInRound_26 : decode b_U_crownsInRound 26 = .ok (.getfield 37, 3) := by decide +kernel
theorem d_U_crownsInRound_29 : decode b_U_crownsInRound 29 = .ok (.iload_n 3, 1) := by decide +kernel
theorem d_U_crownsInRound_30 : decode b_U_crownsInRound 30 = .ok (.iaload, 1) := by decide +kernel
theorem d_U_crownsInRound_31 : decode b_U_crownsInRound 31 = .ok (.ifCond .ge 11, 3) := by decide +kernel
theorem d_U_crownsInRound_34 : decode b_U_crownsInRound 34 = .ok (.aload_n 0, 1) := by decide +kernel
theorem d_U_crownsInRound_35 : decode b_U_crownsInRound 35 = .ok (.iload_n 3, 1) := by decide +kernel
theorem d_U_crownsInRound_36 : decode b_U_crownsInRound 36 = .ok (.invokevirtual 167, 3) := by decide +kernel
theorem d_U_crownsInRound_39 : decode b_U_crownsInRound 39 = .ok (.goto 5, 3) := by decide +kernel
theorem d_U_crownsInRound_42 : decode b_U_crownsInRound 42 = .ok (.bipush (-5), 2) := by decide +kernel
theorem d_U_crownsInRound_44 : decode b_U_crownsInRound 44 = .ok (.istore 4, 2) := by decide +kernel
theorem d_U_crownsInRound_46 : decode b_U_crownsInRound 46 = .ok (.iload 4, 2) := by decide +kernel
theorem d_U_crownsInRound_48 : decode b_U_crownsInRound 48 = .ok (.ifCond .lt 12, 3) := by decide +kernel
theorem d_U_crownsInRound_51 : decode b_U_crownsInRound 51 = .ok (.aload_n 0, 1) := by decide +kernel
theorem d_U_crownsInRound_52 : decode b_U_crownsInRound 52 = .ok (.iload_n 3, 1) := by decide +kernel
theorem d_U_crownsInRound_53 : decode b_U_crownsInRound 53 = .ok (.iload 4, 2) := by decide +kernel
theorem d_U_crownsInRound_55 : decode b_U_crownsInRound 55 = .ok (.invokevirtual 153, 3) := by decide +kernel
theorem d_U_crownsInRound_58 : decode b_U_crownsInRound 58 = .ok (.iconst 1, 1) := by decide +kernel
theorem d_U_crownsInRound_59 : decode b_U_crownsInRound 59 = .ok (.istore_n 1, 1) := by decide +kernel
theorem d_U_crownsInRound_60 : decode b_U_crownsInRound 60 = .ok (.iinc 2 1, 3) := by decide +kernel
theorem d_U_crownsInRound_63 : decode b_U_crownsInRound 63 = .ok (.goto (-59), 3) := by decide +kernel
theorem d_U_crownsInRound_66 : decode b_U_crownsInRound 66 = .ok (.iload_n 1, 1) := by decide +kernel
theorem d_U_crownsInRound_67 : decode b_U_crownsInRound 67 = .ok (.ireturn, 1) := by decide +kernel
abbrev b_U_least : ByteArray := prog_11_method_15_code
abbrev y_U_least : MethodName := ⟨"WhoRules$Rule", "least", "()V"⟩
theorem d_U_least_0 : decode b_U_least 0 = .ok (.aload_n 0, 1) := by decide +kernel
theorem d_U_least_1 : decode b_U_least 1 = .ok (.invokevirtual 157, 3) := by decide +kernel
theorem d_U_least_4 : decode b_U_least 4 = .ok (.aload_n 0, 1) := by decide +kernel
theorem d_U_least_5 : decode b_U_least 5 = .ok (.invokevirtual 160, 3) := by decide +kernel
theorem d_U_least_8 : decode b_U_least 8 = .ok (.iconst 1, 1) := by decide +kernel
theorem d_U_least_9 : decode b_U_least 9 = .ok (.istore_n 1, 1) := by decide +kernel
theorem d_U_least_10 : decode b_U_least 10 = .ok (.iconst 0, 1) := by decide +kernel
theorem d_U_least_11 : decode b_U_least 11 = .ok (.istore_n 2, 1) := by decide +kernel
theorem d_U_least_12 : decode b_U_least 12 = .ok (.iload_n 2, 1) := by decide +kernel
theorem d_U_least_13 : decode b_U_least 13 = .ok (.bipush 7, 2) := by decide +kernel
theorem d_U_least_15 : decode b_U_least 15 = .ok (.if_icmp .gt 18, 3) := by decide +kernel
theorem d_U_least_18 : decode b_U_least 18 = .ok (.iload_n 1, 1) := by decide +kernel
theorem d_U_least_19 : decode b_U_least 19 = .ok (.ifCond .eq 14, 3) := by decide +kernel
theorem d_U_least_22 : decode b_U_least 22 = .ok (.aload_n 0, 1) := by decide +kernel
theorem d_U_least_23 : decode b_U_least 23 = .ok (.invokevirtual 163, 3) := by decide +kernel
theorem d_U_least_26 : decode b_U_least 26 = .ok (.istore_n 1, 1) := by decide +kernel
theorem d_U_least_27 : decode b_U_least 27 = .ok (.iinc 2 1, 3) := by decide +kernel
theorem d_U_least_30 : decode b_U_least 30 = .ok (.goto (-18), 3) := by decide +kernel
theorem d_U_least_33 : decode b_U_least 33 = .ok (.return_, 1) := by decide +kernel
abbrev b_W_ruler : ByteArray := prog_1_method_15_code
abbrev y_W_ruler : MethodName := ⟨"WhoRules", "ruler", "(II)I"⟩
theorem d_W_ruler_0 : decode b_W_ruler 0 = .ok (.aload_n 0, 1) := by decide +kernel
theorem d_W_ruler_1 : decode b_W_ruler 1 = .ok (.getfield 18, 3) := by decide +kernel
theorem d_W_ruler_4 : decode b_W_ruler 4 = .ok (.iload_n 1, 1) := by decide +kernel
theorem d_W_ruler_5 : decode b_W_ruler 5 = .ok (.invokevirtual 87, 3) := by decide +kernel
theorem d_W_ruler_8 : decode b_W_ruler 8 = .ok (.ifCond .eq 10, 3) := by decide +kernel
theorem d_W_ruler_11 : decode b_W_ruler 11 = .ok (.iload_n 2, 1) := by decide +kernel
theorem d_W_ruler_12 : decode b_W_ruler 12 = .ok (.invokestatic 132, 3) := by decide +kernel
theorem d_W_ruler_15 : decode b_W_ruler 15 = .ok (.ifCond .ne 5, 3) := by decide +kernel
theorem d_W_ruler_18 : decode b_W_ruler 18 = .ok (.iconst (-1), 1) := by decide +kernel
theorem d_W_ruler_19 : decode b_W_ruler 19 = .ok (.ireturn, 1) := by decide +kernel
theorem d_W_ruler_20 : decode b_W_ruler 20 = .ok (.aload_n 0, 1) := by decide +kernel
theorem d_W_ruler_21 : decode b_W_ruler 21 = .ok (.getfield 34, 3) := by decide +kernel
theorem d_W_ruler_24 : decode b_W_ruler 24 = .ok (.iload_n 2, 1) := by decide +kernel
theorem d_W_ruler_25 : decode b_W_ruler 25 = .ok (.invokevirtual 158, 3) := by decide +kernel
theorem d_W_ruler_28 : decode b_W_ruler 28 = .ok (.aload_n 0, 1) := by decide +kernel
theorem d_W_ruler_29 : decode b_W_ruler 29 = .ok (.getfield 34, 3) := by decide +kernel
theorem d_W_ruler_32 : decode b_W_ruler 32 = .ok (.invokevirtual 187, 3) := by decide +kernel
theorem d_W_ruler_35 : decode b_W_ruler 35 = .ok (.aload_n 0, 1) := by decide +kernel
theorem d_W_ruler_36 : decode b_W_ruler 36 = .ok (.getfield 34, 3) := by decide +kernel
theorem d_W_ruler_39 : decode b_W_ruler 39 = .ok (.getfield 190, 3) := by decide +kernel
theorem d_W_ruler_42 : decode b_W_ruler 42 = .ok (.iload_n 1, 1) := by decide +kernel
theorem d_W_ruler_43 : decode b_W_ruler 43 = .ok (.iaload, 1) := by decide +kernel
theorem d_W_ruler_44 : decode b_W_ruler 44 = .ok (.ireturn, 1) := by decide +kernel
abbrev b_W_step : ByteArray := prog_1_method_16_code
abbrev y_W_step : MethodName := ⟨"WhoRules", "step", "(II)I"⟩
theorem d_W_step_0 : decode b_W_step 0 = .ok (.iload_n 1, 1) := by decide +kernel
theorem d_W_step_1 : decode b_W_step 1 = .ok (.invokestatic 132, 3) := by decide +kernel
theorem d_W_step_4 : decode b_W_step 4 = .ok (.ifCond .eq 8, 3) := by decide +kernel
theorem d_W_step_7 : decode b_W_step 7 = .ok (.iload_n 2, 1) := by decide +kernel
theorem d_W_step_8 : decode b_W_step 8 = .ok (.iconst (-1), 1) := by decide +kernel
theorem d_W_step_9 : decode b_W_step 9 = .ok (.if_icmp .ge 5, 3) := by decide +kernel
theorem d_W_step_12 : decode b_W_step 12 = .ok (.iconst (-1), 1) := by decide +kernel
theorem d_W_step_13 : decode b_W_step 13 = .ok (.ireturn, 1) := by decide +kernel
theorem d_W_step_14 : decode b_W_step 14 = .ok (.aload_n 0, 1) := by decide +kernel
theorem d_W_step_15 : decode b_W_step 15 = .ok (.getfield 34, 3) := by decide +kernel
theorem d_W_step_18 : decode b_W_step 18 = .ok (.iload_n 1, 1) := by decide +kernel
theorem d_W_step_19 : decode b_W_step 19 = .ok (.invokevirtual 158, 3) := by decide +kernel
theorem d_W_step_22 : decode b_W_step 22 = .ok (.aload_n 0, 1) := by decide +kernel
theorem d_W_step_23 : decode b_W_step 23 = .ok (.getfield 34, 3) := by decide +kernel
theorem d_W_step_26 : decode b_W_step 26 = .ok (.invokevirtual 187, 3) := by decide +kernel
theorem d_W_step_29 : decode b_W_step 29 = .ok (.iload_n 2, 1) := by decide +kernel
theorem d_W_step_30 : decode b_W_step 30 = .ok (.iconst (-1), 1) := by decide +kernel
theorem d_W_step_31 : decode b_W_step 31 = .ok (.if_icmp .ne 11, 3) := by decide +kernel
theorem d_W_step_34 : decode b_W_step 34 = .ok (.aload_n 0, 1) := by decide +kernel
theorem d_W_step_35 : decode b_W_step 35 = .ok (.getfield 34, 3) := by decide +kernel
theorem d_W_step_38 : decode b_W_step 38 = .ok (.getfield 193, 3) := by decide +kernel
theorem d_W_step_41 : decode b_W_step 41 = .ok (.ireturn, 1) := by decide +kernel
theorem d_W_step_42 : decode b_W_step 42 = .ok (.iload_n 2, 1) := by decide +kernel
theorem d_W_step_43 : decode b_W_step 43 = .ok (.aload_n 0, 1) := by decide +kernel
theorem d_W_step_44 : decode b_W_step 44 = .ok (.getfield 34, 3) := by decide +kernel
theorem d_W_step_47 : decode b_W_step 47 = .ok (.getfield 193, 3) := by decide +kernel
theorem d_W_step_50 : decode b_W_step 50 = .ok (.if_icmp .ge 15, 3) := by decide +kernel
theorem d_W_step_53 : decode b_W_step 53 = .ok (.aload_n 0, 1) := by decide +kernel
theorem d_W_step_54 : decode b_W_step 54 = .ok (.getfield 34, 3) := by decide +kernel
theorem d_W_step_57 : decode b_W_step 57 = .ok (.getfield 196, 3) := by decide +kernel
theorem d_W_step_60 : decode b_W_step 60 = .ok (.iload_n 2, 1) := by decide +kernel
theorem d_W_step_61 : decode b_W_step 61 = .ok (.iaload, 1) := by decide +kernel
theorem d_W_step_62 : decode b_W_step 62 = .ok (.goto 4, 3) := by decide +kernel
theorem d_W_step_65 : decode b_W_step 65 = .ok (.iconst (-1), 1) := by decide +kernel
theorem d_W_step_66 : decode b_W_step 66 = .ok (.ireturn, 1) := by decide +kernel
abbrev b_S_setsWithWhich : ByteArray := prog_12_method_4_code
abbrev y_S_setsWithWhich : MethodName := ⟨"WhoRules$Search", "setsWithWhich", "(II)I"⟩
theorem d_S_setsWithWhich_0 : decode b_S_setsWithWhich 0 = .ok (.aload_n 0, 1) := by decide +kernel
theorem d_S_setsWithWhich_1 : decode b_S_setsWithWhich 1 = .ok (.getfield 42, 3) := by decide +kernel
theorem d_S_setsWithWhich_4 : decode b_S_setsWithWhich 4 = .ok (.getfield 88, 3) := by decide +kernel
theorem d_S_setsWithWhich_7 : decode b_S_setsWithWhich 7 = .ok (.iload_n 1, 1) := by decide +kernel
theorem d_S_setsWithWhich_8 : decode b_S_setsWithWhich 8 = .ok (.iaload, 1) := by decide +kernel
theorem d_S_setsWithWhich_9 : decode b_S_setsWithWhich 9 = .ok (.istore_n 3, 1) := by decide +kernel
theorem d_S_setsWithWhich_10 : decode b_S_setsWithWhich 10 = .ok (.iload_n 3, 1) := by decide +kernel
theorem d_S_setsWithWhich_11 : decode b_S_setsWithWhich 11 = .ok (.ifCond .lt 16, 3) := by decide +kernel
theorem d_S_setsWithWhich_14 : decode b_S_setsWithWhich 14 = .ok (.aload_n 0, 1) := by decide +kernel
theorem d_S_setsWithWhich_15 : decode b_S_setsWithWhich 15 = .ok (.getfield 42, 3) := by decide +kernel
theorem d_S_setsWithWhich_18 : decode b_S_setsWithWhich 18 = .ok (.getfield 91, 3) := by decide +kernel
theorem d_S_setsWithWhich_21 : decode b_S_setsWithWhich 21 = .ok (.iload_n 3, 1) := by decide +kernel
theorem d_S_setsWithWhich_22 : decode b_S_setsWithWhich 22 = .ok (.iaload, 1) := by decide +kernel
theorem d_S_setsWithWhich_23 : decode b_S_setsWithWhich 23 = .ok (.iload_n 2, 1) := by decide +kernel
theorem d_S_setsWithWhich_24 : decode b_S_setsWithWhich 24 = .ok (.if_icmp .ne 7, 3) := by decide +kernel
theorem d_S_setsWithWhich_27 : decode b_S_setsWithWhich 27 = .ok (.iconst 1, 1) := by decide +kernel
theorem d_S_setsWithWhich_28 : decode b_S_setsWithWhich 28 = .ok (.goto 4, 3) := by decide +kernel
theorem d_S_setsWithWhich_31 : decode b_S_setsWithWhich 31 = .ok (.iconst 0, 1) := by decide +kernel
theorem d_S_setsWithWhich_32 : decode b_S_setsWithWhich 32 = .ok (.istore 4, 2) := by decide +kernel
theorem d_S_setsWithWhich_34 : decode b_S_setsWithWhich 34 = .ok (.iconst 0, 1) := by decide +kernel
theorem d_S_setsWithWhich_35 : decode b_S_setsWithWhich 35 = .ok (.istore 5, 2) := by decide +kernel
theorem d_S_setsWithWhich_37 : decode b_S_setsWithWhich 37 = .ok (.iconst 0, 1) := by decide +kernel
theorem d_S_setsWithWhich_38 : decode b_S_setsWithWhich 38 = .ok (.istore 6, 2) := by decide +kernel
theorem d_S_setsWithWhich_40 : decode b_S_setsWithWhich 40 = .ok (.iload 6, 2) := by decide +kernel
theorem d_S_setsWithWhich_42 : decode b_S_setsWithWhich 42 = .ok (.iconst 1, 1) := by decide +kernel
theorem d_S_setsWithWhich_43 : decode b_S_setsWithWhich 43 = .ok (.aload_n 0, 1) := by decide +kernel
theorem d_S_setsWithWhich_44 : decode b_S_setsWithWhich 44 = .ok (.getfield 38, 3) := by decide +kernel
theorem d_S_setsWithWhich_47 : decode b_S_setsWithWhich 47 = .ok (.getfield 49, 3) := by decide +kernel
theorem d_S_setsWithWhich_50 : decode b_S_setsWithWhich 50 = .ok (.ishl, 1) := by decide +kernel
theorem d_S_setsWithWhich_51 : decode b_S_setsWithWhich 51 = .ok (.if_icmp .ge 141, 3) := by decide +kernel
theorem d_S_setsWithWhich_54 : decode b_S_setsWithWhich 54 = .ok (.aload_n 0, 1) := by decide +kernel
theorem d_S_setsWithWhich_55 : decode b_S_setsWithWhich 55 = .ok (.getfield 42, 3) := by decide +kernel
theorem d_S_setsWithWhich_58 : decode b_S_setsWithWhich 58 = .ok (.getfield 94, 3) := by decide +kernel
theorem d_S_setsWithWhich_61 : decode b_S_setsWithWhich 61 = .ok (.iload_n 1, 1) := by decide +kernel
theorem d_S_setsWithWhich_62 : decode b_S_setsWithWhich 62 = .ok (.aaload, 1) := by decide +kernel
theorem d_S_setsWithWhich_63 : decode b_S_setsWithWhich 63 = .ok (.iload_n 2, 1) := by decide +kernel
theorem d_S_setsWithWhich_64 : decode b_S_setsWithWhich 64 = .ok (.iaload, 1) := by decide +kernel
theorem d_S_setsWithWhich_65 : decode b_S_setsWithWhich 65 = .ok (.istore 7, 2) := by decide +kernel
theorem d_S_setsWithWhich_67 : decode b_S_setsWithWhich 67 = .ok (.iload 4, 2) := by decide +kernel
theorem d_S_setsWithWhich_69 : decode b_S_setsWithWhich 69 = .ok (.istore 8, 2) := by decide +kernel
theorem d_S_setsWithWhich_71 : decode b_S_setsWithWhich 71 = .ok (.iconst 0, 1) := by decide +kernel
theorem d_S_setsWithWhich_72 : decode b_S_setsWithWhich 72 = .ok (.istore 9, 2) := by decide +kernel
theorem d_S_setsWithWhich_74 : decode b_S_setsWithWhich 74 = .ok (.iload 9, 2) := by decide +kernel
theorem d_S_setsWithWhich_76 : decode b_S_setsWithWhich 76 = .ok (.aload_n 0, 1) := by decide +kernel
theorem d_S_setsWithWhich_77 : decode b_S_setsWithWhich 77 = .ok (.getfield 38, 3) := by decide +kernel
theorem d_S_setsWithWhich_80 : decode b_S_setsWithWhich 80 = .ok (.getfield 49, 3) := by decide +kernel
theorem d_S_setsWithWhich_83 : decode b_S_setsWithWhich 83 = .ok (.if_icmp .ge 71, 3) := by decide +kernel
theorem d_S_setsWithWhich_86 : decode b_S_setsWithWhich 86 = .ok (.iload 6, 2) := by decide +kernel
theorem d_S_setsWithWhich_88 : decode b_S_setsWithWhich 88 = .ok (.iload 9, 2) := by decide +kernel
theorem d_S_setsWithWhich_90 : decode b_S_setsWithWhich 90 = .ok (.ishr, 1) := by decide +kernel
theorem d_S_setsWithWhich_91 : decode b_S_setsWithWhich 91 = .ok (.iconst 1, 1) := by decide +kernel
theorem d_S_setsWithWhich_92 : decode b_S_setsWithWhich 92 = .ok (.iand, 1) := by decide +kernel
theorem d_S_setsWithWhich_93 : decode b_S_setsWithWhich 93 = .ok (.iconst 1, 1) := by decide +kernel
theorem d_S_setsWithWhich_94 : decode b_S_setsWithWhich 94 = .ok (.if_icmp .ne 54, 3) := by decide +kernel
theorem d_S_setsWithWhich_97 : decode b_S_setsWithWhich 97 = .ok (.iload 7, 2) := by decide +kernel
theorem d_S_setsWithWhich_99 : decode b_S_setsWithWhich 99 = .ok (.aload_n 0, 1) := by decide +kernel
theorem d_S_setsWithWhich_100 : decode b_S_setsWithWhich 100 = .ok (.getfield 42, 3) := by decide +kernel
theorem d_S_setsWithWhich_103 : decode b_S_setsWithWhich 103 = .ok (.getfield 97, 3) := by decide +kernel
theorem d_S_setsWithWhich_106 : decode b_S_setsWithWhich 106 = .ok (.iload_n 1, 1) := by decide +kernel
theorem d_S_setsWithWhich_107 : decode b_S_setsWithWhich 107 = .ok (.aaload, 1) := by decide +kernel
theorem d_S_setsWithWhich_108 : decode b_S_setsWithWhich 108 = .ok (.aload_n 0, 1) := by decide +kernel
theorem d_S_setsWithWhich_109 : decode b_S_setsWithWhich 109 = .ok (.getfield 38, 3) := by decide +kernel
theorem d_S_setsWithWhich_112 : decode b_S_setsWithWhich 112 = .ok (.getfield 78, 3) := by decide +kernel
theorem d_S_setsWithWhich_115 : decode b_S_setsWithWhich 115 = .ok (.iload 9, 2) := by decide +kernel
theorem d_S_setsWithWhich_117 : decode b_S_setsWithWhich 117 = .ok (.iaload, 1) := by decide +kernel
theorem d_S_setsWithWhich_118 : decode b_S_setsWithWhich 118 = .ok (.iaload, 1) := by decide +kernel
theorem d_S_setsWithWhich_119 : decode b_S_setsWithWhich 119 = .ok (.iadd, 1) := by decide +kernel
theorem d_S_setsWithWhich_120 : decode b_S_setsWithWhich 120 = .ok (.istore 7, 2) := by decide +kernel
theorem d_S_setsWithWhich_122 : decode b_S_setsWithWhich 122 = .ok (.iload 8, 2) := by decide +kernel
theorem d_S_setsWithWhich_124 : decode b_S_setsWithWhich 124 = .ok (.ifCond .ne 17, 3) := by decide +kernel
theorem d_S_setsWithWhich_127 : decode b_S_setsWithWhich 127 = .ok (.aload_n 0, 1) := by decide +kernel
theorem d_S_setsWithWhich_128 : decode b_S_setsWithWhich 128 = .ok (.getfield 38, 3) := by decide +kernel
theorem d_S_setsWithWhich_131 : decode b_S_setsWithWhich 131 = .ok (.getfield 78, 3) := by decide +kernel
theorem d_S_setsWithWhich_134 : decode b_S_setsWithWhich 134 = .ok (.iload 9, 2) := by decide +kernel
theorem d_S_setsWithWhich_136 : decode b_S_setsWithWhich 136 = .ok (.iaload, 1) := by decide +kernel
theorem d_S_setsWithWhich_137 : decode b_S_setsWithWhich 137 = .ok (.iload_n 3, 1) := by decide +kernel
theorem d_S_setsWithWhich_138 : decode b_S_setsWithWhich 138 = .ok (.if_icmp .ne 7, 3) := by decide +kernel
theorem d_S_setsWithWhich_141 : decode b_S_setsWithWhich 141 = .ok (.iconst 1, 1) := by decide +kernel
theorem d_S_setsWithWhich_142 : decode b_S_setsWithWhich 142 = .ok (.goto 4, 3) := by decide +kernel
theorem d_S_setsWithWhich_145 : decode b_S_setsWithWhich 145 = .ok (.iconst 0, 1) := by decide +kernel
theorem d_S_setsWithWhich_146 : decode b_S_setsWithWhich 146 = .ok (.istore 8, 2) := by decide +kernel
theorem d_S_setsWithWhich_148 : decode b_S_setsWithWhich 148 = .ok (.iinc 9 1, 3) := by decide +kernel
theorem d_S_setsWithWhich_151 : decode b_S_setsWithWhich 151 = .ok (.goto (-77), 3) := by decide +kernel
theorem d_S_setsWithWhich_154 : decode b_S_setsWithWhich 154 = .ok (.iload 5, 2) := by decide +kernel
theorem d_S_setsWithWhich_156 : decode b_S_setsWithWhich 156 = .ok (.iload 7, 2) := by decide +kernel
theorem d_S_setsWithWhich_158 : decode b_S_setsWithWhich 158 = .ok (.aload_n 0, 1) := by decide +kernel
theorem d_S_setsWithWhich_159 : decode b_S_setsWithWhich 159 = .ok (.getfield 42, 3) := by decide +kernel
theorem d_S_setsWithWhich_162 : decode b_S_setsWithWhich 162 = .ok (.getfield 100, 3) := by decide +kernel
theorem d_S_setsWithWhich_165 : decode b_S_setsWithWhich 165 = .ok (.iload_n 1, 1) := by decide +kernel
theorem d_S_setsWithWhich_166 : decode b_S_setsWithWhich 166 = .ok (.iaload, 1) := by decide +kernel
theorem d_S_setsWithWhich_167 : decode b_S_setsWithWhich 167 = .ok (.if_icmp .le 15, 3) := by decide +kernel
theorem d_S_setsWithWhich_170 : decode b_S_setsWithWhich 170 = .ok (.iload 8, 2) := by decide +kernel
theorem d_S_setsWithWhich_172 : decode b_S_setsWithWhich 172 = .ok (.ifCond .eq 10, 3) := by decide +kernel
theorem d_S_setsWithWhich_175 : decode b_S_setsWithWhich 175 = .ok (.iconst 1, 1) := by decide +kernel
theorem d_S_setsWithWhich_176 : decode b_S_setsWithWhich 176 = .ok (.iload 6, 2) := by decide +kernel
theorem d_S_setsWithWhich_178 : decode b_S_setsWithWhich 178 = .ok (.ishl, 1) := by decide +kernel
theorem d_S_setsWithWhich_179 : decode b_S_setsWithWhich 179 = .ok (.goto 4, 3) := by decide +kernel
theorem d_S_setsWithWhich_182 : decode b_S_setsWithWhich 182 = .ok (.iconst 0, 1) := by decide +kernel
theorem d_S_setsWithWhich_183 : decode b_S_setsWithWhich 183 = .ok (.ior, 1) := by decide +kernel
theorem d_S_setsWithWhich_184 : decode b_S_setsWithWhich 184 = .ok (.istore 5, 2) := by decide +kernel
theorem d_S_setsWithWhich_186 : decode b_S_setsWithWhich 186 = .ok (.iinc 6 1, 3) := by decide +kernel
theorem d_S_setsWithWhich_189 : decode b_S_setsWithWhich 189 = .ok (.goto (-149), 3) := by decide +kernel
theorem d_S_setsWithWhich_192 : decode b_S_setsWithWhich 192 = .ok (.iload 5, 2) := by decide +kernel
theorem d_S_setsWithWhich_194 : decode b_S_setsWithWhich 194 = .ok (.ireturn, 1) := by decide +kernel
abbrev b_S_listCarrying : ByteArray := prog_12_method_3_code
abbrev y_S_listCarrying : MethodName := ⟨"WhoRules$Search", "listCarrying", "()V"⟩
theorem d_S_listCarrying_0 : decode b_S_listCarrying 0 = .ok (.aload_n 0, 1) := by decide +kernel
theorem d_S_listCarrying_1 : decode b_S_listCarrying 1 = .ok (.getfield 42, 3) := by decide +kernel
theorem d_S_listCarrying_4 : decode b_S_listCarrying 4 = .ok (.invokevirtual 70, 3) := by decide +kernel
theorem d_S_listCarrying_7 : decode b_S_listCarrying 7 = .ok (.aload_n 0, 1) := by decide +kernel
theorem d_S_listCarrying_8 : decode b_S_listCarrying 8 = .ok (.getfield 42, 3) := by decide +kernel
theorem d_S_listCarrying_11 : decode b_S_listCarrying 11 = .ok (.invokevirtual 75, 3) := by decide +kernel
theorem d_S_listCarrying_14 : decode b_S_listCarrying 14 = .ok (.iconst 0, 1) := by decide +kernel
theorem d_S_listCarrying_15 : decode b_S_listCarrying 15 = .ok (.istore_n 1, 1) := by decide +kernel
theorem d_S_listCarrying_16 : decode b_S_listCarrying 16 = .ok (.iload_n 1, 1) := by decide +kernel
theorem d_S_listCarrying_17 : decode b_S_listCarrying 17 = .ok (.aload_n 0, 1) := by decide +kernel
theorem d_S_listCarrying_18 : decode b_S_listCarrying 18 = .ok (.getfield 38, 3) := by decide +kernel
theorem d_S_listCarrying_21 : decode b_S_listCarrying 21 = .ok (.getfield 49, 3) := by decide +kernel
theorem d_S_listCarrying_24 : decode b_S_listCarrying 24 = .ok (.if_icmp .ge 68, 3) := by decide +kernel
theorem d_S_listCarrying_27 : decode b_S_listCarrying 27 = .ok (.iload_n 1, 1) := by decide +kernel
theorem d_S_listCarrying_28 : decode b_S_listCarrying 28 = .ok (.iconst 5, 1) := by decide +kernel
theorem d_S_listCarrying_29 : decode b_S_listCarrying 29 = .ok (.if_icmp .ge 63, 3) := by decide +kernel
theorem d_S_listCarrying_32 : decode b_S_listCarrying 32 = .ok (.iconst 0, 1) := by decide +kernel
theorem d_S_listCarrying_33 : decode b_S_listCarrying 33 = .ok (.istore_n 2, 1) := by decide +kernel
theorem d_S_listCarrying_34 : decode b_S_listCarrying 34 = .ok (.iload_n 2, 1) := by decide +kernel
theorem d_S_listCarrying_35 : decode b_S_listCarrying 35 = .ok (.aload_n 0, 1) := by decide +kernel
theorem d_S_listCarrying_36 : decode b_S_listCarrying 36 = .ok (.getfield 38, 3) := by decide +kernel
theorem d_S_listCarrying_39 : decode b_S_listCarrying 39 = .ok (.getfield 55, 3) := by decide +kernel
theorem d_S_listCarrying_42 : decode b_S_listCarrying 42 = .ok (.if_icmp .ge 44, 3) := by decide +kernel
theorem d_S_listCarrying_45 : decode b_S_listCarrying 45 = .ok (.iload_n 2, 1) := by decide +kernel
theorem d_S_listCarrying_46 : decode b_S_listCarrying 46 = .ok (.iconst 4, 1) := by decide +kernel
theorem d_S_listCarrying_47 : decode b_S_listCarrying 47 = .ok (.if_icmp .ge 39, 3) := by decide +kernel
theorem d_S_listCarrying_50 : decode b_S_listCarrying 50 = .ok (.aload_n 0, 1) := by decide +kernel
theorem d_S_listCarrying_51 : decode b_S_listCarrying 51 = .ok (.getfield 17, 3) := by decide +kernel
theorem d_S_listCarrying_54 : decode b_S_listCarrying 54 = .ok (.iload_n 1, 1) := by decide +kernel
theorem d_S_listCarrying_55 : decode b_S_listCarrying 55 = .ok (.aaload, 1) := by decide +kernel
theorem d_S_listCarrying_56 : decode b_S_listCarrying 56 = .ok (.iload_n 2, 1) := by decide +kernel
theorem d_S_listCarrying_57 : decode b_S_listCarrying 57 = .ok (.aload_n 0, 1) := by decide +kernel
theorem d_S_listCarrying_58 : decode b_S_listCarrying 58 = .ok (.aload_n 0, 1) := by decide +kernel
theorem d_S_listCarrying_59 : decode b_S_listCarrying 59 = .ok (.getfield 38, 3) := by decide +kernel
theorem d_S_listCarrying_62 : decode b_S_listCarrying 62 = .ok (.getfield 78, 3) := by decide +kernel
theorem d_S_listCarrying_65 : decode b_S_listCarrying 65 = .ok (.iload_n 1, 1) := by decide +kernel
theorem d_S_listCarrying_66 : decode b_S_listCarrying 66 = .ok (.iaload, 1) := by decide +kernel
theorem d_S_listCarrying_67 : decode b_S_listCarrying 67 = .ok (.aload_n 0, 1) := by decide +kernel
theorem d_S_listCarrying_68 : decode b_S_listCarrying 68 = .ok (.getfield 38, 3) := by decide +kernel
theorem d_S_listCarrying_71 : decode b_S_listCarrying 71 = .ok (.getfield 81, 3) := by decide +kernel
theorem d_S_listCarrying_74 : decode b_S_listCarrying 74 = .ok (.iload_n 2, 1) := by decide +kernel
theorem d_S_listCarrying_75 : decode b_S_listCarrying 75 = .ok (.iaload, 1) := by decide +kernel
theorem d_S_listCarrying_76 : decode b_S_listCarrying 76 = .ok (.invokevirtual 84, 3) := by decide +kernel
theorem d_S_listCarrying_79 : decode b_S_listCarrying 79 = .ok (.iastore, 1) := by decide +kernel
theorem d_S_listCarrying_80 : decode b_S_listCarrying 80 = .ok (.iinc 2 1, 3) := by decide +kernel
theorem d_S_listCarrying_83 : decode b_S_listCarrying 83 = .ok (.goto (-49), 3) := by decide +kernel
theorem d_S_listCarrying_86 : decode b_S_listCarrying 86 = .ok (.iinc 1 1, 3) := by decide +kernel
theorem d_S_listCarrying_89 : decode b_S_listCarrying 89 = .ok (.goto (-73), 3) := by decide +kernel
theorem d_S_listCarrying_92 : decode b_S_listCarrying 92 = .ok (.return_, 1) := by decide +kernel
abbrev b_S_setRow : ByteArray := prog_12_method_5_code
abbrev y_S_setRow : MethodName := ⟨"WhoRules$Search", "setRow", "(I)V"⟩
theorem d_S_setRow_0 : decode b_S_setRow 0 = .ok (.iload_n 1, 1) := by decide +kernel
theorem d_S_setRow_1 : decode b_S_setRow 1 = .ok (.istore_n 2, 1) := by decide +kernel
theorem d_S_setRow_2 : decode b_S_setRow 2 = .ok (.aload_n 0, 1) := by decide +kernel
theorem d_S_setRow_3 : decode b_S_setRow 3 = .ok (.getfield 23, 3) := by decide +kernel
theorem d_S_setRow_6 : decode b_S_setRow 6 = .ok (.iconst 0, 1) := by decide +kernel
theorem d_S_setRow_7 : decode b_S_setRow 7 = .ok (.invokestatic 103, 3) := by decide +kernel
theorem d_S_setRow_10 : decode b_S_setRow 10 = .ok (.aload_n 0, 1) := by decide +kernel
theorem d_S_setRow_11 : decode b_S_setRow 11 = .ok (.getfield 38, 3) := by decide +kernel
theorem d_S_setRow_14 : decode b_S_setRow 14 = .ok (.getfield 49, 3) := by decide +kernel
theorem d_S_setRow_17 : decode b_S_setRow 17 = .ok (.iconst 5, 1) := by decide +kernel
theorem d_S_setRow_18 : decode b_S_setRow 18 = .ok (.invokestatic 109, 3) := by decide +kernel
theorem d_S_setRow_21 : decode b_S_setRow 21 = .ok (.iconst 1, 1) := by decide +kernel
theorem d_S_setRow_22 : decode b_S_setRow 22 = .ok (.isub, 1) := by decide +kernel
theorem d_S_setRow_23 : decode b_S_setRow 23 = .ok (.istore_n 3, 1) := by decide +kernel
theorem d_S_setRow_24 : decode b_S_setRow 24 = .ok (.iload_n 3, 1) := by decide +kernel
theorem d_S_setRow_25 : decode b_S_setRow 25 = .ok (.ifCond .lt 63, 3) := by decide +kernel
theorem d_S_setRow_28 : decode b_S_setRow 28 = .ok (.aload_n 0, 1) := by decide +kernel
theorem d_S_setRow_29 : decode b_S_setRow 29 = .ok (.getfield 20, 3) := by decide +kernel
theorem d_S_setRow_32 : decode b_S_setRow 32 = .ok (.iload_n 3, 1) := by decide +kernel
theorem d_S_setRow_33 : decode b_S_setRow 33 = .ok (.iload_n 2, 1) := by decide +kernel
theorem d_S_setRow_34 : decode b_S_setRow 34 = .ok (.aload_n 0, 1) := by decide +kernel
theorem d_S_setRow_35 : decode b_S_setRow 35 = .ok (.getfield 38, 3) := by decide +kernel
theorem d_S_setRow_38 : decode b_S_setRow 38 = .ok (.getfield 55, 3) := by decide +kernel
theorem d_S_setRow_41 : decode b_S_setRow 41 = .ok (.iconst 4, 1) := by decide +kernel
theorem d_S_setRow_42 : decode b_S_setRow 42 = .ok (.invokestatic 109, 3) := by decide +kernel
theorem d_S_setRow_45 : decode b_S_setRow 45 = .ok (.iconst 1, 1) := by decide +kernel
theorem d_S_setRow_46 : decode b_S_setRow 46 = .ok (.iadd, 1) := by decide +kernel
theorem d_S_setRow_47 : decode b_S_setRow 47 = .ok (.irem, 1) := by decide +kernel
theorem d_S_setRow_48 : decode b_S_setRow 48 = .ok (.iastore, 1) := by decide +kernel
theorem d_S_setRow_49 : decode b_S_setRow 49 = .ok (.iload_n 2, 1) := by decide +kernel
theorem d_S_setRow_50 : decode b_S_setRow 50 = .ok (.aload_n 0, 1) := by decide +kernel
theorem d_S_setRow_51 : decode b_S_setRow 51 = .ok (.getfield 38, 3) := by decide +kernel
theorem d_S_setRow_54 : decode b_S_setRow 54 = .ok (.getfield 55, 3) := by decide +kernel
theorem d_S_setRow_57 : decode b_S_setRow 57 = .ok (.iconst 4, 1) := by decide +kernel
theorem d_S_setRow_58 : decode b_S_setRow 58 = .ok (.invokestatic 109, 3) := by decide +kernel
theorem d_S_setRow_61 : decode b_S_setRow 61 = .ok (.iconst 1, 1) := by decide +kernel
theorem d_S_setRow_62 : decode b_S_setRow 62 = .ok (.iadd, 1) := by decide +kernel
theorem d_S_setRow_63 : decode b_S_setRow 63 = .ok (.idiv, 1) := by decide +kernel
theorem d_S_setRow_64 : decode b_S_setRow 64 = .ok (.istore_n 2, 1) := by decide +kernel
theorem d_S_setRow_65 : decode b_S_setRow 65 = .ok (.aload_n 0, 1) := by decide +kernel
theorem d_S_setRow_66 : decode b_S_setRow 66 = .ok (.getfield 23, 3) := by decide +kernel
theorem d_S_setRow_69 : decode b_S_setRow 69 = .ok (.aload_n 0, 1) := by decide +kernel
theorem d_S_setRow_70 : decode b_S_setRow 70 = .ok (.getfield 20, 3) := by decide +kernel
theorem d_S_setRow_73 : decode b_S_setRow 73 = .ok (.iload_n 3, 1) := by decide +kernel
theorem d_S_setRow_74 : decode b_S_setRow 74 = .ok (.iaload, 1) := by decide +kernel
theorem d_S_setRow_75 : decode b_S_setRow 75 = .ok (.dup2, 1) := by decide +kernel
theorem d_S_setRow_76 : decode b_S_setRow 76 = .ok (.iaload, 1) := by decide +kernel
theorem d_S_setRow_77 : decode b_S_setRow 77 = .ok (.iconst 1, 1) := by decide +kernel
theorem d_S_setRow_78 : decode b_S_setRow 78 = .ok (.iload_n 3, 1) := by decide +kernel
theorem d_S_setRow_79 : decode b_S_setRow 79 = .ok (.ishl, 1) := by decide +kernel
theorem d_S_setRow_80 : decode b_S_setRow 80 = .ok (.ior, 1) := by decide +kernel
theorem d_S_setRow_81 : decode b_S_setRow 81 = .ok (.iastore, 1) := by decide +kernel
theorem d_S_setRow_82 : decode b_S_setRow 82 = .ok (.iinc 3 (-1), 3) := by decide +kernel
theorem d_S_setRow_85 : decode b_S_setRow 85 = .ok (.goto (-61), 3) := by decide +kernel
theorem d_S_setRow_88 : decode b_S_setRow 88 = .ok (.return_, 1) := by decide +kernel
abbrev b_S_carriesInRow : ByteArray := prog_12_method_8_code
abbrev y_S_carriesInRow : MethodName := ⟨"WhoRules$Search", "carriesInRow", "(II)Z"⟩
theorem d_S_carriesInRow_0 : decode b_S_carriesInRow 0 = .ok (.aload_n 0, 1) := by decide +kernel
theorem d_S_carriesInRow_1 : decode b_S_carriesInRow 1 = .ok (.getfield 17, 3) := by decide +kernel
theorem d_S_carriesInRow_4 : decode b_S_carriesInRow 4 = .ok (.iload_n 1, 1) := by decide +kernel
theorem d_S_carriesInRow_5 : decode b_S_carriesInRow 5 = .ok (.aaload, 1) := by decide +kernel
theorem d_S_carriesInRow_6 : decode b_S_carriesInRow 6 = .ok (.iload_n 2, 1) := by decide +kernel
theorem d_S_carriesInRow_7 : decode b_S_carriesInRow 7 = .ok (.iaload, 1) := by decide +kernel
theorem d_S_carriesInRow_8 : decode b_S_carriesInRow 8 = .ok (.aload_n 0, 1) := by decide +kernel
theorem d_S_carriesInRow_9 : decode b_S_carriesInRow 9 = .ok (.getfield 23, 3) := by decide +kernel
theorem d_S_carriesInRow_12 : decode b_S_carriesInRow 12 = .ok (.iload_n 2, 1) := by decide +kernel
theorem d_S_carriesInRow_13 : decode b_S_carriesInRow 13 = .ok (.iconst 1, 1) := by decide +kernel
theorem d_S_carriesInRow_14 : decode b_S_carriesInRow 14 = .ok (.iadd, 1) := by decide +kernel
theorem d_S_carriesInRow_15 : decode b_S_carriesInRow 15 = .ok (.iaload, 1) := by decide +kernel
theorem d_S_carriesInRow_16 : decode b_S_carriesInRow 16 = .ok (.ishr, 1) := by decide +kernel
theorem d_S_carriesInRow_17 : decode b_S_carriesInRow 17 = .ok (.iconst 1, 1) := by decide +kernel
theorem d_S_carriesInRow_18 : decode b_S_carriesInRow 18 = .ok (.iand, 1) := by decide +kernel
theorem d_S_carriesInRow_19 : decode b_S_carriesInRow 19 = .ok (.iconst 1, 1) := by decide +kernel
theorem d_S_carriesInRow_20 : decode b_S_carriesInRow 20 = .ok (.if_icmp .ne 7, 3) := by decide +kernel
theorem d_S_carriesInRow_23 : decode b_S_carriesInRow 23 = .ok (.iconst 1, 1) := by decide +kernel
theorem d_S_carriesInRow_24 : decode b_S_carriesInRow 24 = .ok (.goto 4, 3) := by decide +kernel
theorem d_S_carriesInRow_27 : decode b_S_carriesInRow 27 = .ok (.iconst 0, 1) := by decide +kernel
theorem d_S_carriesInRow_28 : decode b_S_carriesInRow 28 = .ok (.ireturn, 1) := by decide +kernel
abbrev b_S_isCarriedInRow : ByteArray := prog_12_method_7_code
abbrev y_S_isCarriedInRow : MethodName := ⟨"WhoRules$Search", "isCarriedInRow", "(I)Z"⟩
theorem d_S_isCarriedInRow_0 : decode b_S_isCarriedInRow 0 = .ok (.iconst 0, 1) := by decide +kernel
theorem d_S_isCarriedInRow_1 : decode b_S_isCarriedInRow 1 = .ok (.istore_n 2, 1) := by decide +kernel
theorem d_S_isCarriedInRow_2 : decode b_S_isCarriedInRow 2 = .ok (.iload_n 2, 1) := by decide +kernel
theorem d_S_isCarriedInRow_3 : decode b_S_isCarriedInRow 3 = .ok (.aload_n 0, 1) := by decide +kernel
theorem d_S_isCarriedInRow_4 : decode b_S_isCarriedInRow 4 = .ok (.getfield 38, 3) := by decide +kernel
theorem d_S_isCarriedInRow_7 : decode b_S_isCarriedInRow 7 = .ok (.getfield 55, 3) := by decide +kernel
theorem d_S_isCarriedInRow_10 : decode b_S_isCarriedInRow 10 = .ok (.if_icmp .ge 25, 3) := by decide +kernel
theorem d_S_isCarriedInRow_13 : decode b_S_isCarriedInRow 13 = .ok (.iload_n 2, 1) := by decide +kernel
theorem d_S_isCarriedInRow_14 : decode b_S_isCarriedInRow 14 = .ok (.iconst 4, 1) := by decide +kernel
theorem d_S_isCarriedInRow_15 : decode b_S_isCarriedInRow 15 = .ok (.if_icmp .ge 20, 3) := by decide +kernel
theorem d_S_isCarriedInRow_18 : decode b_S_isCarriedInRow 18 = .ok (.aload_n 0, 1) := by decide +kernel
theorem d_S_isCarriedInRow_19 : decode b_S_isCarriedInRow 19 = .ok (.iload_n 1, 1) := by decide +kernel
theorem d_S_isCarriedInRow_20 : decode b_S_isCarriedInRow 20 = .ok (.iload_n 2, 1) := by decide +kernel
theorem d_S_isCarriedInRow_21 : decode b_S_isCarriedInRow 21 = .ok (.invokevirtual 114, 3) := by decide +kernel
theorem d_S_isCarriedInRow_24 : decode b_S_isCarriedInRow 24 = .ok (.ifCond .eq 5, 3) := by decide +kernel
theorem d_S_isCarriedInRow_27 : decode b_S_isCarriedInRow 27 = .ok (.iconst 1, 1) := by decide +kernel
theorem d_S_isCarriedInRow_28 : decode b_S_isCarriedInRow 28 = .ok (.ireturn, 1) := by decide +kernel
theorem d_S_isCarriedInRow_29 : decode b_S_isCarriedInRow 29 = .ok (.iinc 2 1, 3) := by decide +kernel
theorem d_S_isCarriedInRow_32 : decode b_S_isCarriedInRow 32 = .ok (.goto (-30), 3) := by decide +kernel
theorem d_S_isCarriedInRow_35 : decode b_S_isCarriedInRow 35 = .ok (.iconst 0, 1) := by decide +kernel
theorem d_S_isCarriedInRow_36 : decode b_S_isCarriedInRow 36 = .ok (.ireturn, 1) := by decide +kernel
abbrev b_S_rowFits : ByteArray := prog_12_method_6_code
abbrev y_S_rowFits : MethodName := ⟨"WhoRules$Search", "rowFits", "()Z"⟩
theorem d_S_rowFits_0 : decode b_S_rowFits 0 = .ok (.iconst 0, 1) := by decide +kernel
theorem d_S_rowFits_1 : decode b_S_rowFits 1 = .ok (.istore_n 1, 1) := by decide +kernel
theorem d_S_rowFits_2 : decode b_S_rowFits 2 = .ok (.iload_n 1, 1) := by decide +kernel
theorem d_S_rowFits_3 : decode b_S_rowFits 3 = .ok (.aload_n 0, 1) := by decide +kernel
theorem d_S_rowFits_4 : decode b_S_rowFits 4 = .ok (.getfield 38, 3) := by decide +kernel
theorem d_S_rowFits_7 : decode b_S_rowFits 7 = .ok (.getfield 49, 3) := by decide +kernel
theorem d_S_rowFits_10 : decode b_S_rowFits 10 = .ok (.if_icmp .ge 52, 3) := by decide +kernel
theorem d_S_rowFits_13 : decode b_S_rowFits 13 = .ok (.iload_n 1, 1) := by decide +kernel
theorem d_S_rowFits_14 : decode b_S_rowFits 14 = .ok (.iconst 5, 1) := by decide +kernel
theorem d_S_rowFits_15 : decode b_S_rowFits 15 = .ok (.if_icmp .ge 47, 3) := by decide +kernel
theorem d_S_rowFits_18 : decode b_S_rowFits 18 = .ok (.aload_n 0, 1) := by decide +kernel
theorem d_S_rowFits_19 : decode b_S_rowFits 19 = .ok (.getfield 20, 3) := by decide +kernel
theorem d_S_rowFits_22 : decode b_S_rowFits 22 = .ok (.iload_n 1, 1) := by decide +kernel
theorem d_S_rowFits_23 : decode b_S_rowFits 23 = .ok (.iaload, 1) := by decide +kernel
theorem d_S_rowFits_24 : decode b_S_rowFits 24 = .ok (.ifCond .le 22, 3) := by decide +kernel
theorem d_S_rowFits_27 : decode b_S_rowFits 27 = .ok (.aload_n 0, 1) := by decide +kernel
theorem d_S_rowFits_28 : decode b_S_rowFits 28 = .ok (.iload_n 1, 1) := by decide +kernel
theorem d_S_rowFits_29 : decode b_S_rowFits 29 = .ok (.aload_n 0, 1) := by decide +kernel
theorem d_S_rowFits_30 : decode b_S_rowFits 30 = .ok (.getfield 20, 3) := by decide +kernel
theorem d_S_rowFits_33 : decode b_S_rowFits 33 = .ok (.iload_n 1, 1) := by decide +kernel
theorem d_S_rowFits_34 : decode b_S_rowFits 34 = .ok (.iaload, 1) := by decide +kernel
theorem d_S_rowFits_35 : decode b_S_rowFits 35 = .ok (.iconst 1, 1) := by decide +kernel
theorem d_S_rowFits_36 : decode b_S_rowFits 36 = .ok (.isub, 1) := by decide +kernel
theorem d_S_rowFits_37 : decode b_S_rowFits 37 = .ok (.invokevirtual 114, 3) := by decide +kernel
theorem d_S_rowFits_40 : decode b_S_rowFits 40 = .ok (.ifCond .ne 16, 3) := by decide +kernel
theorem d_S_rowFits_43 : decode b_S_rowFits 43 = .ok (.goto 11, 3) := by decide +kernel
theorem d_S_rowFits_46 : decode b_S_rowFits 46 = .ok (.aload_n 0, 1) := by decide +kernel
theorem d_S_rowFits_47 : decode b_S_rowFits 47 = .ok (.iload_n 1, 1) := by decide +kernel
theorem d_S_rowFits_48 : decode b_S_rowFits 48 = .ok (.invokevirtual 118, 3) := by decide +kernel
theorem d_S_rowFits_51 : decode b_S_rowFits 51 = .ok (.ifCond .eq 5, 3) := by decide +kernel
theorem d_S_rowFits_54 : decode b_S_rowFits 54 = .ok (.iconst 0, 1) := by decide +kernel
theorem d_S_rowFits_55 : decode b_S_rowFits 55 = .ok (.ireturn, 1) := by decide +kernel
theorem d_S_rowFits_56 : decode b_S_rowFits 56 = .ok (.iinc 1 1, 3) := by decide +kernel
theorem d_S_rowFits_59 : decode b_S_rowFits 59 = .ok (.goto (-57), 3) := by decide +kernel
theorem d_S_rowFits_62 : decode b_S_rowFits 62 = .ok (.iconst 1, 1) := by decide +kernel
theorem d_S_rowFits_63 : decode b_S_rowFits 63 = .ok (.ireturn, 1) := by decide +kernel
abbrev b_S_rulerInRow : ByteArray := prog_12_method_9_code
abbrev y_S_rulerInRow : MethodName := ⟨"WhoRules$Search", "rulerInRow", "(I)I"⟩
theorem d_S_rulerInRow_0 : decode b_S_rulerInRow 0 = .ok (.iconst 0, 1) := by decide +kernel
theorem d_S_rulerInRow_1 : decode b_S_rulerInRow 1 = .ok (.istore_n 2, 1) := by decide +kernel
theorem d_S_rulerInRow_2 : decode b_S_rulerInRow 2 = .ok (.iload_n 2, 1) := by decide +kernel
theorem d_S_rulerInRow_3 : decode b_S_rulerInRow 3 = .ok (.aload_n 0, 1) := by decide +kernel
theorem d_S_rulerInRow_4 : decode b_S_rulerInRow 4 = .ok (.getfield 38, 3) := by decide +kernel
theorem d_S_rulerInRow_7 : decode b_S_rulerInRow 7 = .ok (.getfield 49, 3) := by decide +kernel
theorem d_S_rulerInRow_10 : decode b_S_rulerInRow 10 = .ok (.if_icmp .ge 53, 3) := by decide +kernel
theorem d_S_rulerInRow_13 : decode b_S_rulerInRow 13 = .ok (.iload_n 2, 1) := by decide +kernel
theorem d_S_rulerInRow_14 : decode b_S_rulerInRow 14 = .ok (.iconst 5, 1) := by decide +kernel
theorem d_S_rulerInRow_15 : decode b_S_rulerInRow 15 = .ok (.if_icmp .ge 48, 3) := by decide +kernel
theorem d_S_rulerInRow_18 : decode b_S_rulerInRow 18 = .ok (.aload_n 0, 1) := by decide +kernel
theorem d_S_rulerInRow_19 : decode b_S_rulerInRow 19 = .ok (.getfield 38, 3) := by decide +kernel
theorem d_S_rulerInRow_22 : decode b_S_rulerInRow 22 = .ok (.getfield 78, 3) := by decide +kernel
theorem d_S_rulerInRow_25 : decode b_S_rulerInRow 25 = .ok (.iload_n 2, 1) := by decide +kernel
theorem d_S_rulerInRow_26 : decode b_S_rulerInRow 26 = .ok (.iaload, 1) := by decide +kernel
theorem d_S_rulerInRow_27 : decode b_S_rulerInRow 27 = .ok (.iload_n 1, 1) := by decide +kernel
theorem d_S_rulerInRow_28 : decode b_S_rulerInRow 28 = .ok (.if_icmp .ne 29, 3) := by decide +kernel
theorem d_S_rulerInRow_31 : decode b_S_rulerInRow 31 = .ok (.aload_n 0, 1) := by decide +kernel
theorem d_S_rulerInRow_32 : decode b_S_rulerInRow 32 = .ok (.getfield 20, 3) := by decide +kernel
theorem d_S_rulerInRow_35 : decode b_S_rulerInRow 35 = .ok (.iload_n 2, 1) := by decide +kernel
theorem d_S_rulerInRow_36 : decode b_S_rulerInRow 36 = .ok (.iaload, 1) := by decide +kernel
theorem d_S_rulerInRow_37 : decode b_S_rulerInRow 37 = .ok (.ifCond .le 20, 3) := by decide +kernel
theorem d_S_rulerInRow_40 : decode b_S_rulerInRow 40 = .ok (.aload_n 0, 1) := by decide +kernel
theorem d_S_rulerInRow_41 : decode b_S_rulerInRow 41 = .ok (.getfield 38, 3) := by decide +kernel
theorem d_S_rulerInRow_44 : decode b_S_rulerInRow 44 = .ok (.getfield 81, 3) := by decide +kernel
theorem d_S_rulerInRow_47 : decode b_S_rulerInRow 47 = .ok (.aload_n 0, 1) := by decide +kernel
theorem d_S_rulerInRow_48 : decode b_S_rulerInRow 48 = .ok (.getfield 20, 3) := by decide +kernel
theorem d_S_rulerInRow_51 : decode b_S_rulerInRow 51 = .ok (.iload_n 2, 1) := by decide +kernel
theorem d_S_rulerInRow_52 : decode b_S_rulerInRow 52 = .ok (.iaload, 1) := by decide +kernel
theorem d_S_rulerInRow_53 : decode b_S_rulerInRow 53 = .ok (.iconst 1, 1) := by decide +kernel
theorem d_S_rulerInRow_54 : decode b_S_rulerInRow 54 = .ok (.isub, 1) := by decide +kernel
theorem d_S_rulerInRow_55 : decode b_S_rulerInRow 55 = .ok (.iaload, 1) := by decide +kernel
theorem d_S_rulerInRow_56 : decode b_S_rulerInRow 56 = .ok (.ireturn, 1) := by decide +kernel
theorem d_S_rulerInRow_57 : decode b_S_rulerInRow 57 = .ok (.iinc 2 1, 3) := by decide +kernel
theorem d_S_rulerInRow_60 : decode b_S_rulerInRow 60 = .ok (.goto (-58), 3) := by decide +kernel
theorem d_S_rulerInRow_63 : decode b_S_rulerInRow 63 = .ok (.bipush (-5), 2) := by decide +kernel
theorem d_S_rulerInRow_65 : decode b_S_rulerInRow 65 = .ok (.ireturn, 1) := by decide +kernel
abbrev b_S_fitting : ByteArray := prog_12_method_2_code
abbrev y_S_fitting : MethodName := ⟨"WhoRules$Search", "fitting", "(II)I"⟩
theorem d_S_fitting_0 : decode b_S_fitting 0 = .ok (.aload_n 0, 1) := by decide +kernel
theorem d_S_fitting_1 : decode b_S_fitting 1 = .ok (.invokevirtual 46, 3) := by decide +kernel
theorem d_S_fitting_4 : decode b_S_fitting 4 = .ok (.iconst 1, 1) := by decide +kernel
theorem d_S_fitting_5 : decode b_S_fitting 5 = .ok (.istore_n 3, 1) := by decide +kernel
theorem d_S_fitting_6 : decode b_S_fitting 6 = .ok (.iconst 0, 1) := by decide +kernel
theorem d_S_fitting_7 : decode b_S_fitting 7 = .ok (.istore 4, 2) := by decide +kernel
theorem d_S_fitting_9 : decode b_S_fitting 9 = .ok (.iload 4, 2) := by decide +kernel
theorem d_S_fitting_11 : decode b_S_fitting 11 = .ok (.aload_n 0, 1) := by decide +kernel
theorem d_S_fitting_12 : decode b_S_fitting 12 = .ok (.getfield 38, 3) := by decide +kernel
theorem d_S_fitting_15 : decode b_S_fitting 15 = .ok (.getfield 49, 3) := by decide +kernel
theorem d_S_fitting_18 : decode b_S_fitting 18 = .ok (.if_icmp .ge 21, 3) := by decide +kernel
theorem d_S_fitting_21 : decode b_S_fitting 21 = .ok (.iload_n 3, 1) := by decide +kernel
theorem d_S_fitting_22 : decode b_S_fitting 22 = .ok (.aload_n 0, 1) := by decide +kernel
theorem d_S_fitting_23 : decode b_S_fitting 23 = .ok (.getfield 38, 3) := by decide +kernel
theorem d_S_fitting_26 : decode b_S_fitting 26 = .ok (.getfield 55, 3) := by decide +kernel
theorem d_S_fitting_29 : decode b_S_fitting 29 = .ok (.iconst 1, 1) := by decide +kernel
theorem d_S_fitting_30 : decode b_S_fitting 30 = .ok (.iadd, 1) := by decide +kernel
theorem d_S_fitting_31 : decode b_S_fitting 31 = .ok (.imul, 1) := by decide +kernel
theorem d_S_fitting_32 : decode b_S_fitting 32 = .ok (.istore_n 3, 1) := by decide +kernel
theorem d_S_fitting_33 : decode b_S_fitting 33 = .ok (.iinc 4 1, 3) := by decide +kernel
theorem d_S_fitting_36 : decode b_S_fitting 36 = .ok (.goto (-27), 3) := by decide +kernel
theorem d_S_fitting_39 : decode b_S_fitting 39 = .ok (.iconst 0, 1) := by decide +kernel
theorem d_S_fitting_40 : decode b_S_fitting 40 = .ok (.istore 4, 2) := by decide +kernel
theorem d_S_fitting_42 : decode b_S_fitting 42 = .ok (.iconst 0, 1) := by decide +kernel
theorem d_S_fitting_43 : decode b_S_fitting 43 = .ok (.istore 5, 2) := by decide +kernel
theorem d_S_fitting_45 : decode b_S_fitting 45 = .ok (.iload 5, 2) := by decide +kernel
theorem d_S_fitting_47 : decode b_S_fitting 47 = .ok (.iload_n 3, 1) := by decide +kernel
theorem d_S_fitting_48 : decode b_S_fitting 48 = .ok (.if_icmp .ge 37, 3) := by decide +kernel
theorem d_S_fitting_51 : decode b_S_fitting 51 = .ok (.aload_n 0, 1) := by decide +kernel
theorem d_S_fitting_52 : decode b_S_fitting 52 = .ok (.iload 5, 2) := by decide +kernel
theorem d_S_fitting_54 : decode b_S_fitting 54 = .ok (.invokevirtual 58, 3) := by decide +kernel
theorem d_S_fitting_57 : decode b_S_fitting 57 = .ok (.aload_n 0, 1) := by decide +kernel
theorem d_S_fitting_58 : decode b_S_fitting 58 = .ok (.invokevirtual 62, 3) := by decide +kernel
theorem d_S_fitting_61 : decode b_S_fitting 61 = .ok (.ifCond .eq 18, 3) := by decide +kernel
theorem d_S_fitting_64 : decode b_S_fitting 64 = .ok (.iload 4, 2) := by decide +kernel
theorem d_S_fitting_66 : decode b_S_fitting 66 = .ok (.iload_n 1, 1) := by decide +kernel
theorem d_S_fitting_67 : decode b_S_fitting 67 = .ok (.if_icmp .ne 9, 3) := by decide +kernel
theorem d_S_fitting_70 : decode b_S_fitting 70 = .ok (.aload_n 0, 1) := by decide +kernel
theorem d_S_fitting_71 : decode b_S_fitting 71 = .ok (.iload_n 2, 1) := by decide +kernel
theorem d_S_fitting_72 : decode b_S_fitting 72 = .ok (.invokevirtual 66, 3) := by decide +kernel
theorem d_S_fitting_75 : decode b_S_fitting 75 = .ok (.ireturn, 1) := by decide +kernel
theorem d_S_fitting_76 : decode b_S_fitting 76 = .ok (.iinc 4 1, 3) := by decide +kernel
theorem d_S_fitting_79 : decode b_S_fitting 79 = .ok (.iinc 5 1, 3) := by decide +kernel
theorem d_S_fitting_82 : decode b_S_fitting 82 = .ok (.goto (-37), 3) := by decide +kernel
theorem d_S_fitting_85 : decode b_S_fitting 85 = .ok (.iload_n 1, 1) := by decide +kernel
theorem d_S_fitting_86 : decode b_S_fitting 86 = .ok (.iconst (-1), 1) := by decide +kernel
theorem d_S_fitting_87 : decode b_S_fitting 87 = .ok (.if_icmp .ne 8, 3) := by decide +kernel
theorem d_S_fitting_90 : decode b_S_fitting 90 = .ok (.iload 4, 2) := by decide +kernel
theorem d_S_fitting_92 : decode b_S_fitting 92 = .ok (.goto 4, 3) := by decide +kernel
theorem d_S_fitting_95 : decode b_S_fitting 95 = .ok (.iconst (-1), 1) := by decide +kernel
theorem d_S_fitting_96 : decode b_S_fitting 96 = .ok (.ireturn, 1) := by decide +kernel
abbrev b_W_all : ByteArray := prog_1_method_17_code
abbrev y_W_all : MethodName := ⟨"WhoRules", "all", "(III)I"⟩
theorem d_W_all_0 : decode b_W_all 0 = .ok (.iload_n 1, 1) := by decide +kernel
theorem d_W_all_1 : decode b_W_all 1 = .ok (.invokestatic 132, 3) := by decide +kernel
theorem d_W_all_4 : decode b_W_all 4 = .ok (.ifCond .eq 19, 3) := by decide +kernel
theorem d_W_all_7 : decode b_W_all 7 = .ok (.aload_n 0, 1) := by decide +kernel
theorem d_W_all_8 : decode b_W_all 8 = .ok (.getfield 18, 3) := by decide +kernel
theorem d_W_all_11 : decode b_W_all 11 = .ok (.iload_n 3, 1) := by decide +kernel
theorem d_W_all_12 : decode b_W_all 12 = .ok (.invokevirtual 87, 3) := by decide +kernel
theorem d_W_all_15 : decode b_W_all 15 = .ok (.ifCond .eq 8, 3) := by decide +kernel
theorem d_W_all_18 : decode b_W_all 18 = .ok (.iload_n 2, 1) := by decide +kernel
theorem d_W_all_19 : decode b_W_all 19 = .ok (.iconst (-1), 1) := by decide +kernel
theorem d_W_all_20 : decode b_W_all 20 = .ok (.if_icmp .ge 5, 3) := by decide +kernel
theorem d_W_all_23 : decode b_W_all 23 = .ok (.iconst (-1), 1) := by decide +kernel
theorem d_W_all_24 : decode b_W_all 24 = .ok (.ireturn, 1) := by decide +kernel
theorem d_W_all_25 : decode b_W_all 25 = .ok (.aload_n 0, 1) := by decide +kernel
theorem d_W_all_26 : decode b_W_all 26 = .ok (.getfield 18, 3) := by decide +kernel
theorem d_W_all_29 : decode b_W_all 29 = .ok (.getfield 199, 3) := by decide +kernel
theorem d_W_all_32 : decode b_W_all 32 = .ok (.iconst 5, 1) := by decide +kernel
theorem d_W_all_33 : decode b_W_all 33 = .ok (.if_icmp .gt 14, 3) := by decide +kernel
theorem d_W_all_36 : decode b_W_all 36 = .ok (.aload_n 0, 1) := by decide +kernel
theorem d_W_all_37 : decode b_W_all 37 = .ok (.getfield 18, 3) := by decide +kernel
theorem d_W_all_40 : decode b_W_all 40 = .ok (.getfield 202, 3) := by decide +kernel
theorem d_W_all_43 : decode b_W_all 43 = .ok (.iconst 4, 1) := by decide +kernel
theorem d_W_all_44 : decode b_W_all 44 = .ok (.if_icmp .le 6, 3) := by decide +kernel
theorem d_W_all_47 : decode b_W_all 47 = .ok (.bipush (-9), 2) := by decide +kernel
theorem d_W_all_49 : decode b_W_all 49 = .ok (.ireturn, 1) := by decide +kernel
theorem d_W_all_50 : decode b_W_all 50 = .ok (.aload_n 0, 1) := by decide +kernel
theorem d_W_all_51 : decode b_W_all 51 = .ok (.getfield 34, 3) := by decide +kernel
theorem d_W_all_54 : decode b_W_all 54 = .ok (.iload_n 1, 1) := by decide +kernel
theorem d_W_all_55 : decode b_W_all 55 = .ok (.invokevirtual 158, 3) := by decide +kernel
theorem d_W_all_58 : decode b_W_all 58 = .ok (.aload_n 0, 1) := by decide +kernel
theorem d_W_all_59 : decode b_W_all 59 = .ok (.getfield 43, 3) := by decide +kernel
theorem d_W_all_62 : decode b_W_all 62 = .ok (.iload_n 2, 1) := by decide +kernel
theorem d_W_all_63 : decode b_W_all 63 = .ok (.iload_n 3, 1) := by decide +kernel
theorem d_W_all_64 : decode b_W_all 64 = .ok (.invokevirtual 205, 3) := by decide +kernel
theorem d_W_all_67 : decode b_W_all 67 = .ok (.ireturn, 1) := by decide +kernel
abbrev b_W_isTape : ByteArray := prog_1_method_41_code
abbrev y_W_isTape : MethodName := ⟨"WhoRules", "isTape", "(I)Z"⟩
theorem d_W_isTape_0 : decode b_W_isTape 0 = .ok (.iload_n 0, 1) := by decide +kernel
theorem d_W_isTape_1 : decode b_W_isTape 1 = .ok (.ifCond .lt 13, 3) := by decide +kernel
theorem d_W_isTape_4 : decode b_W_isTape 4 = .ok (.iload_n 0, 1) := by decide +kernel
theorem d_W_isTape_5 : decode b_W_isTape 5 = .ok (.bipush 6, 2) := by decide +kernel
theorem d_W_isTape_7 : decode b_W_isTape 7 = .ok (.if_icmp .ge 7, 3) := by decide +kernel
theorem d_W_isTape_10 : decode b_W_isTape 10 = .ok (.iconst 1, 1) := by decide +kernel
theorem d_W_isTape_11 : decode b_W_isTape 11 = .ok (.goto 4, 3) := by decide +kernel
theorem d_W_isTape_14 : decode b_W_isTape 14 = .ok (.iconst 0, 1) := by decide +kernel
theorem d_W_isTape_15 : decode b_W_isTape 15 = .ok (.ireturn, 1) := by decide +kernel
abbrev b_W_hasPlaces : ByteArray := prog_1_method_42_code
abbrev y_W_hasPlaces : MethodName := ⟨"WhoRules", "hasPlaces", "(III)Z"⟩
theorem d_W_hasPlaces_0 : decode b_W_hasPlaces 0 = .ok (.iload_n 2, 1) := by decide +kernel
theorem d_W_hasPlaces_1 : decode b_W_hasPlaces 1 = .ok (.ifCond .lt 23, 3) := by decide +kernel
theorem d_W_hasPlaces_4 : decode b_W_hasPlaces 4 = .ok (.iload_n 3, 1) := by decide +kernel
theorem d_W_hasPlaces_5 : decode b_W_hasPlaces 5 = .ok (.ifCond .lt 19, 3) := by decide +kernel
theorem d_W_hasPlaces_8 : decode b_W_hasPlaces 8 = .ok (.iload_n 2, 1) := by decide +kernel
theorem d_W_hasPlaces_9 : decode b_W_hasPlaces 9 = .ok (.aload_n 0, 1) := by decide +kernel
theorem d_W_hasPlaces_10 : decode b_W_hasPlaces 10 = .ok (.getfield 65, 3) := by decide +kernel
theorem d_W_hasPlaces_13 : decode b_W_hasPlaces 13 = .ok (.iload_n 1, 1) := by decide +kernel
theorem d_W_hasPlaces_14 : decode b_W_hasPlaces 14 = .ok (.iaload, 1) := by decide +kernel
theorem d_W_hasPlaces_15 : decode b_W_hasPlaces 15 = .ok (.iload_n 3, 1) := by decide +kernel
theorem d_W_hasPlaces_16 : decode b_W_hasPlaces 16 = .ok (.isub, 1) := by decide +kernel
theorem d_W_hasPlaces_17 : decode b_W_hasPlaces 17 = .ok (.if_icmp .gt 7, 3) := by decide +kernel
theorem d_W_hasPlaces_20 : decode b_W_hasPlaces 20 = .ok (.iconst 1, 1) := by decide +kernel
theorem d_W_hasPlaces_21 : decode b_W_hasPlaces 21 = .ok (.goto 4, 3) := by decide +kernel
theorem d_W_hasPlaces_24 : decode b_W_hasPlaces 24 = .ok (.iconst 0, 1) := by decide +kernel
theorem d_W_hasPlaces_25 : decode b_W_hasPlaces 25 = .ok (.ireturn, 1) := by decide +kernel
abbrev b_R_isPerson : ByteArray := prog_10_method_4_code
abbrev y_R_isPerson : MethodName := ⟨"WhoRules$Register", "isPerson", "(I)Z"⟩
theorem d_R_isPerson_0 : decode b_R_isPerson 0 = .ok (.aload_n 0, 1) := by decide +kernel
theorem d_R_isPerson_1 : decode b_R_isPerson 1 = .ok (.iload_n 1, 1) := by decide +kernel
theorem d_R_isPerson_2 : decode b_R_isPerson 2 = .ok (.invokevirtual 61, 3) := by decide +kernel
theorem d_R_isPerson_5 : decode b_R_isPerson 5 = .ok (.ifCond .eq 27, 3) := by decide +kernel
theorem d_R_isPerson_8 : decode b_R_isPerson 8 = .ok (.aload_n 0, 1) := by decide +kernel
theorem d_R_isPerson_9 : decode b_R_isPerson 9 = .ok (.getfield 17, 3) := by decide +kernel
theorem d_R_isPerson_12 : decode b_R_isPerson 12 = .ok (.iload_n 1, 1) := by decide +kernel
theorem d_R_isPerson_13 : decode b_R_isPerson 13 = .ok (.iaload, 1) := by decide +kernel
theorem d_R_isPerson_14 : decode b_R_isPerson 14 = .ok (.iconst 2, 1) := by decide +kernel
theorem d_R_isPerson_15 : decode b_R_isPerson 15 = .ok (.if_icmp .eq 13, 3) := by decide +kernel
theorem d_R_isPerson_18 : decode b_R_isPerson 18 = .ok (.aload_n 0, 1) := by decide +kernel
theorem d_R_isPerson_19 : decode b_R_isPerson 19 = .ok (.getfield 17, 3) := by decide +kernel
theorem d_R_isPerson_22 : decode b_R_isPerson 22 = .ok (.iload_n 1, 1) := by decide +kernel
theorem d_R_isPerson_23 : decode b_R_isPerson 23 = .ok (.iaload, 1) := by decide +kernel
theorem d_R_isPerson_24 : decode b_R_isPerson 24 = .ok (.iconst 3, 1) := by decide +kernel
theorem d_R_isPerson_25 : decode b_R_isPerson 25 = .ok (.if_icmp .ne 7, 3) := by decide +kernel
theorem d_R_isPerson_28 : decode b_R_isPerson 28 = .ok (.iconst 1, 1) := by decide +kernel
theorem d_R_isPerson_29 : decode b_R_isPerson 29 = .ok (.goto 4, 3) := by decide +kernel
theorem d_R_isPerson_32 : decode b_R_isPerson 32 = .ok (.iconst 0, 1) := by decide +kernel
theorem d_R_isPerson_33 : decode b_R_isPerson 33 = .ok (.ireturn, 1) := by decide +kernel
abbrev b_R_isRuler : ByteArray := prog_10_method_5_code
abbrev y_R_isRuler : MethodName := ⟨"WhoRules$Register", "isRuler", "(I)Z"⟩
theorem d_R_isRuler_0 : decode b_R_isRuler 0 = .ok (.aload_n 0, 1) := by decide +kernel
theorem d_R_isRuler_1 : decode b_R_isRuler 1 = .ok (.iload_n 1, 1) := by decide +kernel
theorem d_R_isRuler_2 : decode b_R_isRuler 2 = .ok (.invokevirtual 65, 3) := by decide +kernel
theorem d_R_isRuler_5 : decode b_R_isRuler 5 = .ok (.ifCond .eq 17, 3) := by decide +kernel
theorem d_R_isRuler_8 : decode b_R_isRuler 8 = .ok (.aload_n 0, 1) := by decide +kernel
theorem d_R_isRuler_9 : decode b_R_isRuler 9 = .ok (.getfield 21, 3) := by decide +kernel
theorem d_R_isRuler_12 : decode b_R_isRuler 12 = .ok (.iload_n 1, 1) := by decide +kernel
theorem d_R_isRuler_13 : decode b_R_isRuler 13 = .ok (.iaload, 1) := by decide +kernel
theorem d_R_isRuler_14 : decode b_R_isRuler 14 = .ok (.iload_n 1, 1) := by decide +kernel
theorem d_R_isRuler_15 : decode b_R_isRuler 15 = .ok (.if_icmp .ne 7, 3) := by decide +kernel
theorem d_R_isRuler_18 : decode b_R_isRuler 18 = .ok (.iconst 1, 1) := by decide +kernel
theorem d_R_isRuler_19 : decode b_R_isRuler 19 = .ok (.goto 4, 3) := by decide +kernel
theorem d_R_isRuler_22 : decode b_R_isRuler 22 = .ok (.iconst 0, 1) := by decide +kernel
theorem d_R_isRuler_23 : decode b_R_isRuler 23 = .ok (.ireturn, 1) := by decide +kernel
abbrev b_U_tells : ByteArray := prog_11_method_14_code
abbrev y_U_tells : MethodName := ⟨"WhoRules$Rule", "tells", "(II)Z"⟩
theorem d_U_tells_0 : decode b_U_tells 0 = .ok (.aload_n 0, 1) := by decide +kernel
theorem d_U_tells_1 : decode b_U_tells 1 = .ok (.getfield 46, 3) := by decide +kernel
theorem d_U_tells_4 : decode b_U_tells 4 = .ok (.iload_n 1, 1) := by decide +kernel
theorem d_U_tells_5 : decode b_U_tells 5 = .ok (.invokevirtual 140, 3) := by decide +kernel
theorem d_U_tells_8 : decode b_U_tells 8 = .ok (.ifCond .eq 14, 3) := by decide +kernel
theorem d_U_tells_11 : decode b_U_tells 11 = .ok (.aload_n 0, 1) := by decide +kernel
theorem d_U_tells_12 : decode b_U_tells 12 = .ok (.getfield 46, 3) := by decide +kernel
theorem d_U_tells_15 : decode b_U_tells 15 = .ok (.iload_n 2, 1) := by decide +kernel
theorem d_U_tells_16 : decode b_U_tells 16 = .ok (.invokevirtual 146, 3) := by decide +kernel
theorem d_U_tells_19 : decode b_U_tells 19 = .ok (.ifCond .ne 5, 3) := by decide +kernel
theorem d_U_tells_22 : decode b_U_tells 22 = .ok (.iconst 0, 1) := by decide +kernel
theorem d_U_tells_23 : decode b_U_tells 23 = .ok (.ireturn, 1) := by decide +kernel
theorem d_U_tells_24 : decode b_U_tells 24 = .ok (.aload_n 0, 1) := by decide +kernel
theorem d_U_tells_25 : decode b_U_tells 25 = .ok (.getfield 37, 3) := by decide +kernel
theorem d_U_tells_28 : decode b_U_tells 28 = .ok (.iload_n 1, 1) := by decide +kernel
theorem d_U_tells_29 : decode b_U_tells 29 = .ok (.iaload, 1) := by decide +kernel
theorem d_U_tells_30 : decode b_U_tells 30 = .ok (.ifCond .ge 12, 3) := by decide +kernel
theorem d_U_tells_33 : decode b_U_tells 33 = .ok (.aload_n 0, 1) := by decide +kernel
theorem d_U_tells_34 : decode b_U_tells 34 = .ok (.iload_n 1, 1) := by decide +kernel
theorem d_U_tells_35 : decode b_U_tells 35 = .ok (.iload_n 2, 1) := by decide +kernel
theorem d_U_tells_36 : decode b_U_tells 36 = .ok (.invokevirtual 149, 3) := by decide +kernel
theorem d_U_tells_39 : decode b_U_tells 39 = .ok (.ifCond .ne 5, 3) := by decide +kernel
theorem d_U_tells_42 : decode b_U_tells 42 = .ok (.iconst 0, 1) := by decide +kernel
theorem d_U_tells_43 : decode b_U_tells 43 = .ok (.ireturn, 1) := by decide +kernel
theorem d_U_tells_44 : decode b_U_tells 44 = .ok (.aload_n 0, 1) := by decide +kernel
theorem d_U_tells_45 : decode b_U_tells 45 = .ok (.iload_n 1, 1) := by decide +kernel
theorem d_U_tells_46 : decode b_U_tells 46 = .ok (.iload_n 2, 1) := by decide +kernel
theorem d_U_tells_47 : decode b_U_tells 47 = .ok (.invokevirtual 153, 3) := by decide +kernel
theorem d_U_tells_50 : decode b_U_tells 50 = .ok (.iconst 1, 1) := by decide +kernel
theorem d_U_tells_51 : decode b_U_tells 51 = .ok (.ireturn, 1) := by decide +kernel
abbrev b_W_goodPairs : ByteArray := prog_1_method_44_code
abbrev y_W_goodPairs : MethodName := ⟨"WhoRules", "goodPairs", "(III)I"⟩
theorem d_W_goodPairs_0 : decode b_W_goodPairs 0 = .ok (.aload_n 0, 1) := by decide +kernel
theorem d_W_goodPairs_1 : decode b_W_goodPairs 1 = .ok (.getfield 34, 3) := by decide +kernel
theorem d_W_goodPairs_4 : decode b_W_goodPairs 4 = .ok (.aload_n 0, 1) := by decide +kernel
theorem d_W_goodPairs_5 : decode b_W_goodPairs 5 = .ok (.getfield 18, 3) := by decide +kernel
theorem d_W_goodPairs_8 : decode b_W_goodPairs 8 = .ok (.getfield 79, 3) := by decide +kernel
theorem d_W_goodPairs_11 : decode b_W_goodPairs 11 = .ok (.invokevirtual 158, 3) := by decide +kernel
theorem d_W_goodPairs_14 : decode b_W_goodPairs 14 = .ok (.aload_n 0, 1) := by decide +kernel
theorem d_W_goodPairs_15 : decode b_W_goodPairs 15 = .ok (.getfield 34, 3) := by decide +kernel
theorem d_W_goodPairs_18 : decode b_W_goodPairs 18 = .ok (.invokevirtual 175, 3) := by decide +kernel
theorem d_W_goodPairs_21 : decode b_W_goodPairs 21 = .ok (.aload_n 0, 1) := by decide +kernel
theorem d_W_goodPairs_22 : decode b_W_goodPairs 22 = .ok (.getfield 34, 3) := by decide +kernel
theorem d_W_goodPairs_25 : decode b_W_goodPairs 25 = .ok (.invokevirtual 328, 3) := by decide +kernel
theorem d_W_goodPairs_28 : decode b_W_goodPairs 28 = .ok (.iconst 0, 1) := by decide +kernel
theorem d_W_goodPairs_29 : decode b_W_goodPairs 29 = .ok (.istore 4, 2) := by decide +kernel
theorem d_W_goodPairs_31 : decode b_W_goodPairs 31 = .ok (.iconst 0, 1) := by decide +kernel
theorem d_W_goodPairs_32 : decode b_W_goodPairs 32 = .ok (.istore 5, 2) := by decide +kernel
theorem d_W_goodPairs_34 : decode b_W_goodPairs 34 = .ok (.iload 5, 2) := by decide +kernel
theorem d_W_goodPairs_36 : decode b_W_goodPairs 36 = .ok (.iload_n 3, 1) := by decide +kernel
theorem d_W_goodPairs_37 : decode b_W_goodPairs 37 = .ok (.if_icmp .ge 69, 3) := by decide +kernel
theorem d_W_goodPairs_40 : decode b_W_goodPairs 40 = .ok (.iload_n 2, 1) := by decide +kernel
theorem d_W_goodPairs_41 : decode b_W_goodPairs 41 = .ok (.iconst 2, 1) := by decide +kernel
theorem d_W_goodPairs_42 : decode b_W_goodPairs 42 = .ok (.iload 5, 2) := by decide +kernel
theorem d_W_goodPairs_44 : decode b_W_goodPairs 44 = .ok (.imul, 1) := by decide +kernel
theorem d_W_goodPairs_45 : decode b_W_goodPairs 45 = .ok (.iadd, 1) := by decide +kernel
theorem d_W_goodPairs_46 : decode b_W_goodPairs 46 = .ok (.istore 6, 2) := by decide +kernel
theorem d_W_goodPairs_48 : decode b_W_goodPairs 48 = .ok (.aload_n 0, 1) := by decide +kernel
theorem d_W_goodPairs_49 : decode b_W_goodPairs 49 = .ok (.iload_n 1, 1) := by decide +kernel
theorem d_W_goodPairs_50 : decode b_W_goodPairs 50 = .ok (.iload 6, 2) := by decide +kernel
theorem d_W_goodPairs_52 : decode b_W_goodPairs 52 = .ok (.iconst 2, 1) := by decide +kernel
theorem d_W_goodPairs_53 : decode b_W_goodPairs 53 = .ok (.invokevirtual 214, 3) := by decide +kernel
theorem d_W_goodPairs_56 : decode b_W_goodPairs 56 = .ok (.ifCond .ne 6, 3) := by decide +kernel
theorem d_W_goodPairs_59 : decode b_W_goodPairs 59 = .ok (.iload 4, 2) := by decide +kernel
theorem d_W_goodPairs_61 : decode b_W_goodPairs 61 = .ok (.ireturn, 1) := by decide +kernel
theorem d_W_goodPairs_62 : decode b_W_goodPairs 62 = .ok (.aload_n 0, 1) := by decide +kernel
theorem d_W_goodPairs_63 : decode b_W_goodPairs 63 = .ok (.getfield 34, 3) := by decide +kernel
theorem d_W_goodPairs_66 : decode b_W_goodPairs 66 = .ok (.aload_n 0, 1) := by decide +kernel
theorem d_W_goodPairs_67 : decode b_W_goodPairs 67 = .ok (.getfield 70, 3) := by decide +kernel
theorem d_W_goodPairs_70 : decode b_W_goodPairs 70 = .ok (.iload_n 1, 1) := by decide +kernel
theorem d_W_goodPairs_71 : decode b_W_goodPairs 71 = .ok (.aaload, 1) := by decide +kernel
theorem d_W_goodPairs_72 : decode b_W_goodPairs 72 = .ok (.iload 6, 2) := by decide +kernel
theorem d_W_goodPairs_74 : decode b_W_goodPairs 74 = .ok (.laload, 1) := by decide +kernel
theorem d_W_goodPairs_75 : decode b_W_goodPairs 75 = .ok (.l2i, 1) := by decide +kernel
theorem d_W_goodPairs_76 : decode b_W_goodPairs 76 = .ok (.aload_n 0, 1) := by decide +kernel
theorem d_W_goodPairs_77 : decode b_W_goodPairs 77 = .ok (.getfield 70, 3) := by decide +kernel
theorem d_W_goodPairs_80 : decode b_W_goodPairs 80 = .ok (.iload_n 1, 1) := by decide +kernel
theorem d_W_goodPairs_81 : decode b_W_goodPairs 81 = .ok (.aaload, 1) := by decide +kernel
theorem d_W_goodPairs_82 : decode b_W_goodPairs 82 = .ok (.iload 6, 2) := by decide +kernel
theorem d_W_goodPairs_84 : decode b_W_goodPairs 84 = .ok (.iconst 1, 1) := by decide +kernel
theorem d_W_goodPairs_85 : decode b_W_goodPairs 85 = .ok (.iadd, 1) := by decide +kernel
theorem d_W_goodPairs_86 : decode b_W_goodPairs 86 = .ok (.laload, 1) := by decide +kernel
theorem d_W_goodPairs_87 : decode b_W_goodPairs 87 = .ok (.l2i, 1) := by decide +kernel
theorem d_W_goodPairs_88 : decode b_W_goodPairs 88 = .ok (.invokevirtual 331, 3) := by decide +kernel
theorem d_W_goodPairs_91 : decode b_W_goodPairs 91 = .ok (.ifCond .ne 6, 3) := by decide +kernel
theorem d_W_goodPairs_94 : decode b_W_goodPairs 94 = .ok (.iload 4, 2) := by decide +kernel
theorem d_W_goodPairs_96 : decode b_W_goodPairs 96 = .ok (.ireturn, 1) := by decide +kernel
theorem d_W_goodPairs_97 : decode b_W_goodPairs 97 = .ok (.iinc 4 1, 3) := by decide +kernel
theorem d_W_goodPairs_100 : decode b_W_goodPairs 100 = .ok (.iinc 5 1, 3) := by decide +kernel
theorem d_W_goodPairs_103 : decode b_W_goodPairs 103 = .ok (.goto (-69), 3) := by decide +kernel
theorem d_W_goodPairs_106 : decode b_W_goodPairs 106 = .ok (.iload 4, 2) := by decide +kernel
theorem d_W_goodPairs_108 : decode b_W_goodPairs 108 = .ok (.ireturn, 1) := by decide +kernel
abbrev b_W_proof : ByteArray := prog_1_method_18_code
abbrev y_W_proof : MethodName := ⟨"WhoRules", "proof", "(III)I"⟩
theorem d_W_proof_0 : decode b_W_proof 0 = .ok (.iload_n 1, 1) := by decide +kernel
theorem d_W_proof_1 : decode b_W_proof 1 = .ok (.invokestatic 208, 3) := by decide +kernel
theorem d_W_proof_4 : decode b_W_proof 4 = .ok (.ifCond .ne 5, 3) := by decide +kernel
theorem d_W_proof_7 : decode b_W_proof 7 = .ok (.iconst (-1), 1) := by decide +kernel
theorem d_W_proof_8 : decode b_W_proof 8 = .ok (.ireturn, 1) := by decide +kernel
theorem d_W_proof_9 : decode b_W_proof 9 = .ok (.iload_n 3, 1) := by decide +kernel
theorem d_W_proof_10 : decode b_W_proof 10 = .ok (.iconst 1, 1) := by decide +kernel
theorem d_W_proof_11 : decode b_W_proof 11 = .ok (.if_icmp .lt 9, 3) := by decide +kernel
theorem d_W_proof_14 : decode b_W_proof 14 = .ok (.iload_n 3, 1) := by decide +kernel
theorem d_W_proof_15 : decode b_W_proof 15 = .ok (.bipush 7, 2) := by decide +kernel
theorem d_W_proof_17 : decode b_W_proof 17 = .ok (.if_icmp .le 6, 3) := by decide +kernel
theorem d_W_proof_20 : decode b_W_proof 20 = .ok (.bipush (-2), 2) := by decide +kernel
theorem d_W_proof_22 : decode b_W_proof 22 = .ok (.ireturn, 1) := by decide +kernel
theorem d_W_proof_23 : decode b_W_proof 23 = .ok (.aload_n 0, 1) := by decide +kernel
theorem d_W_proof_24 : decode b_W_proof 24 = .ok (.getfield 62, 3) := by decide +kernel
theorem d_W_proof_27 : decode b_W_proof 27 = .ok (.iload_n 1, 1) := by decide +kernel
theorem d_W_proof_28 : decode b_W_proof 28 = .ok (.iaload, 1) := by decide +kernel
theorem d_W_proof_29 : decode b_W_proof 29 = .ok (.iconst (-1), 1) := by decide +kernel
theorem d_W_proof_30 : decode b_W_proof 30 = .ok (.if_icmp .ne 6, 3) := by decide +kernel
theorem d_W_proof_33 : decode b_W_proof 33 = .ok (.bipush 100, 2) := by decide +kernel
theorem d_W_proof_35 : decode b_W_proof 35 = .ok (.ireturn, 1) := by decide +kernel
theorem d_W_proof_36 : decode b_W_proof 36 = .ok (.aload_n 0, 1) := by decide +kernel
theorem d_W_proof_37 : decode b_W_proof 37 = .ok (.getfield 62, 3) := by decide +kernel
theorem d_W_proof_40 : decode b_W_proof 40 = .ok (.iload_n 1, 1) := by decide +kernel
theorem d_W_proof_41 : decode b_W_proof 41 = .ok (.iaload, 1) := by decide +kernel
theorem d_W_proof_42 : decode b_W_proof 42 = .ok (.iconst 1, 1) := by decide +kernel
theorem d_W_proof_43 : decode b_W_proof 43 = .ok (.if_icmp .eq 6, 3) := by decide +kernel
theorem d_W_proof_46 : decode b_W_proof 46 = .ok (.bipush (-12), 2) := by decide +kernel
theorem d_W_proof_48 : decode b_W_proof 48 = .ok (.ireturn, 1) := by decide +kernel
theorem d_W_proof_49 : decode b_W_proof 49 = .ok (.aload_n 0, 1) := by decide +kernel
theorem d_W_proof_50 : decode b_W_proof 50 = .ok (.iload_n 1, 1) := by decide +kernel
theorem d_W_proof_51 : decode b_W_proof 51 = .ok (.iload_n 2, 1) := by decide +kernel
theorem d_W_proof_52 : decode b_W_proof 52 = .ok (.iload_n 3, 1) := by decide +kernel
theorem d_W_proof_53 : decode b_W_proof 53 = .ok (.invokevirtual 211, 3) := by decide +kernel
theorem d_W_proof_56 : decode b_W_proof 56 = .ok (.istore 4, 2) := by decide +kernel
theorem d_W_proof_58 : decode b_W_proof 58 = .ok (.aload_n 0, 1) := by decide +kernel
theorem d_W_proof_59 : decode b_W_proof 59 = .ok (.iload_n 1, 1) := by decide +kernel
theorem d_W_proof_60 : decode b_W_proof 60 = .ok (.iload_n 2, 1) := by decide +kernel
theorem d_W_proof_61 : decode b_W_proof 61 = .ok (.iconst 2, 1) := by decide +kernel
theorem d_W_proof_62 : decode b_W_proof 62 = .ok (.iload_n 3, 1) := by decide +kernel
theorem d_W_proof_63 : decode b_W_proof 63 = .ok (.imul, 1) := by decide +kernel
theorem d_W_proof_64 : decode b_W_proof 64 = .ok (.invokevirtual 214, 3) := by decide +kernel
theorem d_W_proof_67 : decode b_W_proof 67 = .ok (.ifCond .eq 8, 3) := by decide +kernel
theorem d_W_proof_70 : decode b_W_proof 70 = .ok (.iload 4, 2) := by decide +kernel
theorem d_W_proof_72 : decode b_W_proof 72 = .ok (.goto 8, 3) := by decide +kernel
theorem d_W_proof_75 : decode b_W_proof 75 = .ok (.iload 4, 2) := by decide +kernel
theorem d_W_proof_77 : decode b_W_proof 77 = .ok (.bipush 100, 2) := by decide +kernel
theorem d_W_proof_79 : decode b_W_proof 79 = .ok (.iadd, 1) := by decide +kernel
theorem d_W_proof_80 : decode b_W_proof 80 = .ok (.ireturn, 1) := by decide +kernel
abbrev b_F_load : ByteArray := prog_5_method_2_code
abbrev y_F_load : MethodName := ⟨"WhoRules$Flow", "load", "()V"⟩
theorem d_F_load_0 : decode b_F_load 0 = .ok (.aload_n 0, 1) := by decide +kernel
theorem d_F_load_1 : decode b_F_load 1 = .ok (.getfield 37, 3) := by decide +kernel
theorem d_F_load_4 : decode b_F_load 4 = .ok (.aload_n 0, 1) := by decide +kernel
theorem d_F_load_5 : decode b_F_load 5 = .ok (.getfield 37, 3) := by decide +kernel
theorem d_F_load_8 : decode b_F_load 8 = .ok (.getfield 41, 3) := by decide +kernel
theorem d_F_load_11 : decode b_F_load 11 = .ok (.invokevirtual 47, 3) := by decide +kernel
theorem d_F_load_14 : decode b_F_load 14 = .ok (.iconst 0, 1) := by decide +kernel
theorem d_F_load_15 : decode b_F_load 15 = .ok (.istore_n 1, 1) := by decide +kernel
theorem d_F_load_16 : decode b_F_load 16 = .ok (.iload_n 1, 1) := by decide +kernel
theorem d_F_load_17 : decode b_F_load 17 = .ok (.aload_n 0, 1) := by decide +kernel
theorem d_F_load_18 : decode b_F_load 18 = .ok (.getfield 37, 3) := by decide +kernel
theorem d_F_load_21 : decode b_F_load 21 = .ok (.getfield 51, 3) := by decide +kernel
theorem d_F_load_24 : decode b_F_load 24 = .ok (.if_icmp .ge 43, 3) := by decide +kernel
theorem d_F_load_27 : decode b_F_load 27 = .ok (.aload_n 0, 1) := by decide +kernel
theorem d_F_load_28 : decode b_F_load 28 = .ok (.getfield 11, 3) := by decide +kernel
theorem d_F_load_31 : decode b_F_load 31 = .ok (.aload_n 0, 1) := by decide +kernel
theorem d_F_load_32 : decode b_F_load 32 = .ok (.getfield 37, 3) := by decide +kernel
theorem d_F_load_35 : decode b_F_load 35 = .ok (.getfield 54, 3) := by decide +kernel
theorem d_F_load_38 : decode b_F_load 38 = .ok (.iload_n 1, 1) := by decide +kernel
theorem d_F_load_39 : decode b_F_load 39 = .ok (.iaload, 1) := by decide +kernel
theorem d_F_load_40 : decode b_F_load 40 = .ok (.aaload, 1) := by decide +kernel
theorem d_F_load_41 : decode b_F_load 41 = .ok (.iconst 0, 1) := by decide +kernel
theorem d_F_load_42 : decode b_F_load 42 = .ok (.invokestatic 57, 3) := by decide +kernel
theorem d_F_load_45 : decode b_F_load 45 = .ok (.aload_n 0, 1) := by decide +kernel
theorem d_F_load_46 : decode b_F_load 46 = .ok (.getfield 16, 3) := by decide +kernel
theorem d_F_load_49 : decode b_F_load 49 = .ok (.aload_n 0, 1) := by decide +kernel
theorem d_F_load_50 : decode b_F_load 50 = .ok (.getfield 37, 3) := by decide +kernel
theorem d_F_load_53 : decode b_F_load 53 = .ok (.getfield 54, 3) := by decide +kernel
theorem d_F_load_56 : decode b_F_load 56 = .ok (.iload_n 1, 1) := by decide +kernel
theorem d_F_load_57 : decode b_F_load 57 = .ok (.iaload, 1) := by decide +kernel
theorem d_F_load_58 : decode b_F_load 58 = .ok (.bipush 12, 2) := by decide +kernel
theorem d_F_load_60 : decode b_F_load 60 = .ok (.iastore, 1) := by decide +kernel
theorem d_F_load_61 : decode b_F_load 61 = .ok (.iinc 1 1, 3) := by decide +kernel
theorem d_F_load_64 : decode b_F_load 64 = .ok (.goto (-48), 3) := by decide +kernel
theorem d_F_load_67 : decode b_F_load 67 = .ok (.iconst 0, 1) := by decide +kernel
theorem d_F_load_68 : decode b_F_load 68 = .ok (.istore_n 1, 1) := by decide +kernel
theorem d_F_load_69 : decode b_F_load 69 = .ok (.iload_n 1, 1) := by decide +kernel
theorem d_F_load_70 : decode b_F_load 70 = .ok (.aload_n 0, 1) := by decide +kernel
theorem d_F_load_71 : decode b_F_load 71 = .ok (.getfield 37, 3) := by decide +kernel
theorem d_F_load_74 : decode b_F_load 74 = .ok (.getfield 63, 3) := by decide +kernel
theorem d_F_load_77 : decode b_F_load 77 = .ok (.if_icmp .ge 83, 3) := by decide +kernel
theorem d_F_load_80 : decode b_F_load 80 = .ok (.aload_n 0, 1) := by decide +kernel
theorem d_F_load_81 : decode b_F_load 81 = .ok (.getfield 37, 3) := by decide +kernel
theorem d_F_load_84 : decode b_F_load 84 = .ok (.getfield 66, 3) := by decide +kernel
theorem d_F_load_87 : decode b_F_load 87 = .ok (.iload_n 1, 1) := by decide +kernel
theorem d_F_load_88 : decode b_F_load 88 = .ok (.iaload, 1) := by decide +kernel
theorem d_F_load_89 : decode b_F_load 89 = .ok (.ifCond .lt 65, 3) := by decide +kernel
theorem d_F_load_92 : decode b_F_load 92 = .ok (.aload_n 0, 1) := by decide +kernel
theorem d_F_load_93 : decode b_F_load 93 = .ok (.getfield 11, 3) := by decide +kernel
theorem d_F_load_96 : decode b_F_load 96 = .ok (.aload_n 0, 1) := by decide +kernel
theorem d_F_load_97 : decode b_F_load 97 = .ok (.getfield 37, 3) := by decide +kernel
theorem d_F_load_100 : decode b_F_load 100 = .ok (.getfield 69, 3) := by decide +kernel
theorem d_F_load_103 : decode b_F_load 103 = .ok (.iload_n 1, 1) := by decide +kernel
theorem d_F_load_104 : decode b_F_load 104 = .ok (.iaload, 1) := by decide +kernel
theorem d_F_load_105 : decode b_F_load 105 = .ok (.aaload, 1) := by decide +kernel
theorem d_F_load_106 : decode b_F_load 106 = .ok (.aload_n 0, 1) := by decide +kernel
theorem d_F_load_107 : decode b_F_load 107 = .ok (.getfield 37, 3) := by decide +kernel
theorem d_F_load_110 : decode b_F_load 110 = .ok (.getfield 66, 3) := by decide +kernel
theorem d_F_load_113 : decode b_F_load 113 = .ok (.iload_n 1, 1) := by decide +kernel
theorem d_F_load_114 : decode b_F_load 114 = .ok (.iaload, 1) := by decide +kernel
theorem d_F_load_115 : decode b_F_load 115 = .ok (.dup2, 1) := by decide +kernel
theorem d_F_load_116 : decode b_F_load 116 = .ok (.iaload, 1) := by decide +kernel
theorem d_F_load_117 : decode b_F_load 117 = .ok (.aload_n 0, 1) := by decide +kernel
theorem d_F_load_118 : decode b_F_load 118 = .ok (.getfield 37, 3) := by decide +kernel
theorem d_F_load_121 : decode b_F_load 121 = .ok (.getfield 72, 3) := by decide +kernel
theorem d_F_load_124 : decode b_F_load 124 = .ok (.iload_n 1, 1) := by decide +kernel
theorem d_F_load_125 : decode b_F_load 125 = .ok (.iaload, 1) := by decide +kernel
theorem d_F_load_126 : decode b_F_load 126 = .ok (.iadd, 1) := by decide +kernel
theorem d_F_load_127 : decode b_F_load 127 = .ok (.iastore, 1) := by decide +kernel
theorem d_F_load_128 : decode b_F_load 128 = .ok (.aload_n 0, 1) := by decide +kernel
theorem d_F_load_129 : decode b_F_load 129 = .ok (.getfield 16, 3) := by decide +kernel
theorem d_F_load_132 : decode b_F_load 132 = .ok (.aload_n 0, 1) := by decide +kernel
theorem d_F_load_133 : decode b_F_load 133 = .ok (.getfield 37, 3) := by decide +kernel
theorem d_F_load_136 : decode b_F_load 136 = .ok (.getfield 69, 3) := by decide +kernel
theorem d_F_load_139 : decode b_F_load 139 = .ok (.iload_n 1, 1) := by decide +kernel
theorem d_F_load_140 : decode b_F_load 140 = .ok (.iaload, 1) := by decide +kernel
theorem d_F_load_141 : decode b_F_load 141 = .ok (.dup2, 1) := by decide +kernel
theorem d_F_load_142 : decode b_F_load 142 = .ok (.iaload, 1) := by decide +kernel
theorem d_F_load_143 : decode b_F_load 143 = .ok (.aload_n 0, 1) := by decide +kernel
theorem d_F_load_144 : decode b_F_load 144 = .ok (.getfield 37, 3) := by decide +kernel
theorem d_F_load_147 : decode b_F_load 147 = .ok (.getfield 72, 3) := by decide +kernel
theorem d_F_load_150 : decode b_F_load 150 = .ok (.iload_n 1, 1) := by decide +kernel
theorem d_F_load_151 : decode b_F_load 151 = .ok (.iaload, 1) := by decide +kernel
theorem d_F_load_152 : decode b_F_load 152 = .ok (.isub, 1) := by decide +kernel
theorem d_F_load_153 : decode b_F_load 153 = .ok (.iastore, 1) := by decide +kernel
theorem d_F_load_154 : decode b_F_load 154 = .ok (.iinc 1 1, 3) := by decide +kernel
theorem d_F_load_157 : decode b_F_load 157 = .ok (.goto (-88), 3) := by decide +kernel
theorem d_F_load_160 : decode b_F_load 160 = .ok (.return_, 1) := by decide +kernel
abbrev b_F_givesOut : ByteArray := prog_5_method_5_code
abbrev y_F_givesOut : MethodName := ⟨"WhoRules$Flow", "givesOut", "(II)Z"⟩
theorem d_F_givesOut_0 : decode b_F_givesOut 0 = .ok (.iconst 0, 1) := by decide +kernel
theorem d_F_givesOut_1 : decode b_F_givesOut 1 = .ok (.istore_n 3, 1) := by decide +kernel
theorem d_F_givesOut_2 : decode b_F_givesOut 2 = .ok (.iload_n 3, 1) := by decide +kernel
theorem d_F_givesOut_3 : decode b_F_givesOut 3 = .ok (.aload_n 0, 1) := by decide +kernel
theorem d_F_givesOut_4 : decode b_F_givesOut 4 = .ok (.getfield 37, 3) := by decide +kernel
theorem d_F_givesOut_7 : decode b_F_givesOut 7 = .ok (.getfield 85, 3) := by decide +kernel
theorem d_F_givesOut_10 : decode b_F_givesOut 10 = .ok (.if_icmp .ge 42, 3) := by decide +kernel
theorem d_F_givesOut_13 : decode b_F_givesOut 13 = .ok (.aload_n 0, 1) := by decide +kernel
theorem d_F_givesOut_14 : decode b_F_givesOut 14 = .ok (.getfield 11, 3) := by decide +kernel
theorem d_F_givesOut_17 : decode b_F_givesOut 17 = .ok (.iload_n 1, 1) := by decide +kernel
theorem d_F_givesOut_18 : decode b_F_givesOut 18 = .ok (.aaload, 1) := by decide +kernel
theorem d_F_givesOut_19 : decode b_F_givesOut 19 = .ok (.iload_n 3, 1) := by decide +kernel
theorem d_F_givesOut_20 : decode b_F_givesOut 20 = .ok (.iaload, 1) := by decide +kernel
theorem d_F_givesOut_21 : decode b_F_givesOut 21 = .ok (.ifCond .le 25, 3) := by decide +kernel
theorem d_F_givesOut_24 : decode b_F_givesOut 24 = .ok (.aload_n 0, 1) := by decide +kernel
theorem d_F_givesOut_25 : decode b_F_givesOut 25 = .ok (.getfield 37, 3) := by decide +kernel
theorem d_F_givesOut_28 : decode b_F_givesOut 28 = .ok (.iload_n 3, 1) := by decide +kernel
theorem d_F_givesOut_29 : decode b_F_givesOut 29 = .ok (.invokevirtual 88, 3) := by decide +kernel
theorem d_F_givesOut_32 : decode b_F_givesOut 32 = .ok (.ifCond .eq 12, 3) := by decide +kernel
theorem d_F_givesOut_35 : decode b_F_givesOut 35 = .ok (.iload_n 2, 1) := by decide +kernel
theorem d_F_givesOut_36 : decode b_F_givesOut 36 = .ok (.iload_n 3, 1) := by decide +kernel
theorem d_F_givesOut_37 : decode b_F_givesOut 37 = .ok (.ishr, 1) := by decide +kernel
theorem d_F_givesOut_38 : decode b_F_givesOut 38 = .ok (.iconst 1, 1) := by decide +kernel
theorem d_F_givesOut_39 : decode b_F_givesOut 39 = .ok (.iand, 1) := by decide +kernel
theorem d_F_givesOut_40 : decode b_F_givesOut 40 = .ok (.iconst 1, 1) := by decide +kernel
theorem d_F_givesOut_41 : decode b_F_givesOut 41 = .ok (.if_icmp .ne 5, 3) := by decide +kernel
theorem d_F_givesOut_44 : decode b_F_givesOut 44 = .ok (.iconst 1, 1) := by decide +kernel
theorem d_F_givesOut_45 : decode b_F_givesOut 45 = .ok (.ireturn, 1) := by decide +kernel
theorem d_F_givesOut_46 : decode b_F_givesOut 46 = .ok (.iinc 3 1, 3) := by decide +kernel
theorem d_F_givesOut_49 : decode b_F_givesOut 49 = .ok (.goto (-47), 3) := by decide +kernel
theorem d_F_givesOut_52 : decode b_F_givesOut 52 = .ok (.iconst 0, 1) := by decide +kernel
theorem d_F_givesOut_53 : decode b_F_givesOut 53 = .ok (.ireturn, 1) := by decide +kernel
abbrev b_F_openFirms : ByteArray := prog_5_method_4_code
abbrev y_F_openFirms : MethodName := ⟨"WhoRules$Flow", "openFirms", "()I"⟩
theorem d_F_openFirms_0 : decode b_F_openFirms 0 = .ok (.iconst 0, 1) := by decide +kernel
theorem d_F_openFirms_1 : decode b_F_openFirms 1 = .ok (.istore_n 1, 1) := by decide +kernel
theorem d_F_openFirms_2 : decode b_F_openFirms 2 = .ok (.iconst 0, 1) := by decide +kernel
theorem d_F_openFirms_3 : decode b_F_openFirms 3 = .ok (.istore_n 2, 1) := by decide +kernel
theorem d_F_openFirms_4 : decode b_F_openFirms 4 = .ok (.iload_n 2, 1) := by decide +kernel
theorem d_F_openFirms_5 : decode b_F_openFirms 5 = .ok (.bipush 7, 2) := by decide +kernel
theorem d_F_openFirms_7 : decode b_F_openFirms 7 = .ok (.if_icmp .ge 70, 3) := by decide +kernel
theorem d_F_openFirms_10 : decode b_F_openFirms 10 = .ok (.iconst 0, 1) := by decide +kernel
theorem d_F_openFirms_11 : decode b_F_openFirms 11 = .ok (.istore_n 3, 1) := by decide +kernel
theorem d_F_openFirms_12 : decode b_F_openFirms 12 = .ok (.iload_n 3, 1) := by decide +kernel
theorem d_F_openFirms_13 : decode b_F_openFirms 13 = .ok (.aload_n 0, 1) := by decide +kernel
theorem d_F_openFirms_14 : decode b_F_openFirms 14 = .ok (.getfield 37, 3) := by decide +kernel
theorem d_F_openFirms_17 : decode b_F_openFirms 17 = .ok (.getfield 51, 3) := by decide +kernel
theorem d_F_openFirms_20 : decode b_F_openFirms 20 = .ok (.if_icmp .ge 51, 3) := by decide +kernel
theorem d_F_openFirms_23 : decode b_F_openFirms 23 = .ok (.aload_n 0, 1) := by decide +kernel
theorem d_F_openFirms_24 : decode b_F_openFirms 24 = .ok (.getfield 37, 3) := by decide +kernel
theorem d_F_openFirms_27 : decode b_F_openFirms 27 = .ok (.getfield 54, 3) := by decide +kernel
theorem d_F_openFirms_30 : decode b_F_openFirms 30 = .ok (.iload_n 3, 1) := by decide +kernel
theorem d_F_openFirms_31 : decode b_F_openFirms 31 = .ok (.iaload, 1) := by decide +kernel
theorem d_F_openFirms_32 : decode b_F_openFirms 32 = .ok (.istore 4, 2) := by decide +kernel
theorem d_F_openFirms_34 : decode b_F_openFirms 34 = .ok (.iload_n 1, 1) := by decide +kernel
theorem d_F_openFirms_35 : decode b_F_openFirms 35 = .ok (.aload_n 0, 1) := by decide +kernel
theorem d_F_openFirms_36 : decode b_F_openFirms 36 = .ok (.getfield 16, 3) := by decide +kernel
theorem d_F_openFirms_39 : decode b_F_openFirms 39 = .ok (.iload 4, 2) := by decide +kernel
theorem d_F_openFirms_41 : decode b_F_openFirms 41 = .ok (.iaload, 1) := by decide +kernel
theorem d_F_openFirms_42 : decode b_F_openFirms 42 = .ok (.ifCond .gt 13, 3) := by decide +kernel
theorem d_F_openFirms_45 : decode b_F_openFirms 45 = .ok (.aload_n 0, 1) := by decide +kernel
theorem d_F_openFirms_46 : decode b_F_openFirms 46 = .ok (.iload 4, 2) := by decide +kernel
theorem d_F_openFirms_48 : decode b_F_openFirms 48 = .ok (.iload_n 1, 1) := by decide +kernel
theorem d_F_openFirms_49 : decode b_F_openFirms 49 = .ok (.invokevirtual 81, 3) := by decide +kernel
theorem d_F_openFirms_52 : decode b_F_openFirms 52 = .ok (.ifCond .eq 10, 3) := by decide +kernel
theorem d_F_openFirms_55 : decode b_F_openFirms 55 = .ok (.iconst 1, 1) := by decide +kernel
theorem d_F_openFirms_56 : decode b_F_openFirms 56 = .ok (.iload 4, 2) := by decide +kernel
theorem d_F_openFirms_58 : decode b_F_openFirms 58 = .ok (.ishl, 1) := by decide +kernel
theorem d_F_openFirms_59 : decode b_F_openFirms 59 = .ok (.goto 4, 3) := by decide +kernel
theorem d_F_openFirms_62 : decode b_F_openFirms 62 = .ok (.iconst 0, 1) := by decide +kernel
theorem d_F_openFirms_63 : decode b_F_openFirms 63 = .ok (.ior, 1) := by decide +kernel
theorem d_F_openFirms_64 : decode b_F_openFirms 64 = .ok (.istore_n 1, 1) := by decide +kernel
theorem d_F_openFirms_65 : decode b_F_openFirms 65 = .ok (.iinc 3 1, 3) := by decide +kernel
theorem d_F_openFirms_68 : decode b_F_openFirms 68 = .ok (.goto (-56), 3) := by decide +kernel
theorem d_F_openFirms_71 : decode b_F_openFirms 71 = .ok (.iinc 2 1, 3) := by decide +kernel
theorem d_F_openFirms_74 : decode b_F_openFirms 74 = .ok (.goto (-70), 3) := by decide +kernel
theorem d_F_openFirms_77 : decode b_F_openFirms 77 = .ok (.iload_n 1, 1) := by decide +kernel
theorem d_F_openFirms_78 : decode b_F_openFirms 78 = .ok (.ireturn, 1) := by decide +kernel
abbrev b_F_putInOrder : ByteArray := prog_5_method_7_code
abbrev y_F_putInOrder : MethodName := ⟨"WhoRules$Flow", "putInOrder", "(II)I"⟩
theorem d_F_putInOrder_0 : decode b_F_putInOrder 0 = .ok (.iconst 0, 1) := by decide +kernel
theorem d_F_putInOrder_1 : decode b_F_putInOrder 1 = .ok (.istore_n 3, 1) := by decide +kernel
theorem d_F_putInOrder_2 : decode b_F_putInOrder 2 = .ok (.iconst 0, 1) := by decide +kernel
theorem d_F_putInOrder_3 : decode b_F_putInOrder 3 = .ok (.istore 4, 2) := by decide +kernel
theorem d_F_putInOrder_5 : decode b_F_putInOrder 5 = .ok (.iload 4, 2) := by decide +kernel
theorem d_F_putInOrder_7 : decode b_F_putInOrder 7 = .ok (.aload_n 0, 1) := by decide +kernel
theorem d_F_putInOrder_8 : decode b_F_putInOrder 8 = .ok (.getfield 37, 3) := by decide +kernel
theorem d_F_putInOrder_11 : decode b_F_putInOrder 11 = .ok (.getfield 51, 3) := by decide +kernel
theorem d_F_putInOrder_14 : decode b_F_putInOrder 14 = .ok (.if_icmp .ge 48, 3) := by decide +kernel
theorem d_F_putInOrder_17 : decode b_F_putInOrder 17 = .ok (.aload_n 0, 1) := by decide +kernel
theorem d_F_putInOrder_18 : decode b_F_putInOrder 18 = .ok (.getfield 37, 3) := by decide +kernel
theorem d_F_putInOrder_21 : decode b_F_putInOrder 21 = .ok (.getfield 54, 3) := by decide +kernel
theorem d_F_putInOrder_24 : decode b_F_putInOrder 24 = .ok (.iload 4, 2) := by decide +kernel
theorem d_F_putInOrder_26 : decode b_F_putInOrder 26 = .ok (.iaload, 1) := by decide +kernel
theorem d_F_putInOrder_27 : decode b_F_putInOrder 27 = .ok (.istore 5, 2) := by decide +kernel
theorem d_F_putInOrder_29 : decode b_F_putInOrder 29 = .ok (.iload 5, 2) := by decide +kernel
theorem d_F_putInOrder_31 : decode b_F_putInOrder 31 = .ok (.iload_n 2, 1) := by decide +kernel
theorem d_F_putInOrder_32 : decode b_F_putInOrder 32 = .ok (.if_icmp .eq 24, 3) := by decide +kernel
theorem d_F_putInOrder_35 : decode b_F_putInOrder 35 = .ok (.iload_n 1, 1) := by decide +kernel
theorem d_F_putInOrder_36 : decode b_F_putInOrder 36 = .ok (.iload 5, 2) := by decide +kernel
theorem d_F_putInOrder_38 : decode b_F_putInOrder 38 = .ok (.ishr, 1) := by decide +kernel
theorem d_F_putInOrder_39 : decode b_F_putInOrder 39 = .ok (.iconst 1, 1) := by decide +kernel
theorem d_F_putInOrder_40 : decode b_F_putInOrder 40 = .ok (.iand, 1) := by decide +kernel
theorem d_F_putInOrder_41 : decode b_F_putInOrder 41 = .ok (.iconst 1, 1) := by decide +kernel
theorem d_F_putInOrder_42 : decode b_F_putInOrder 42 = .ok (.if_icmp .ne 14, 3) := by decide +kernel
theorem d_F_putInOrder_45 : decode b_F_putInOrder 45 = .ok (.aload_n 0, 1) := by decide +kernel
theorem d_F_putInOrder_46 : decode b_F_putInOrder 46 = .ok (.getfield 29, 3) := by decide +kernel
theorem d_F_putInOrder_49 : decode b_F_putInOrder 49 = .ok (.iload_n 3, 1) := by decide +kernel
theorem d_F_putInOrder_50 : decode b_F_putInOrder 50 = .ok (.iload 5, 2) := by decide +kernel
theorem d_F_putInOrder_52 : decode b_F_putInOrder 52 = .ok (.iastore, 1) := by decide +kernel
theorem d_F_putInOrder_53 : decode b_F_putInOrder 53 = .ok (.iinc 3 1, 3) := by decide +kernel
theorem d_F_putInOrder_56 : decode b_F_putInOrder 56 = .ok (.iinc 4 1, 3) := by decide +kernel
theorem d_F_putInOrder_59 : decode b_F_putInOrder 59 = .ok (.goto (-54), 3) := by decide +kernel
theorem d_F_putInOrder_62 : decode b_F_putInOrder 62 = .ok (.aload_n 0, 1) := by decide +kernel
theorem d_F_putInOrder_63 : decode b_F_putInOrder 63 = .ok (.getfield 29, 3) := by decide +kernel
theorem d_F_putInOrder_66 : decode b_F_putInOrder 66 = .ok (.iload_n 3, 1) := by decide +kernel
theorem d_F_putInOrder_67 : decode b_F_putInOrder 67 = .ok (.iload_n 2, 1) := by decide +kernel
theorem d_F_putInOrder_68 : decode b_F_putInOrder 68 = .ok (.iastore, 1) := by decide +kernel
theorem d_F_putInOrder_69 : decode b_F_putInOrder 69 = .ok (.iload_n 3, 1) := by decide +kernel
theorem d_F_putInOrder_70 : decode b_F_putInOrder 70 = .ok (.iconst 1, 1) := by decide +kernel
theorem d_F_putInOrder_71 : decode b_F_putInOrder 71 = .ok (.iadd, 1) := by decide +kernel
theorem d_F_putInOrder_72 : decode b_F_putInOrder 72 = .ok (.ireturn, 1) := by decide +kernel
abbrev b_F_writeLines : ByteArray := prog_5_method_8_code
abbrev y_F_writeLines : MethodName := ⟨"WhoRules$Flow", "writeLines", "(II)V"⟩
theorem d_F_writeLines_0 : decode b_F_writeLines 0 = .ok (.iconst 0, 1) := by decide +kernel
theorem d_F_writeLines_1 : decode b_F_writeLines 1 = .ok (.istore_n 3, 1) := by decide +kernel
theorem d_F_writeLines_2 : decode b_F_writeLines 2 = .ok (.iload_n 3, 1) := by decide +kernel
theorem d_F_writeLines_3 : decode b_F_writeLines 3 = .ok (.iload_n 1, 1) := by decide +kernel
theorem d_F_writeLines_4 : decode b_F_writeLines 4 = .ok (.if_icmp .ge 88, 3) := by decide +kernel
theorem d_F_writeLines_7 : decode b_F_writeLines 7 = .ok (.iconst 0, 1) := by decide +kernel
theorem d_F_writeLines_8 : decode b_F_writeLines 8 = .ok (.istore 4, 2) := by decide +kernel
theorem d_F_writeLines_10 : decode b_F_writeLines 10 = .ok (.iload 4, 2) := by decide +kernel
theorem d_F_writeLines_12 : decode b_F_writeLines 12 = .ok (.iload_n 1, 1) := by decide +kernel
theorem d_F_writeLines_13 : decode b_F_writeLines 13 = .ok (.if_icmp .ge 51, 3) := by decide +kernel
theorem d_F_writeLines_16 : decode b_F_writeLines 16 = .ok (.aload_n 0, 1) := by decide +kernel
theorem d_F_writeLines_17 : decode b_F_writeLines 17 = .ok (.getfield 34, 3) := by decide +kernel
theorem d_F_writeLines_20 : decode b_F_writeLines 20 = .ok (.iload_n 3, 1) := by decide +kernel
theorem d_F_writeLines_21 : decode b_F_writeLines 21 = .ok (.aaload, 1) := by decide +kernel
theorem d_F_writeLines_22 : decode b_F_writeLines 22 = .ok (.iload 4, 2) := by decide +kernel
theorem d_F_writeLines_24 : decode b_F_writeLines 24 = .ok (.iload_n 3, 1) := by decide +kernel
theorem d_F_writeLines_25 : decode b_F_writeLines 25 = .ok (.iload 4, 2) := by decide +kernel
theorem d_F_writeLines_27 : decode b_F_writeLines 27 = .ok (.if_icmp .ne 8, 3) := by decide +kernel
theorem d_F_writeLines_30 : decode b_F_writeLines 30 = .ok (.bipush 12, 2) := by decide +kernel
theorem d_F_writeLines_32 : decode b_F_writeLines 32 = .ok (.goto 4, 3) := by decide +kernel
theorem d_F_writeLines_35 : decode b_F_writeLines 35 = .ok (.iconst 0, 1) := by decide +kernel
theorem d_F_writeLines_36 : decode b_F_writeLines 36 = .ok (.aload_n 0, 1) := by decide +kernel
theorem d_F_writeLines_37 : decode b_F_writeLines 37 = .ok (.getfield 11, 3) := by decide +kernel
theorem d_F_writeLines_40 : decode b_F_writeLines 40 = .ok (.aload_n 0, 1) := by decide +kernel
theorem d_F_writeLines_41 : decode b_F_writeLines 41 = .ok (.getfield 29, 3) := by decide +kernel
theorem d_F_writeLines_44 : decode b_F_writeLines 44 = .ok (.iload_n 3, 1) := by decide +kernel
theorem d_F_writeLines_45 : decode b_F_writeLines 45 = .ok (.iaload, 1) := by decide +kernel
theorem d_F_writeLines_46 : decode b_F_writeLines 46 = .ok (.aaload, 1) := by decide +kernel
theorem d_F_writeLines_47 : decode b_F_writeLines 47 = .ok (.aload_n 0, 1) := by decide +kernel
theorem d_F_writeLines_48 : decode b_F_writeLines 48 = .ok (.getfield 29, 3) := by decide +kernel
theorem d_F_writeLines_51 : decode b_F_writeLines 51 = .ok (.iload 4, 2) := by decide +kernel
theorem d_F_writeLines_53 : decode b_F_writeLines 53 = .ok (.iaload, 1) := by decide +kernel
theorem d_F_writeLines_54 : decode b_F_writeLines 54 = .ok (.iaload, 1) := by decide +kernel
theorem d_F_writeLines_55 : decode b_F_writeLines 55 = .ok (.isub, 1) := by decide +kernel
theorem d_F_writeLines_56 : decode b_F_writeLines 56 = .ok (.i2l, 1) := by decide +kernel
theorem d_F_writeLines_57 : decode b_F_writeLines 57 = .ok (.lastore, 1) := by decide +kernel
theorem d_F_writeLines_58 : decode b_F_writeLines 58 = .ok (.iinc 4 1, 3) := by decide +kernel
theorem d_F_writeLines_61 : decode b_F_writeLines 61 = .ok (.goto (-51), 3) := by decide +kernel
theorem d_F_writeLines_64 : decode b_F_writeLines 64 = .ok (.aload_n 0, 1) := by decide +kernel
theorem d_F_writeLines_65 : decode b_F_writeLines 65 = .ok (.getfield 34, 3) := by decide +kernel
theorem d_F_writeLines_68 : decode b_F_writeLines 68 = .ok (.iload_n 3, 1) := by decide +kernel
theorem d_F_writeLines_69 : decode b_F_writeLines 69 = .ok (.aaload, 1) := by decide +kernel
theorem d_F_writeLines_70 : decode b_F_writeLines 70 = .ok (.iload_n 1, 1) := by decide +kernel
theorem d_F_writeLines_71 : decode b_F_writeLines 71 = .ok (.aload_n 0, 1) := by decide +kernel
theorem d_F_writeLines_72 : decode b_F_writeLines 72 = .ok (.getfield 11, 3) := by decide +kernel
theorem d_F_writeLines_75 : decode b_F_writeLines 75 = .ok (.aload_n 0, 1) := by decide +kernel
theorem d_F_writeLines_76 : decode b_F_writeLines 76 = .ok (.getfield 29, 3) := by decide +kernel
theorem d_F_writeLines_79 : decode b_F_writeLines 79 = .ok (.iload_n 3, 1) := by decide +kernel
theorem d_F_writeLines_80 : decode b_F_writeLines 80 = .ok (.iaload, 1) := by decide +kernel
theorem d_F_writeLines_81 : decode b_F_writeLines 81 = .ok (.aaload, 1) := by decide +kernel
theorem d_F_writeLines_82 : decode b_F_writeLines 82 = .ok (.iload_n 2, 1) := by decide +kernel
theorem d_F_writeLines_83 : decode b_F_writeLines 83 = .ok (.iaload, 1) := by decide +kernel
theorem d_F_writeLines_84 : decode b_F_writeLines 84 = .ok (.i2l, 1) := by decide +kernel
theorem d_F_writeLines_85 : decode b_F_writeLines 85 = .ok (.lastore, 1) := by decide +kernel
theorem d_F_writeLines_86 : decode b_F_writeLines 86 = .ok (.iinc 3 1, 3) := by decide +kernel
theorem d_F_writeLines_89 : decode b_F_writeLines 89 = .ok (.goto (-87), 3) := by decide +kernel
theorem d_F_writeLines_92 : decode b_F_writeLines 92 = .ok (.return_, 1) := by decide +kernel
abbrev b_F_eliminate : ByteArray := prog_5_method_9_code
abbrev y_F_eliminate : MethodName := ⟨"WhoRules$Flow", "eliminate", "(I)V"⟩
theorem d_F_eliminate_0 : decode b_F_eliminate 0 = .ok (.lconst 1, 1) := by decide +kernel
theorem d_F_eliminate_1 : decode b_F_eliminate 1 = .ok (.lstore_n 2, 1) := by decide +kernel
theorem d_F_eliminate_2 : decode b_F_eliminate 2 = .ok (.iconst 0, 1) := by decide +kernel
theorem d_F_eliminate_3 : decode b_F_eliminate 3 = .ok (.istore 4, 2) := by decide +kernel
theorem d_F_eliminate_5 : decode b_F_eliminate 5 = .ok (.iload 4, 2) := by decide +kernel
theorem d_F_eliminate_7 : decode b_F_eliminate 7 = .ok (.iload_n 1, 1) := by decide +kernel
theorem d_F_eliminate_8 : decode b_F_eliminate 8 = .ok (.iconst 1, 1) := by decide +kernel
theorem d_F_eliminate_9 : decode b_F_eliminate 9 = .ok (.isub, 1) := by decide +kernel
theorem d_F_eliminate_10 : decode b_F_eliminate 10 = .ok (.if_icmp .ge 125, 3) := by decide +kernel
theorem d_F_eliminate_13 : decode b_F_eliminate 13 = .ok (.iload 4, 2) := by decide +kernel
theorem d_F_eliminate_15 : decode b_F_eliminate 15 = .ok (.iconst 1, 1) := by decide +kernel
theorem d_F_eliminate_16 : decode b_F_eliminate 16 = .ok (.iadd, 1) := by decide +kernel
theorem d_F_eliminate_17 : decode b_F_eliminate 17 = .ok (.istore 5, 2) := by decide +kernel
theorem d_F_eliminate_19 : decode b_F_eliminate 19 = .ok (.iload 5, 2) := by decide +kernel
theorem d_F_eliminate_21 : decode b_F_eliminate 21 = .ok (.iload_n 1, 1) := by decide +kernel
theorem d_F_eliminate_22 : decode b_F_eliminate 22 = .ok (.if_icmp .ge 96, 3) := by decide +kernel
theorem d_F_eliminate_25 : decode b_F_eliminate 25 = .ok (.iload 4, 2) := by decide +kernel
theorem d_F_eliminate_27 : decode b_F_eliminate 27 = .ok (.iconst 1, 1) := by decide +kernel
theorem d_F_eliminate_28 : decode b_F_eliminate 28 = .ok (.iadd, 1) := by decide +kernel
theorem d_F_eliminate_29 : decode b_F_eliminate 29 = .ok (.istore 6, 2) := by decide +kernel
theorem d_F_eliminate_31 : decode b_F_eliminate 31 = .ok (.iload 6, 2) := by decide +kernel
theorem d_F_eliminate_33 : decode b_F_eliminate 33 = .ok (.iload_n 1, 1) := by decide +kernel
theorem d_F_eliminate_34 : decode b_F_eliminate 34 = .ok (.if_icmp .gt 78, 3) := by decide +kernel
theorem d_F_eliminate_37 : decode b_F_eliminate 37 = .ok (.aload_n 0, 1) := by decide +kernel
theorem d_F_eliminate_38 : decode b_F_eliminate 38 = .ok (.getfield 34, 3) := by decide +kernel
theorem d_F_eliminate_41 : decode b_F_eliminate 41 = .ok (.iload 4, 2) := by decide +kernel
theorem d_F_eliminate_43 : decode b_F_eliminate 43 = .ok (.aaload, 1) := by decide +kernel
theorem d_F_eliminate_44 : decode b_F_eliminate 44 = .ok (.iload 4, 2) := by decide +kernel
theorem d_F_eliminate_46 : decode b_F_eliminate 46 = .ok (.laload, 1) := by decide +kernel
theorem d_F_eliminate_47 : decode b_F_eliminate 47 = .ok (.aload_n 0, 1) := by decide +kernel
theorem d_F_eliminate_48 : decode b_F_eliminate 48 = .ok (.getfield 34, 3) := by decide +kernel
theorem d_F_eliminate_51 : decode b_F_eliminate 51 = .ok (.iload 5, 2) := by decide +kernel
theorem d_F_eliminate_53 : decode b_F_eliminate 53 = .ok (.aaload, 1) := by decide +kernel
theorem d_F_eliminate_54 : decode b_F_eliminate 54 = .ok (.iload 6, 2) := by decide +kernel
theorem d_F_eliminate_56 : decode b_F_eliminate 56 = .ok (.laload, 1) := by decide +kernel
theorem d_F_eliminate_57 : decode b_F_eliminate 57 = .ok (.lmul, 1) := by decide +kernel
theorem d_F_eliminate_58 : decode b_F_eliminate 58 = .ok (.aload_n 0, 1) := by decide +kernel
theorem d_F_eliminate_59 : decode b_F_eliminate 59 = .ok (.getfield 34, 3) := by decide +kernel
theorem d_F_eliminate_62 : decode b_F_eliminate 62 = .ok (.iload 5, 2) := by decide +kernel
theorem d_F_eliminate_64 : decode b_F_eliminate 64 = .ok (.aaload, 1) := by decide +kernel
theorem d_F_eliminate_65 : decode b_F_eliminate 65 = .ok (.iload 4, 2) := by decide +kernel
theorem d_F_eliminate_67 : decode b_F_eliminate 67 = .ok (.laload, 1) := by decide +kernel
theorem d_F_eliminate_68 : decode b_F_eliminate 68 = .ok (.aload_n 0, 1) := by decide +kernel
theorem d_F_eliminate_69 : decode b_F_eliminate 69 = .ok (.getfield 34, 3) := by decide +kernel
theorem d_F_eliminate_72 : decode b_F_eliminate 72 = .ok (.iload 4, 2) := by decide +kernel
theorem d_F_eliminate_74 : decode b_F_eliminate 74 = .ok (.aaload, 1) := by decide +kernel
theorem d_F_eliminate_75 : decode b_F_eliminate 75 = .ok (.iload 6, 2) := by decide +kernel
theorem d_F_eliminate_77 : decode b_F_eliminate 77 = .ok (.laload, 1) := by decide +kernel
theorem d_F_eliminate_78 : decode b_F_eliminate 78 = .ok (.lmul, 1) := by decide +kernel
theorem d_F_eliminate_79 : decode b_F_eliminate 79 = .ok (.lsub, 1) := by decide +kernel
theorem d_F_eliminate_80 : decode b_F_eliminate 80 = .ok (.lstore 7, 2) := by decide +kernel
theorem d_F_eliminate_82 : decode b_F_eliminate 82 = .ok (.aload_n 0, 1) := by decide +kernel
theorem d_F_eliminate_83 : decode b_F_eliminate 83 = .ok (.getfield 34, 3) := by decide +kernel
theorem d_F_eliminate_86 : decode b_F_eliminate 86 = .ok (.iload 5, 2) := by decide +kernel
theorem d_F_eliminate_88 : decode b_F_eliminate 88 = .ok (.aaload, 1) := by decide +kernel
theorem d_F_eliminate_89 : decode b_F_eliminate 89 = .ok (.iload 6, 2) := by decide +kernel
theorem d_F_eliminate_91 : decode b_F_eliminate 91 = .ok (.lload_n 2, 1) := by decide +kernel
theorem d_F_eliminate_92 : decode b_F_eliminate 92 = .ok (.lconst 0, 1) := by decide +kernel
theorem d_F_eliminate_93 : decode b_F_eliminate 93 = .ok (.lcmp, 1) := by decide +kernel
theorem d_F_eliminate_94 : decode b_F_eliminate 94 = .ok (.ifCond .ne 7, 3) := by decide +kernel
theorem d_F_eliminate_97 : decode b_F_eliminate 97 = .ok (.lconst 0, 1) := by decide +kernel
theorem d_F_eliminate_98 : decode b_F_eliminate 98 = .ok (.goto 7, 3) := by decide +kernel
theorem d_F_eliminate_101 : decode b_F_eliminate 101 = .ok (.lload 7, 2) := by decide +kernel
theorem d_F_eliminate_103 : decode b_F_eliminate 103 = .ok (.lload_n 2, 1) := by decide +kernel
theorem d_F_eliminate_104 : decode b_F_eliminate 104 = .ok (.ldiv, 1) := by decide +kernel
theorem d_F_eliminate_105 : decode b_F_eliminate 105 = .ok (.lastore, 1) := by decide +kernel
theorem d_F_eliminate_106 : decode b_F_eliminate 106 = .ok (.iinc 6 1, 3) := by decide +kernel
theorem d_F_eliminate_109 : decode b_F_eliminate 109 = .ok (.goto (-78), 3) := by decide +kernel
theorem d_F_eliminate_112 : decode b_F_eliminate 112 = .ok (.iinc 5 1, 3) := by decide +kernel
theorem d_F_eliminate_115 : decode b_F_eliminate 115 = .ok (.goto (-96), 3) := by decide +kernel
theorem d_F_eliminate_118 : decode b_F_eliminate 118 = .ok (.aload_n 0, 1) := by decide +kernel
theorem d_F_eliminate_119 : decode b_F_eliminate 119 = .ok (.getfield 34, 3) := by decide +kernel
theorem d_F_eliminate_122 : decode b_F_eliminate 122 = .ok (.iload 4, 2) := by decide +kernel
theorem d_F_eliminate_124 : decode b_F_eliminate 124 = .ok (.aaload, 1) := by decide +kernel
theorem d_F_eliminate_125 : decode b_F_eliminate 125 = .ok (.iload 4, 2) := by decide +kernel
theorem d_F_eliminate_127 : decode b_F_eliminate 127 = .ok (.laload, 1) := by decide +kernel
theorem d_F_eliminate_128 : decode b_F_eliminate 128 = .ok (.lstore_n 2, 1) := by decide +kernel
theorem d_F_eliminate_129 : decode b_F_eliminate 129 = .ok (.iinc 4 1, 3) := by decide +kernel
theorem d_F_eliminate_132 : decode b_F_eliminate 132 = .ok (.goto (-127), 3) := by decide +kernel
theorem d_F_eliminate_135 : decode b_F_eliminate 135 = .ok (.return_, 1) := by decide +kernel
abbrev b_F_greatestDivisor : ByteArray := prog_5_method_10_code
abbrev y_F_greatestDivisor : MethodName := ⟨"WhoRules$Flow", "greatestDivisor", "(JJ)J"⟩
theorem d_F_greatestDivisor_0 : decode b_F_greatestDivisor 0 = .ok (.lload_n 0, 1) := by decide +kernel
theorem d_F_greatestDivisor_1 : decode b_F_greatestDivisor 1 = .ok (.lstore 4, 2) := by decide +kernel
theorem d_F_greatestDivisor_3 : decode b_F_greatestDivisor 3 = .ok (.lload_n 2, 1) := by decide +kernel
theorem d_F_greatestDivisor_4 : decode b_F_greatestDivisor 4 = .ok (.lstore 6, 2) := by decide +kernel
theorem d_F_greatestDivisor_6 : decode b_F_greatestDivisor 6 = .ok (.iconst 0, 1) := by decide +kernel
theorem d_F_greatestDivisor_7 : decode b_F_greatestDivisor 7 = .ok (.istore 8, 2) := by decide +kernel
theorem d_F_greatestDivisor_9 : decode b_F_greatestDivisor 9 = .ok (.iload 8, 2) := by decide +kernel
theorem d_F_greatestDivisor_11 : decode b_F_greatestDivisor 11 = .ok (.sipush 200, 3) := by decide +kernel
theorem d_F_greatestDivisor_14 : decode b_F_greatestDivisor 14 = .ok (.if_icmp .ge 31, 3) := by decide +kernel
theorem d_F_greatestDivisor_17 : decode b_F_greatestDivisor 17 = .ok (.lload 6, 2) := by decide +kernel
theorem d_F_greatestDivisor_19 : decode b_F_greatestDivisor 19 = .ok (.lconst 0, 1) := by decide +kernel
theorem d_F_greatestDivisor_20 : decode b_F_greatestDivisor 20 = .ok (.lcmp, 1) := by decide +kernel
theorem d_F_greatestDivisor_21 : decode b_F_greatestDivisor 21 = .ok (.ifCond .eq 24, 3) := by decide +kernel
theorem d_F_greatestDivisor_24 : decode b_F_greatestDivisor 24 = .ok (.lload 4, 2) := by decide +kernel
theorem d_F_greatestDivisor_26 : decode b_F_greatestDivisor 26 = .ok (.lload 6, 2) := by decide +kernel
theorem d_F_greatestDivisor_28 : decode b_F_greatestDivisor 28 = .ok (.lrem, 1) := by decide +kernel
theorem d_F_greatestDivisor_29 : decode b_F_greatestDivisor 29 = .ok (.lstore 9, 2) := by decide +kernel
theorem d_F_greatestDivisor_31 : decode b_F_greatestDivisor 31 = .ok (.lload 6, 2) := by decide +kernel
theorem d_F_greatestDivisor_33 : decode b_F_greatestDivisor 33 = .ok (.lstore 4, 2) := by decide +kernel
theorem d_F_greatestDivisor_35 : decode b_F_greatestDivisor 35 = .ok (.lload 9, 2) := by decide +kernel
theorem d_F_greatestDivisor_37 : decode b_F_greatestDivisor 37 = .ok (.lstore 6, 2) := by decide +kernel
theorem d_F_greatestDivisor_39 : decode b_F_greatestDivisor 39 = .ok (.iinc 8 1, 3) := by decide +kernel
theorem d_F_greatestDivisor_42 : decode b_F_greatestDivisor 42 = .ok (.goto (-33), 3) := by decide +kernel
theorem d_F_greatestDivisor_45 : decode b_F_greatestDivisor 45 = .ok (.lload 4, 2) := by decide +kernel
theorem d_F_greatestDivisor_47 : decode b_F_greatestDivisor 47 = .ok (.lreturn, 1) := by decide +kernel
abbrev b_F_unroll : ByteArray := prog_5_method_6_code
abbrev y_F_unroll : MethodName := ⟨"WhoRules$Flow", "unroll", "(II)V"⟩
theorem d_F_unroll_0 : decode b_F_unroll 0 = .ok (.aload_n 0, 1) := by decide +kernel
theorem d_F_unroll_1 : decode b_F_unroll 1 = .ok (.invokevirtual 74, 3) := by decide +kernel
theorem d_F_unroll_4 : decode b_F_unroll 4 = .ok (.aload_n 0, 1) := by decide +kernel
theorem d_F_unroll_5 : decode b_F_unroll 5 = .ok (.lconst 0, 1) := by decide +kernel
theorem d_F_unroll_6 : decode b_F_unroll 6 = .ok (.putfield 92, 3) := by decide +kernel
theorem d_F_unroll_9 : decode b_F_unroll 9 = .ok (.aload_n 0, 1) := by decide +kernel
theorem d_F_unroll_10 : decode b_F_unroll 10 = .ok (.lconst 1, 1) := by decide +kernel
theorem d_F_unroll_11 : decode b_F_unroll 11 = .ok (.putfield 96, 3) := by decide +kernel
theorem d_F_unroll_14 : decode b_F_unroll 14 = .ok (.aload_n 0, 1) := by decide +kernel
theorem d_F_unroll_15 : decode b_F_unroll 15 = .ok (.invokevirtual 77, 3) := by decide +kernel
theorem d_F_unroll_18 : decode b_F_unroll 18 = .ok (.istore_n 3, 1) := by decide +kernel
theorem d_F_unroll_19 : decode b_F_unroll 19 = .ok (.iload_n 3, 1) := by decide +kernel
theorem d_F_unroll_20 : decode b_F_unroll 20 = .ok (.iload_n 1, 1) := by decide +kernel
theorem d_F_unroll_21 : decode b_F_unroll 21 = .ok (.ishr, 1) := by decide +kernel
theorem d_F_unroll_22 : decode b_F_unroll 22 = .ok (.iconst 1, 1) := by decide +kernel
theorem d_F_unroll_23 : decode b_F_unroll 23 = .ok (.iand, 1) := by decide +kernel
theorem d_F_unroll_24 : decode b_F_unroll 24 = .ok (.ifCond .ne 4, 3) := by decide +kernel
theorem d_F_unroll_27 : decode b_F_unroll 27 = .ok (.return_, 1) := by decide +kernel
theorem d_F_unroll_28 : decode b_F_unroll 28 = .ok (.aload_n 0, 1) := by decide +kernel
theorem d_F_unroll_29 : decode b_F_unroll 29 = .ok (.iload_n 3, 1) := by decide +kernel
theorem d_F_unroll_30 : decode b_F_unroll 30 = .ok (.iload_n 1, 1) := by decide +kernel
theorem d_F_unroll_31 : decode b_F_unroll 31 = .ok (.invokevirtual 99, 3) := by decide +kernel
theorem d_F_unroll_34 : decode b_F_unroll 34 = .ok (.istore 4, 2) := by decide +kernel
theorem d_F_unroll_36 : decode b_F_unroll 36 = .ok (.aload_n 0, 1) := by decide +kernel
theorem d_F_unroll_37 : decode b_F_unroll 37 = .ok (.iload 4, 2) := by decide +kernel
theorem d_F_unroll_39 : decode b_F_unroll 39 = .ok (.iload_n 2, 1) := by decide +kernel
theorem d_F_unroll_40 : decode b_F_unroll 40 = .ok (.invokevirtual 103, 3) := by decide +kernel
theorem d_F_unroll_43 : decode b_F_unroll 43 = .ok (.aload_n 0, 1) := by decide +kernel
theorem d_F_unroll_44 : decode b_F_unroll 44 = .ok (.iload 4, 2) := by decide +kernel
theorem d_F_unroll_46 : decode b_F_unroll 46 = .ok (.invokevirtual 107, 3) := by decide +kernel
theorem d_F_unroll_49 : decode b_F_unroll 49 = .ok (.aload_n 0, 1) := by decide +kernel
theorem d_F_unroll_50 : decode b_F_unroll 50 = .ok (.getfield 34, 3) := by decide +kernel
theorem d_F_unroll_53 : decode b_F_unroll 53 = .ok (.iload 4, 2) := by decide +kernel
theorem d_F_unroll_55 : decode b_F_unroll 55 = .ok (.iconst 1, 1) := by decide +kernel
theorem d_F_unroll_56 : decode b_F_unroll 56 = .ok (.isub, 1) := by decide +kernel
theorem d_F_unroll_57 : decode b_F_unroll 57 = .ok (.aaload, 1) := by decide +kernel
theorem d_F_unroll_58 : decode b_F_unroll 58 = .ok (.iload 4, 2) := by decide +kernel
theorem d_F_unroll_60 : decode b_F_unroll 60 = .ok (.laload, 1) := by decide +kernel
theorem d_F_unroll_61 : decode b_F_unroll 61 = .ok (.aload_n 0, 1) := by decide +kernel
theorem d_F_unroll_62 : decode b_F_unroll 62 = .ok (.getfield 34, 3) := by decide +kernel
theorem d_F_unroll_65 : decode b_F_unroll 65 = .ok (.iload 4, 2) := by decide +kernel
theorem d_F_unroll_67 : decode b_F_unroll 67 = .ok (.iconst 1, 1) := by decide +kernel
theorem d_F_unroll_68 : decode b_F_unroll 68 = .ok (.isub, 1) := by decide +kernel
theorem d_F_unroll_69 : decode b_F_unroll 69 = .ok (.aaload, 1) := by decide +kernel
theorem d_F_unroll_70 : decode b_F_unroll 70 = .ok (.iload 4, 2) := by decide +kernel
theorem d_F_unroll_72 : decode b_F_unroll 72 = .ok (.iconst 1, 1) := by decide +kernel
theorem d_F_unroll_73 : decode b_F_unroll 73 = .ok (.isub, 1) := by decide +kernel
theorem d_F_unroll_74 : decode b_F_unroll 74 = .ok (.laload, 1) := by decide +kernel
theorem d_F_unroll_75 : decode b_F_unroll 75 = .ok (.invokestatic 110, 3) := by decide +kernel
theorem d_F_unroll_78 : decode b_F_unroll 78 = .ok (.lstore 5, 2) := by decide +kernel
theorem d_F_unroll_80 : decode b_F_unroll 80 = .ok (.lload 5, 2) := by decide +kernel
theorem d_F_unroll_82 : decode b_F_unroll 82 = .ok (.lconst 0, 1) := by decide +kernel
theorem d_F_unroll_83 : decode b_F_unroll 83 = .ok (.lcmp, 1) := by decide +kernel
theorem d_F_unroll_84 : decode b_F_unroll 84 = .ok (.ifCond .le 43, 3) := by decide +kernel
theorem d_F_unroll_87 : decode b_F_unroll 87 = .ok (.aload_n 0, 1) := by decide +kernel
theorem d_F_unroll_88 : decode b_F_unroll 88 = .ok (.aload_n 0, 1) := by decide +kernel
theorem d_F_unroll_89 : decode b_F_unroll 89 = .ok (.getfield 34, 3) := by decide +kernel
theorem d_F_unroll_92 : decode b_F_unroll 92 = .ok (.iload 4, 2) := by decide +kernel
theorem d_F_unroll_94 : decode b_F_unroll 94 = .ok (.iconst 1, 1) := by decide +kernel
theorem d_F_unroll_95 : decode b_F_unroll 95 = .ok (.isub, 1) := by decide +kernel
theorem d_F_unroll_96 : decode b_F_unroll 96 = .ok (.aaload, 1) := by decide +kernel
theorem d_F_unroll_97 : decode b_F_unroll 97 = .ok (.iload 4, 2) := by decide +kernel
theorem d_F_unroll_99 : decode b_F_unroll 99 = .ok (.laload, 1) := by decide +kernel
theorem d_F_unroll_100 : decode b_F_unroll 100 = .ok (.lload 5, 2) := by decide +kernel
theorem d_F_unroll_102 : decode b_F_unroll 102 = .ok (.ldiv, 1) := by decide +kernel
theorem d_F_unroll_103 : decode b_F_unroll 103 = .ok (.putfield 92, 3) := by decide +kernel
theorem d_F_unroll_106 : decode b_F_unroll 106 = .ok (.aload_n 0, 1) := by decide +kernel
theorem d_F_unroll_107 : decode b_F_unroll 107 = .ok (.aload_n 0, 1) := by decide +kernel
theorem d_F_unroll_108 : decode b_F_unroll 108 = .ok (.getfield 34, 3) := by decide +kernel
theorem d_F_unroll_111 : decode b_F_unroll 111 = .ok (.iload 4, 2) := by decide +kernel
theorem d_F_unroll_113 : decode b_F_unroll 113 = .ok (.iconst 1, 1) := by decide +kernel
theorem d_F_unroll_114 : decode b_F_unroll 114 = .ok (.isub, 1) := by decide +kernel
theorem d_F_unroll_115 : decode b_F_unroll 115 = .ok (.aaload, 1) := by decide +kernel
theorem d_F_unroll_116 : decode b_F_unroll 116 = .ok (.iload 4, 2) := by decide +kernel
theorem d_F_unroll_118 : decode b_F_unroll 118 = .ok (.iconst 1, 1) := by decide +kernel
theorem d_F_unroll_119 : decode b_F_unroll 119 = .ok (.isub, 1) := by decide +kernel
theorem d_F_unroll_120 : decode b_F_unroll 120 = .ok (.laload, 1) := by decide +kernel
theorem d_F_unroll_121 : decode b_F_unroll 121 = .ok (.lload 5, 2) := by decide +kernel
theorem d_F_unroll_123 : decode b_F_unroll 123 = .ok (.ldiv, 1) := by decide +kernel
theorem d_F_unroll_124 : decode b_F_unroll 124 = .ok (.putfield 96, 3) := by decide +kernel
theorem d_F_unroll_127 : decode b_F_unroll 127 = .ok (.return_, 1) := by decide +kernel
abbrev b_W_worth : ByteArray := prog_1_method_19_code
abbrev y_W_worth : MethodName := ⟨"WhoRules", "worth", "(III)J"⟩
theorem d_W_worth_0 : decode b_W_worth 0 = .ok (.aload_n 0, 1) := by decide +kernel
theorem d_W_worth_1 : decode b_W_worth 1 = .ok (.getfield 18, 3) := by decide +kernel
theorem d_W_worth_4 : decode b_W_worth 4 = .ok (.iload_n 1, 1) := by decide +kernel
theorem d_W_worth_5 : decode b_W_worth 5 = .ok (.invokevirtual 87, 3) := by decide +kernel
theorem d_W_worth_8 : decode b_W_worth 8 = .ok (.ifCond .eq 25, 3) := by decide +kernel
theorem d_W_worth_11 : decode b_W_worth 11 = .ok (.aload_n 0, 1) := by decide +kernel
theorem d_W_worth_12 : decode b_W_worth 12 = .ok (.getfield 18, 3) := by decide +kernel
theorem d_W_worth_15 : decode b_W_worth 15 = .ok (.iload_n 2, 1) := by decide +kernel
theorem d_W_worth_16 : decode b_W_worth 16 = .ok (.invokevirtual 91, 3) := by decide +kernel
theorem d_W_worth_19 : decode b_W_worth 19 = .ok (.ifCond .eq 14, 3) := by decide +kernel
theorem d_W_worth_22 : decode b_W_worth 22 = .ok (.aload_n 0, 1) := by decide +kernel
theorem d_W_worth_23 : decode b_W_worth 23 = .ok (.getfield 18, 3) := by decide +kernel
theorem d_W_worth_26 : decode b_W_worth 26 = .ok (.iload_n 2, 1) := by decide +kernel
theorem d_W_worth_27 : decode b_W_worth 27 = .ok (.invokevirtual 87, 3) := by decide +kernel
theorem d_W_worth_30 : decode b_W_worth 30 = .ok (.ifCond .eq 7, 3) := by decide +kernel
theorem d_W_worth_33 : decode b_W_worth 33 = .ok (.ldc2_w 218, 3) := by decide +kernel
theorem d_W_worth_36 : decode b_W_worth 36 = .ok (.lreturn, 1) := by decide +kernel
theorem d_W_worth_37 : decode b_W_worth 37 = .ok (.iload_n 3, 1) := by decide +kernel
theorem d_W_worth_38 : decode b_W_worth 38 = .ok (.ifCond .lt 8, 3) := by decide +kernel
theorem d_W_worth_41 : decode b_W_worth 41 = .ok (.iload_n 3, 1) := by decide +kernel
theorem d_W_worth_42 : decode b_W_worth 42 = .ok (.iconst 1, 1) := by decide +kernel
theorem d_W_worth_43 : decode b_W_worth 43 = .ok (.if_icmp .le 7, 3) := by decide +kernel
theorem d_W_worth_46 : decode b_W_worth 46 = .ok (.ldc2_w 218, 3) := by decide +kernel
theorem d_W_worth_49 : decode b_W_worth 49 = .ok (.lreturn, 1) := by decide +kernel
theorem d_W_worth_50 : decode b_W_worth 50 = .ok (.aload_n 0, 1) := by decide +kernel
theorem d_W_worth_51 : decode b_W_worth 51 = .ok (.getfield 52, 3) := by decide +kernel
theorem d_W_worth_54 : decode b_W_worth 54 = .ok (.iload_n 1, 1) := by decide +kernel
theorem d_W_worth_55 : decode b_W_worth 55 = .ok (.iload_n 2, 1) := by decide +kernel
theorem d_W_worth_56 : decode b_W_worth 56 = .ok (.invokevirtual 220, 3) := by decide +kernel
theorem d_W_worth_59 : decode b_W_worth 59 = .ok (.iload_n 3, 1) := by decide +kernel
theorem d_W_worth_60 : decode b_W_worth 60 = .ok (.ifCond .ne 13, 3) := by decide +kernel
theorem d_W_worth_63 : decode b_W_worth 63 = .ok (.aload_n 0, 1) := by decide +kernel
theorem d_W_worth_64 : decode b_W_worth 64 = .ok (.getfield 52, 3) := by decide +kernel
theorem d_W_worth_67 : decode b_W_worth 67 = .ok (.getfield 223, 3) := by decide +kernel
theorem d_W_worth_70 : decode b_W_worth 70 = .ok (.goto 10, 3) := by decide +kernel
theorem d_W_worth_73 : decode b_W_worth 73 = .ok (.aload_n 0, 1) := by decide +kernel
theorem d_W_worth_74 : decode b_W_worth 74 = .ok (.getfield 52, 3) := by decide +kernel
theorem d_W_worth_77 : decode b_W_worth 77 = .ok (.getfield 227, 3) := by decide +kernel
theorem d_W_worth_80 : decode b_W_worth 80 = .ok (.lreturn, 1) := by decide +kernel
abbrev b_F_isHollow : ByteArray := prog_5_method_3_code
abbrev y_F_isHollow : MethodName := ⟨"WhoRules$Flow", "isHollow", "(I)Z"⟩
theorem d_F_isHollow_0 : decode b_F_isHollow 0 = .ok (.aload_n 0, 1) := by decide +kernel
theorem d_F_isHollow_1 : decode b_F_isHollow 1 = .ok (.invokevirtual 74, 3) := by decide +kernel
theorem d_F_isHollow_4 : decode b_F_isHollow 4 = .ok (.aload_n 0, 1) := by decide +kernel
theorem d_F_isHollow_5 : decode b_F_isHollow 5 = .ok (.invokevirtual 77, 3) := by decide +kernel
theorem d_F_isHollow_8 : decode b_F_isHollow 8 = .ok (.iload_n 1, 1) := by decide +kernel
theorem d_F_isHollow_9 : decode b_F_isHollow 9 = .ok (.ishr, 1) := by decide +kernel
theorem d_F_isHollow_10 : decode b_F_isHollow 10 = .ok (.iconst 1, 1) := by decide +kernel
theorem d_F_isHollow_11 : decode b_F_isHollow 11 = .ok (.iand, 1) := by decide +kernel
theorem d_F_isHollow_12 : decode b_F_isHollow 12 = .ok (.ifCond .ne 7, 3) := by decide +kernel
theorem d_F_isHollow_15 : decode b_F_isHollow 15 = .ok (.iconst 1, 1) := by decide +kernel
theorem d_F_isHollow_16 : decode b_F_isHollow 16 = .ok (.goto 4, 3) := by decide +kernel
theorem d_F_isHollow_19 : decode b_F_isHollow 19 = .ok (.iconst 0, 1) := by decide +kernel
theorem d_F_isHollow_20 : decode b_F_isHollow 20 = .ok (.ireturn, 1) := by decide +kernel
abbrev b_W_hollow : ByteArray := prog_1_method_20_code
abbrev y_W_hollow : MethodName := ⟨"WhoRules", "hollow", "(I)I"⟩
theorem d_W_hollow_0 : decode b_W_hollow 0 = .ok (.aload_n 0, 1) := by decide +kernel
theorem d_W_hollow_1 : decode b_W_hollow 1 = .ok (.getfield 18, 3) := by decide +kernel
theorem d_W_hollow_4 : decode b_W_hollow 4 = .ok (.iload_n 1, 1) := by decide +kernel
theorem d_W_hollow_5 : decode b_W_hollow 5 = .ok (.invokevirtual 87, 3) := by decide +kernel
theorem d_W_hollow_8 : decode b_W_hollow 8 = .ok (.ifCond .ne 5, 3) := by decide +kernel
theorem d_W_hollow_11 : decode b_W_hollow 11 = .ok (.iconst (-1), 1) := by decide +kernel
theorem d_W_hollow_12 : decode b_W_hollow 12 = .ok (.ireturn, 1) := by decide +kernel
theorem d_W_hollow_13 : decode b_W_hollow 13 = .ok (.aload_n 0, 1) := by decide +kernel
theorem d_W_hollow_14 : decode b_W_hollow 14 = .ok (.getfield 52, 3) := by decide +kernel
theorem d_W_hollow_17 : decode b_W_hollow 17 = .ok (.iload_n 1, 1) := by decide +kernel
theorem d_W_hollow_18 : decode b_W_hollow 18 = .ok (.invokevirtual 230, 3) := by decide +kernel
theorem d_W_hollow_21 : decode b_W_hollow 21 = .ok (.ifCond .eq 7, 3) := by decide +kernel
theorem d_W_hollow_24 : decode b_W_hollow 24 = .ok (.iconst 1, 1) := by decide +kernel
theorem d_W_hollow_25 : decode b_W_hollow 25 = .ok (.goto 4, 3) := by decide +kernel
theorem d_W_hollow_28 : decode b_W_hollow 28 = .ok (.iconst 0, 1) := by decide +kernel
theorem d_W_hollow_29 : decode b_W_hollow 29 = .ok (.ireturn, 1) := by decide +kernel
abbrev b_U_voice : ByteArray := prog_11_method_18_code
abbrev y_U_voice : MethodName := ⟨"WhoRules$Rule", "voice", "(I)I"⟩
theorem d_U_voice_0 : decode b_U_voice 0 = .ok (.aload_n 0, 1) := by decide +kernel
theorem d_U_voice_1 : decode b_U_voice 1 = .ok (.getfield 37, 3) := by decide +kernel
theorem d_U_voice_4 : decode b_U_voice 4 = .ok (.iload_n 1, 1) := by decide +kernel
theorem d_U_voice_5 : decode b_U_voice 5 = .ok (.iaload, 1) := by decide +kernel
theorem d_U_voice_6 : decode b_U_voice 6 = .ok (.ifCond .lt 12, 3) := by decide +kernel
theorem d_U_voice_9 : decode b_U_voice 9 = .ok (.aload_n 0, 1) := by decide +kernel
theorem d_U_voice_10 : decode b_U_voice 10 = .ok (.getfield 37, 3) := by decide +kernel
theorem d_U_voice_13 : decode b_U_voice 13 = .ok (.iload_n 1, 1) := by decide +kernel
theorem d_U_voice_14 : decode b_U_voice 14 = .ok (.iaload, 1) := by decide +kernel
theorem d_U_voice_15 : decode b_U_voice 15 = .ok (.goto 4, 3) := by decide +kernel
theorem d_U_voice_18 : decode b_U_voice 18 = .ok (.iload_n 1, 1) := by decide +kernel
theorem d_U_voice_19 : decode b_U_voice 19 = .ok (.ireturn, 1) := by decide +kernel
abbrev b_S_sumBlocks : ByteArray := prog_12_method_11_code
abbrev y_S_sumBlocks : MethodName := ⟨"WhoRules$Search", "sumBlocks", "(I)I"⟩
theorem d_S_sumBlocks_0 : decode b_S_sumBlocks 0 = .ok (.aload_n 0, 1) := by decide +kernel
theorem d_S_sumBlocks_1 : decode b_S_sumBlocks 1 = .ok (.getfield 26, 3) := by decide +kernel
theorem d_S_sumBlocks_4 : decode b_S_sumBlocks 4 = .ok (.iconst 0, 1) := by decide +kernel
theorem d_S_sumBlocks_5 : decode b_S_sumBlocks 5 = .ok (.invokestatic 103, 3) := by decide +kernel
theorem d_S_sumBlocks_8 : decode b_S_sumBlocks 8 = .ok (.iconst 0, 1) := by decide +kernel
theorem d_S_sumBlocks_9 : decode b_S_sumBlocks 9 = .ok (.istore_n 2, 1) := by decide +kernel
theorem d_S_sumBlocks_10 : decode b_S_sumBlocks 10 = .ok (.iconst 0, 1) := by decide +kernel
theorem d_S_sumBlocks_11 : decode b_S_sumBlocks 11 = .ok (.istore_n 3, 1) := by decide +kernel
theorem d_S_sumBlocks_12 : decode b_S_sumBlocks 12 = .ok (.iload_n 3, 1) := by decide +kernel
theorem d_S_sumBlocks_13 : decode b_S_sumBlocks 13 = .ok (.aload_n 0, 1) := by decide +kernel
theorem d_S_sumBlocks_14 : decode b_S_sumBlocks 14 = .ok (.getfield 38, 3) := by decide +kernel
theorem d_S_sumBlocks_17 : decode b_S_sumBlocks 17 = .ok (.getfield 147, 3) := by decide +kernel
theorem d_S_sumBlocks_20 : decode b_S_sumBlocks 20 = .ok (.if_icmp .ge 65, 3) := by decide +kernel
theorem d_S_sumBlocks_23 : decode b_S_sumBlocks 23 = .ok (.aload_n 0, 1) := by decide +kernel
theorem d_S_sumBlocks_24 : decode b_S_sumBlocks 24 = .ok (.getfield 42, 3) := by decide +kernel
theorem d_S_sumBlocks_27 : decode b_S_sumBlocks 27 = .ok (.iload_n 3, 1) := by decide +kernel
theorem d_S_sumBlocks_28 : decode b_S_sumBlocks 28 = .ok (.invokevirtual 131, 3) := by decide +kernel
theorem d_S_sumBlocks_31 : decode b_S_sumBlocks 31 = .ok (.istore 4, 2) := by decide +kernel
theorem d_S_sumBlocks_33 : decode b_S_sumBlocks 33 = .ok (.aload_n 0, 1) := by decide +kernel
theorem d_S_sumBlocks_34 : decode b_S_sumBlocks 34 = .ok (.getfield 26, 3) := by decide +kernel
theorem d_S_sumBlocks_37 : decode b_S_sumBlocks 37 = .ok (.iload 4, 2) := by decide +kernel
theorem d_S_sumBlocks_39 : decode b_S_sumBlocks 39 = .ok (.dup2, 1) := by decide +kernel
theorem d_S_sumBlocks_40 : decode b_S_sumBlocks 40 = .ok (.iaload, 1) := by decide +kernel
theorem d_S_sumBlocks_41 : decode b_S_sumBlocks 41 = .ok (.aload_n 0, 1) := by decide +kernel
theorem d_S_sumBlocks_42 : decode b_S_sumBlocks 42 = .ok (.getfield 42, 3) := by decide +kernel
theorem d_S_sumBlocks_45 : decode b_S_sumBlocks 45 = .ok (.getfield 97, 3) := by decide +kernel
theorem d_S_sumBlocks_48 : decode b_S_sumBlocks 48 = .ok (.iload_n 1, 1) := by decide +kernel
theorem d_S_sumBlocks_49 : decode b_S_sumBlocks 49 = .ok (.aaload, 1) := by decide +kernel
theorem d_S_sumBlocks_50 : decode b_S_sumBlocks 50 = .ok (.iload_n 3, 1) := by decide +kernel
theorem d_S_sumBlocks_51 : decode b_S_sumBlocks 51 = .ok (.iaload, 1) := by decide +kernel
theorem d_S_sumBlocks_52 : decode b_S_sumBlocks 52 = .ok (.iadd, 1) := by decide +kernel
theorem d_S_sumBlocks_53 : decode b_S_sumBlocks 53 = .ok (.iastore, 1) := by decide +kernel
theorem d_S_sumBlocks_54 : decode b_S_sumBlocks 54 = .ok (.iload_n 2, 1) := by decide +kernel
theorem d_S_sumBlocks_55 : decode b_S_sumBlocks 55 = .ok (.aload_n 0, 1) := by decide +kernel
theorem d_S_sumBlocks_56 : decode b_S_sumBlocks 56 = .ok (.getfield 42, 3) := by decide +kernel
theorem d_S_sumBlocks_59 : decode b_S_sumBlocks 59 = .ok (.getfield 97, 3) := by decide +kernel
theorem d_S_sumBlocks_62 : decode b_S_sumBlocks 62 = .ok (.iload_n 1, 1) := by decide +kernel
theorem d_S_sumBlocks_63 : decode b_S_sumBlocks 63 = .ok (.aaload, 1) := by decide +kernel
theorem d_S_sumBlocks_64 : decode b_S_sumBlocks 64 = .ok (.iload_n 3, 1) := by decide +kernel
theorem d_S_sumBlocks_65 : decode b_S_sumBlocks 65 = .ok (.iaload, 1) := by decide +kernel
theorem d_S_sumBlocks_66 : decode b_S_sumBlocks 66 = .ok (.ifCond .le 10, 3) := by decide +kernel
theorem d_S_sumBlocks_69 : decode b_S_sumBlocks 69 = .ok (.iconst 1, 1) := by decide +kernel
theorem d_S_sumBlocks_70 : decode b_S_sumBlocks 70 = .ok (.iload 4, 2) := by decide +kernel
theorem d_S_sumBlocks_72 : decode b_S_sumBlocks 72 = .ok (.ishl, 1) := by decide +kernel
theorem d_S_sumBlocks_73 : decode b_S_sumBlocks 73 = .ok (.goto 4, 3) := by decide +kernel
theorem d_S_sumBlocks_76 : decode b_S_sumBlocks 76 = .ok (.iconst 0, 1) := by decide +kernel
theorem d_S_sumBlocks_77 : decode b_S_sumBlocks 77 = .ok (.ior, 1) := by decide +kernel
theorem d_S_sumBlocks_78 : decode b_S_sumBlocks 78 = .ok (.istore_n 2, 1) := by decide +kernel
theorem d_S_sumBlocks_79 : decode b_S_sumBlocks 79 = .ok (.iinc 3 1, 3) := by decide +kernel
theorem d_S_sumBlocks_82 : decode b_S_sumBlocks 82 = .ok (.goto (-70), 3) := by decide +kernel
theorem d_S_sumBlocks_85 : decode b_S_sumBlocks 85 = .ok (.iload_n 2, 1) := by decide +kernel
theorem d_S_sumBlocks_86 : decode b_S_sumBlocks 86 = .ok (.ireturn, 1) := by decide +kernel
abbrev b_S_listOthers : ByteArray := prog_12_method_12_code
abbrev y_S_listOthers : MethodName := ⟨"WhoRules$Search", "listOthers", "(I)V"⟩
theorem d_S_listOthers_0 : decode b_S_listOthers 0 = .ok (.aload_n 0, 1) := by decide +kernel
theorem d_S_listOthers_1 : decode b_S_listOthers 1 = .ok (.iconst 0, 1) := by decide +kernel
theorem d_S_listOthers_2 : decode b_S_listOthers 2 = .ok (.putfield 140, 3) := by decide +kernel
theorem d_S_listOthers_5 : decode b_S_listOthers 5 = .ok (.iconst 0, 1) := by decide +kernel
theorem d_S_listOthers_6 : decode b_S_listOthers 6 = .ok (.istore_n 2, 1) := by decide +kernel
theorem d_S_listOthers_7 : decode b_S_listOthers 7 = .ok (.iload_n 2, 1) := by decide +kernel
theorem d_S_listOthers_8 : decode b_S_listOthers 8 = .ok (.bipush 16, 2) := by decide +kernel
theorem d_S_listOthers_10 : decode b_S_listOthers 10 = .ok (.if_icmp .ge 43, 3) := by decide +kernel
theorem d_S_listOthers_13 : decode b_S_listOthers 13 = .ok (.iload_n 1, 1) := by decide +kernel
theorem d_S_listOthers_14 : decode b_S_listOthers 14 = .ok (.iload_n 2, 1) := by decide +kernel
theorem d_S_listOthers_15 : decode b_S_listOthers 15 = .ok (.ishr, 1) := by decide +kernel
theorem d_S_listOthers_16 : decode b_S_listOthers 16 = .ok (.iconst 1, 1) := by decide +kernel
theorem d_S_listOthers_17 : decode b_S_listOthers 17 = .ok (.iand, 1) := by decide +kernel
theorem d_S_listOthers_18 : decode b_S_listOthers 18 = .ok (.iconst 1, 1) := by decide +kernel
theorem d_S_listOthers_19 : decode b_S_listOthers 19 = .ok (.if_icmp .ne 28, 3) := by decide +kernel
theorem d_S_listOthers_22 : decode b_S_listOthers 22 = .ok (.aload_n 0, 1) := by decide +kernel
theorem d_S_listOthers_23 : decode b_S_listOthers 23 = .ok (.getfield 32, 3) := by decide +kernel
theorem d_S_listOthers_26 : decode b_S_listOthers 26 = .ok (.aload_n 0, 1) := by decide +kernel
theorem d_S_listOthers_27 : decode b_S_listOthers 27 = .ok (.getfield 140, 3) := by decide +kernel
theorem d_S_listOthers_30 : decode b_S_listOthers 30 = .ok (.aload_n 0, 1) := by decide +kernel
theorem d_S_listOthers_31 : decode b_S_listOthers 31 = .ok (.getfield 26, 3) := by decide +kernel
theorem d_S_listOthers_34 : decode b_S_listOthers 34 = .ok (.iload_n 2, 1) := by decide +kernel
theorem d_S_listOthers_35 : decode b_S_listOthers 35 = .ok (.iaload, 1) := by decide +kernel
theorem d_S_listOthers_36 : decode b_S_listOthers 36 = .ok (.iastore, 1) := by decide +kernel
theorem d_S_listOthers_37 : decode b_S_listOthers 37 = .ok (.aload_n 0, 1) := by decide +kernel
theorem d_S_listOthers_38 : decode b_S_listOthers 38 = .ok (.dup, 1) := by decide +kernel
theorem d_S_listOthers_39 : decode b_S_listOthers 39 = .ok (.getfield 140, 3) := by decide +kernel
theorem d_S_listOthers_42 : decode b_S_listOthers 42 = .ok (.iconst 1, 1) := by decide +kernel
theorem d_S_listOthers_43 : decode b_S_listOthers 43 = .ok (.iadd, 1) := by decide +kernel
theorem d_S_listOthers_44 : decode b_S_listOthers 44 = .ok (.putfield 140, 3) := by decide +kernel
theorem d_S_listOthers_47 : decode b_S_listOthers 47 = .ok (.iinc 2 1, 3) := by decide +kernel
theorem d_S_listOthers_50 : decode b_S_listOthers 50 = .ok (.goto (-43), 3) := by decide +kernel
theorem d_S_listOthers_53 : decode b_S_listOthers 53 = .ok (.aload_n 0, 1) := by decide +kernel
theorem d_S_listOthers_54 : decode b_S_listOthers 54 = .ok (.getfield 35, 3) := by decide +kernel
theorem d_S_listOthers_57 : decode b_S_listOthers 57 = .ok (.aload_n 0, 1) := by decide +kernel
theorem d_S_listOthers_58 : decode b_S_listOthers 58 = .ok (.getfield 140, 3) := by decide +kernel
theorem d_S_listOthers_61 : decode b_S_listOthers 61 = .ok (.iconst 0, 1) := by decide +kernel
theorem d_S_listOthers_62 : decode b_S_listOthers 62 = .ok (.iastore, 1) := by decide +kernel
theorem d_S_listOthers_63 : decode b_S_listOthers 63 = .ok (.aload_n 0, 1) := by decide +kernel
theorem d_S_listOthers_64 : decode b_S_listOthers 64 = .ok (.getfield 140, 3) := by decide +kernel
theorem d_S_listOthers_67 : decode b_S_listOthers 67 = .ok (.iconst 1, 1) := by decide +kernel
theorem d_S_listOthers_68 : decode b_S_listOthers 68 = .ok (.isub, 1) := by decide +kernel
theorem d_S_listOthers_69 : decode b_S_listOthers 69 = .ok (.istore_n 2, 1) := by decide +kernel
theorem d_S_listOthers_70 : decode b_S_listOthers 70 = .ok (.iload_n 2, 1) := by decide +kernel
theorem d_S_listOthers_71 : decode b_S_listOthers 71 = .ok (.ifCond .lt 30, 3) := by decide +kernel
theorem d_S_listOthers_74 : decode b_S_listOthers 74 = .ok (.aload_n 0, 1) := by decide +kernel
theorem d_S_listOthers_75 : decode b_S_listOthers 75 = .ok (.getfield 35, 3) := by decide +kernel
theorem d_S_listOthers_78 : decode b_S_listOthers 78 = .ok (.iload_n 2, 1) := by decide +kernel
theorem d_S_listOthers_79 : decode b_S_listOthers 79 = .ok (.aload_n 0, 1) := by decide +kernel
theorem d_S_listOthers_80 : decode b_S_listOthers 80 = .ok (.getfield 35, 3) := by decide +kernel
theorem d_S_listOthers_83 : decode b_S_listOthers 83 = .ok (.iload_n 2, 1) := by decide +kernel
theorem d_S_listOthers_84 : decode b_S_listOthers 84 = .ok (.iconst 1, 1) := by decide +kernel
theorem d_S_listOthers_85 : decode b_S_listOthers 85 = .ok (.iadd, 1) := by decide +kernel
theorem d_S_listOthers_86 : decode b_S_listOthers 86 = .ok (.iaload, 1) := by decide +kernel
theorem d_S_listOthers_87 : decode b_S_listOthers 87 = .ok (.aload_n 0, 1) := by decide +kernel
theorem d_S_listOthers_88 : decode b_S_listOthers 88 = .ok (.getfield 32, 3) := by decide +kernel
theorem d_S_listOthers_91 : decode b_S_listOthers 91 = .ok (.iload_n 2, 1) := by decide +kernel
theorem d_S_listOthers_92 : decode b_S_listOthers 92 = .ok (.iaload, 1) := by decide +kernel
theorem d_S_listOthers_93 : decode b_S_listOthers 93 = .ok (.iadd, 1) := by decide +kernel
theorem d_S_listOthers_94 : decode b_S_listOthers 94 = .ok (.iastore, 1) := by decide +kernel
theorem d_S_listOthers_95 : decode b_S_listOthers 95 = .ok (.iinc 2 (-1), 3) := by decide +kernel
theorem d_S_listOthers_98 : decode b_S_listOthers 98 = .ok (.goto (-28), 3) := by decide +kernel
theorem d_S_listOthers_101 : decode b_S_listOthers 101 = .ok (.return_, 1) := by decide +kernel
abbrev b_S_ways : ByteArray := prog_12_method_13_code
abbrev y_S_ways : MethodName := ⟨"WhoRules$Search", "ways", "([I[IIIII)I"⟩
theorem d_S_ways_0 : decode b_S_ways 0 = .ok (.iload_n 2, 1) := by decide +kernel
theorem d_S_ways_1 : decode b_S_ways 1 = .ok (.ifCond .lt 27, 3) := by decide +kernel
theorem d_S_ways_4 : decode b_S_ways 4 = .ok (.iload_n 2, 1) := by decide +kernel
theorem d_S_ways_5 : decode b_S_ways 5 = .ok (.iload_n 3, 1) := by decide +kernel
theorem d_S_ways_6 : decode b_S_ways 6 = .ok (.if_icmp .gt 22, 3) := by decide +kernel
theorem d_S_ways_9 : decode b_S_ways 9 = .ok (.iload_n 3, 1) := by decide +kernel
theorem d_S_ways_10 : decode b_S_ways 10 = .ok (.bipush 16, 2) := by decide +kernel
theorem d_S_ways_12 : decode b_S_ways 12 = .ok (.if_icmp .gt 16, 3) := by decide +kernel
theorem d_S_ways_15 : decode b_S_ways 15 = .ok (.iload 5, 2) := by decide +kernel
theorem d_S_ways_17 : decode b_S_ways 17 = .ok (.ifCond .lt 11, 3) := by decide +kernel
theorem d_S_ways_20 : decode b_S_ways 20 = .ok (.iload 4, 2) := by decide +kernel
theorem d_S_ways_22 : decode b_S_ways 22 = .ok (.aload_n 1, 1) := by decide +kernel
theorem d_S_ways_23 : decode b_S_ways 23 = .ok (.iload_n 2, 1) := by decide +kernel
theorem d_S_ways_24 : decode b_S_ways 24 = .ok (.iaload, 1) := by decide +kernel
theorem d_S_ways_25 : decode b_S_ways 25 = .ok (.if_icmp .le 5, 3) := by decide +kernel
theorem d_S_ways_28 : decode b_S_ways 28 = .ok (.iconst 0, 1) := by decide +kernel
theorem d_S_ways_29 : decode b_S_ways 29 = .ok (.ireturn, 1) := by decide +kernel
theorem d_S_ways_30 : decode b_S_ways 30 = .ok (.iload 4, 2) := by decide +kernel
theorem d_S_ways_32 : decode b_S_ways 32 = .ok (.ifCond .gt 17, 3) := by decide +kernel
theorem d_S_ways_35 : decode b_S_ways 35 = .ok (.iload 5, 2) := by decide +kernel
theorem d_S_ways_37 : decode b_S_ways 37 = .ok (.aload_n 1, 1) := by decide +kernel
theorem d_S_ways_38 : decode b_S_ways 38 = .ok (.iload_n 2, 1) := by decide +kernel
theorem d_S_ways_39 : decode b_S_ways 39 = .ok (.iaload, 1) := by decide +kernel
theorem d_S_ways_40 : decode b_S_ways 40 = .ok (.if_icmp .lt 9, 3) := by decide +kernel
theorem d_S_ways_43 : decode b_S_ways 43 = .ok (.iconst 1, 1) := by decide +kernel
theorem d_S_ways_44 : decode b_S_ways 44 = .ok (.iload_n 3, 1) := by decide +kernel
theorem d_S_ways_45 : decode b_S_ways 45 = .ok (.iload_n 2, 1) := by decide +kernel
theorem d_S_ways_46 : decode b_S_ways 46 = .ok (.isub, 1) := by decide +kernel
theorem d_S_ways_47 : decode b_S_ways 47 = .ok (.ishl, 1) := by decide +kernel
theorem d_S_ways_48 : decode b_S_ways 48 = .ok (.ireturn, 1) := by decide +kernel
theorem d_S_ways_49 : decode b_S_ways 49 = .ok (.iload_n 2, 1) := by decide +kernel
theorem d_S_ways_50 : decode b_S_ways 50 = .ok (.iload_n 3, 1) := by decide +kernel
theorem d_S_ways_51 : decode b_S_ways 51 = .ok (.if_icmp .ne 5, 3) := by decide +kernel
theorem d_S_ways_54 : decode b_S_ways 54 = .ok (.iconst 0, 1) := by decide +kernel
theorem d_S_ways_55 : decode b_S_ways 55 = .ok (.ireturn, 1) := by decide +kernel
theorem d_S_ways_56 : decode b_S_ways 56 = .ok (.aload_n 0, 1) := by decide +kernel
theorem d_S_ways_57 : decode b_S_ways 57 = .ok (.aload_n 1, 1) := by decide +kernel
theorem d_S_ways_58 : decode b_S_ways 58 = .ok (.iload_n 2, 1) := by decide +kernel
theorem d_S_ways_59 : decode b_S_ways 59 = .ok (.iconst 1, 1) := by decide +kernel
theorem d_S_ways_60 : decode b_S_ways 60 = .ok (.iadd, 1) := by decide +kernel
theorem d_S_ways_61 : decode b_S_ways 61 = .ok (.iload_n 3, 1) := by decide +kernel
theorem d_S_ways_62 : decode b_S_ways 62 = .ok (.iload 4, 2) := by decide +kernel
theorem d_S_ways_64 : decode b_S_ways 64 = .ok (.iload 5, 2) := by decide +kernel
theorem d_S_ways_66 : decode b_S_ways 66 = .ok (.invokestatic 143, 3) := by decide +kernel
theorem d_S_ways_69 : decode b_S_ways 69 = .ok (.aload_n 0, 1) := by decide +kernel
theorem d_S_ways_70 : decode b_S_ways 70 = .ok (.aload_n 1, 1) := by decide +kernel
theorem d_S_ways_71 : decode b_S_ways 71 = .ok (.iload_n 2, 1) := by decide +kernel
theorem d_S_ways_72 : decode b_S_ways 72 = .ok (.iconst 1, 1) := by decide +kernel
theorem d_S_ways_73 : decode b_S_ways 73 = .ok (.iadd, 1) := by decide +kernel
theorem d_S_ways_74 : decode b_S_ways 74 = .ok (.iload_n 3, 1) := by decide +kernel
theorem d_S_ways_75 : decode b_S_ways 75 = .ok (.iload 4, 2) := by decide +kernel
theorem d_S_ways_77 : decode b_S_ways 77 = .ok (.aload_n 0, 1) := by decide +kernel
theorem d_S_ways_78 : decode b_S_ways 78 = .ok (.iload_n 2, 1) := by decide +kernel
theorem d_S_ways_79 : decode b_S_ways 79 = .ok (.iaload, 1) := by decide +kernel
theorem d_S_ways_80 : decode b_S_ways 80 = .ok (.isub, 1) := by decide +kernel
theorem d_S_ways_81 : decode b_S_ways 81 = .ok (.iload 5, 2) := by decide +kernel
theorem d_S_ways_83 : decode b_S_ways 83 = .ok (.aload_n 0, 1) := by decide +kernel
theorem d_S_ways_84 : decode b_S_ways 84 = .ok (.iload_n 2, 1) := by decide +kernel
theorem d_S_ways_85 : decode b_S_ways 85 = .ok (.iaload, 1) := by decide +kernel
theorem d_S_ways_86 : decode b_S_ways 86 = .ok (.isub, 1) := by decide +kernel
theorem d_S_ways_87 : decode b_S_ways 87 = .ok (.invokestatic 143, 3) := by decide +kernel
theorem d_S_ways_90 : decode b_S_ways 90 = .ok (.iadd, 1) := by decide +kernel
theorem d_S_ways_91 : decode b_S_ways 91 = .ok (.ireturn, 1) := by decide +kernel
abbrev b_S_turns : ByteArray := prog_12_method_10_code
abbrev y_S_turns : MethodName := ⟨"WhoRules$Search", "turns", "(II)I"⟩
theorem d_S_turns_0 : decode b_S_turns 0 = .ok (.aload_n 0, 1) := by decide +kernel
theorem d_S_turns_1 : decode b_S_turns 1 = .ok (.getfield 42, 3) := by decide +kernel
theorem d_S_turns_4 : decode b_S_turns 4 = .ok (.aload_n 0, 1) := by decide +kernel
theorem d_S_turns_5 : decode b_S_turns 5 = .ok (.getfield 38, 3) := by decide +kernel
theorem d_S_turns_8 : decode b_S_turns 8 = .ok (.getfield 122, 3) := by decide +kernel
theorem d_S_turns_11 : decode b_S_turns 11 = .ok (.invokevirtual 125, 3) := by decide +kernel
theorem d_S_turns_14 : decode b_S_turns 14 = .ok (.aload_n 0, 1) := by decide +kernel
theorem d_S_turns_15 : decode b_S_turns 15 = .ok (.getfield 42, 3) := by decide +kernel
theorem d_S_turns_18 : decode b_S_turns 18 = .ok (.invokevirtual 128, 3) := by decide +kernel
theorem d_S_turns_21 : decode b_S_turns 21 = .ok (.aload_n 0, 1) := by decide +kernel
theorem d_S_turns_22 : decode b_S_turns 22 = .ok (.getfield 42, 3) := by decide +kernel
theorem d_S_turns_25 : decode b_S_turns 25 = .ok (.iload_n 2, 1) := by decide +kernel
theorem d_S_turns_26 : decode b_S_turns 26 = .ok (.invokevirtual 131, 3) := by decide +kernel
theorem d_S_turns_29 : decode b_S_turns 29 = .ok (.istore_n 3, 1) := by decide +kernel
theorem d_S_turns_30 : decode b_S_turns 30 = .ok (.aload_n 0, 1) := by decide +kernel
theorem d_S_turns_31 : decode b_S_turns 31 = .ok (.getfield 42, 3) := by decide +kernel
theorem d_S_turns_34 : decode b_S_turns 34 = .ok (.getfield 88, 3) := by decide +kernel
theorem d_S_turns_37 : decode b_S_turns 37 = .ok (.iload_n 1, 1) := by decide +kernel
theorem d_S_turns_38 : decode b_S_turns 38 = .ok (.iaload, 1) := by decide +kernel
theorem d_S_turns_39 : decode b_S_turns 39 = .ok (.ifCond .ge 7, 3) := by decide +kernel
theorem d_S_turns_42 : decode b_S_turns 42 = .ok (.iconst 0, 1) := by decide +kernel
theorem d_S_turns_43 : decode b_S_turns 43 = .ok (.goto 21, 3) := by decide +kernel
theorem d_S_turns_46 : decode b_S_turns 46 = .ok (.iconst 1, 1) := by decide +kernel
theorem d_S_turns_47 : decode b_S_turns 47 = .ok (.aload_n 0, 1) := by decide +kernel
theorem d_S_turns_48 : decode b_S_turns 48 = .ok (.getfield 42, 3) := by decide +kernel
theorem d_S_turns_51 : decode b_S_turns 51 = .ok (.aload_n 0, 1) := by decide +kernel
theorem d_S_turns_52 : decode b_S_turns 52 = .ok (.getfield 42, 3) := by decide +kernel
theorem d_S_turns_55 : decode b_S_turns 55 = .ok (.getfield 88, 3) := by decide +kernel
theorem d_S_turns_58 : decode b_S_turns 58 = .ok (.iload_n 1, 1) := by decide +kernel
theorem d_S_turns_59 : decode b_S_turns 59 = .ok (.iaload, 1) := by decide +kernel
theorem d_S_turns_60 : decode b_S_turns 60 = .ok (.invokevirtual 131, 3) := by decide +kernel
theorem d_S_turns_63 : decode b_S_turns 63 = .ok (.ishl, 1) := by decide +kernel
theorem d_S_turns_64 : decode b_S_turns 64 = .ok (.istore 4, 2) := by decide +kernel
theorem d_S_turns_66 : decode b_S_turns 66 = .ok (.aload_n 0, 1) := by decide +kernel
theorem d_S_turns_67 : decode b_S_turns 67 = .ok (.iload_n 1, 1) := by decide +kernel
theorem d_S_turns_68 : decode b_S_turns 68 = .ok (.invokevirtual 134, 3) := by decide +kernel
theorem d_S_turns_71 : decode b_S_turns 71 = .ok (.iload 4, 2) := by decide +kernel
theorem d_S_turns_73 : decode b_S_turns 73 = .ok (.ior, 1) := by decide +kernel
theorem d_S_turns_74 : decode b_S_turns 74 = .ok (.istore 5, 2) := by decide +kernel
theorem d_S_turns_76 : decode b_S_turns 76 = .ok (.iload 5, 2) := by decide +kernel
theorem d_S_turns_78 : decode b_S_turns 78 = .ok (.iload_n 3, 1) := by decide +kernel
theorem d_S_turns_79 : decode b_S_turns 79 = .ok (.ishr, 1) := by decide +kernel
theorem d_S_turns_80 : decode b_S_turns 80 = .ok (.iconst 1, 1) := by decide +kernel
theorem d_S_turns_81 : decode b_S_turns 81 = .ok (.iand, 1) := by decide +kernel
theorem d_S_turns_82 : decode b_S_turns 82 = .ok (.ifCond .ne 5, 3) := by decide +kernel
theorem d_S_turns_85 : decode b_S_turns 85 = .ok (.iconst 0, 1) := by decide +kernel
theorem d_S_turns_86 : decode b_S_turns 86 = .ok (.ireturn, 1) := by decide +kernel
theorem d_S_turns_87 : decode b_S_turns 87 = .ok (.aload_n 0, 1) := by decide +kernel
theorem d_S_turns_88 : decode b_S_turns 88 = .ok (.iload 5, 2) := by decide +kernel
theorem d_S_turns_90 : decode b_S_turns 90 = .ok (.iconst 1, 1) := by decide +kernel
theorem d_S_turns_91 : decode b_S_turns 91 = .ok (.iload_n 3, 1) := by decide +kernel
theorem d_S_turns_92 : decode b_S_turns 92 = .ok (.ishl, 1) := by decide +kernel
theorem d_S_turns_93 : decode b_S_turns 93 = .ok (.iconst (-1), 1) := by decide +kernel
theorem d_S_turns_94 : decode b_S_turns 94 = .ok (.ixor, 1) := by decide +kernel
theorem d_S_turns_95 : decode b_S_turns 95 = .ok (.iand, 1) := by decide +kernel
theorem d_S_turns_96 : decode b_S_turns 96 = .ok (.iload 4, 2) := by decide +kernel
theorem d_S_turns_98 : decode b_S_turns 98 = .ok (.iconst (-1), 1) := by decide +kernel
theorem d_S_turns_99 : decode b_S_turns 99 = .ok (.ixor, 1) := by decide +kernel
theorem d_S_turns_100 : decode b_S_turns 100 = .ok (.iand, 1) := by decide +kernel
theorem d_S_turns_101 : decode b_S_turns 101 = .ok (.invokevirtual 137, 3) := by decide +kernel
theorem d_S_turns_104 : decode b_S_turns 104 = .ok (.aload_n 0, 1) := by decide +kernel
theorem d_S_turns_105 : decode b_S_turns 105 = .ok (.getfield 42, 3) := by decide +kernel
theorem d_S_turns_108 : decode b_S_turns 108 = .ok (.getfield 100, 3) := by decide +kernel
theorem d_S_turns_111 : decode b_S_turns 111 = .ok (.iload_n 1, 1) := by decide +kernel
theorem d_S_turns_112 : decode b_S_turns 112 = .ok (.iaload, 1) := by decide +kernel
theorem d_S_turns_113 : decode b_S_turns 113 = .ok (.istore 6, 2) := by decide +kernel
theorem d_S_turns_115 : decode b_S_turns 115 = .ok (.iload 4, 2) := by decide +kernel
theorem d_S_turns_117 : decode b_S_turns 117 = .ok (.iconst 1, 1) := by decide +kernel
theorem d_S_turns_118 : decode b_S_turns 118 = .ok (.iload_n 3, 1) := by decide +kernel
theorem d_S_turns_119 : decode b_S_turns 119 = .ok (.ishl, 1) := by decide +kernel
theorem d_S_turns_120 : decode b_S_turns 120 = .ok (.if_icmp .ne 37, 3) := by decide +kernel
theorem d_S_turns_123 : decode b_S_turns 123 = .ok (.aload_n 0, 1) := by decide +kernel
theorem d_S_turns_124 : decode b_S_turns 124 = .ok (.getfield 32, 3) := by decide +kernel
theorem d_S_turns_127 : decode b_S_turns 127 = .ok (.aload_n 0, 1) := by decide +kernel
theorem d_S_turns_128 : decode b_S_turns 128 = .ok (.getfield 35, 3) := by decide +kernel
theorem d_S_turns_131 : decode b_S_turns 131 = .ok (.iconst 0, 1) := by decide +kernel
theorem d_S_turns_132 : decode b_S_turns 132 = .ok (.aload_n 0, 1) := by decide +kernel
theorem d_S_turns_133 : decode b_S_turns 133 = .ok (.getfield 140, 3) := by decide +kernel
theorem d_S_turns_136 : decode b_S_turns 136 = .ok (.iload 6, 2) := by decide +kernel
theorem d_S_turns_138 : decode b_S_turns 138 = .ok (.iconst 1, 1) := by decide +kernel
theorem d_S_turns_139 : decode b_S_turns 139 = .ok (.iadd, 1) := by decide +kernel
theorem d_S_turns_140 : decode b_S_turns 140 = .ok (.aload_n 0, 1) := by decide +kernel
theorem d_S_turns_141 : decode b_S_turns 141 = .ok (.getfield 26, 3) := by decide +kernel
theorem d_S_turns_144 : decode b_S_turns 144 = .ok (.iload_n 3, 1) := by decide +kernel
theorem d_S_turns_145 : decode b_S_turns 145 = .ok (.iaload, 1) := by decide +kernel
theorem d_S_turns_146 : decode b_S_turns 146 = .ok (.isub, 1) := by decide +kernel
theorem d_S_turns_147 : decode b_S_turns 147 = .ok (.aload_n 0, 1) := by decide +kernel
theorem d_S_turns_148 : decode b_S_turns 148 = .ok (.getfield 35, 3) := by decide +kernel
theorem d_S_turns_151 : decode b_S_turns 151 = .ok (.iconst 0, 1) := by decide +kernel
theorem d_S_turns_152 : decode b_S_turns 152 = .ok (.iaload, 1) := by decide +kernel
theorem d_S_turns_153 : decode b_S_turns 153 = .ok (.invokestatic 143, 3) := by decide +kernel
theorem d_S_turns_156 : decode b_S_turns 156 = .ok (.ireturn, 1) := by decide +kernel
theorem d_S_turns_157 : decode b_S_turns 157 = .ok (.iload 6, 2) := by decide +kernel
theorem d_S_turns_159 : decode b_S_turns 159 = .ok (.iload 4, 2) := by decide +kernel
theorem d_S_turns_161 : decode b_S_turns 161 = .ok (.ifCond .ne 7, 3) := by decide +kernel
theorem d_S_turns_164 : decode b_S_turns 164 = .ok (.iconst 0, 1) := by decide +kernel
theorem d_S_turns_165 : decode b_S_turns 165 = .ok (.goto 24, 3) := by decide +kernel
theorem d_S_turns_168 : decode b_S_turns 168 = .ok (.aload_n 0, 1) := by decide +kernel
theorem d_S_turns_169 : decode b_S_turns 169 = .ok (.getfield 26, 3) := by decide +kernel
theorem d_S_turns_172 : decode b_S_turns 172 = .ok (.aload_n 0, 1) := by decide +kernel
theorem d_S_turns_173 : decode b_S_turns 173 = .ok (.getfield 42, 3) := by decide +kernel
theorem d_S_turns_176 : decode b_S_turns 176 = .ok (.aload_n 0, 1) := by decide +kernel
theorem d_S_turns_177 : decode b_S_turns 177 = .ok (.getfield 42, 3) := by decide +kernel
theorem d_S_turns_180 : decode b_S_turns 180 = .ok (.getfield 88, 3) := by decide +kernel
theorem d_S_turns_183 : decode b_S_turns 183 = .ok (.iload_n 1, 1) := by decide +kernel
theorem d_S_turns_184 : decode b_S_turns 184 = .ok (.iaload, 1) := by decide +kernel
theorem d_S_turns_185 : decode b_S_turns 185 = .ok (.invokevirtual 131, 3) := by decide +kernel
theorem d_S_turns_188 : decode b_S_turns 188 = .ok (.iaload, 1) := by decide +kernel
theorem d_S_turns_189 : decode b_S_turns 189 = .ok (.isub, 1) := by decide +kernel
theorem d_S_turns_190 : decode b_S_turns 190 = .ok (.istore 6, 2) := by decide +kernel
theorem d_S_turns_192 : decode b_S_turns 192 = .ok (.aload_n 0, 1) := by decide +kernel
theorem d_S_turns_193 : decode b_S_turns 193 = .ok (.getfield 32, 3) := by decide +kernel
theorem d_S_turns_196 : decode b_S_turns 196 = .ok (.aload_n 0, 1) := by decide +kernel
theorem d_S_turns_197 : decode b_S_turns 197 = .ok (.getfield 35, 3) := by decide +kernel
theorem d_S_turns_200 : decode b_S_turns 200 = .ok (.iconst 0, 1) := by decide +kernel
theorem d_S_turns_201 : decode b_S_turns 201 = .ok (.aload_n 0, 1) := by decide +kernel
theorem d_S_turns_202 : decode b_S_turns 202 = .ok (.getfield 140, 3) := by decide +kernel
theorem d_S_turns_205 : decode b_S_turns 205 = .ok (.iload 6, 2) := by decide +kernel
theorem d_S_turns_207 : decode b_S_turns 207 = .ok (.iconst 1, 1) := by decide +kernel
theorem d_S_turns_208 : decode b_S_turns 208 = .ok (.iadd, 1) := by decide +kernel
theorem d_S_turns_209 : decode b_S_turns 209 = .ok (.aload_n 0, 1) := by decide +kernel
theorem d_S_turns_210 : decode b_S_turns 210 = .ok (.getfield 26, 3) := by decide +kernel
theorem d_S_turns_213 : decode b_S_turns 213 = .ok (.iload_n 3, 1) := by decide +kernel
theorem d_S_turns_214 : decode b_S_turns 214 = .ok (.iaload, 1) := by decide +kernel
theorem d_S_turns_215 : decode b_S_turns 215 = .ok (.isub, 1) := by decide +kernel
theorem d_S_turns_216 : decode b_S_turns 216 = .ok (.iload 6, 2) := by decide +kernel
theorem d_S_turns_218 : decode b_S_turns 218 = .ok (.invokestatic 143, 3) := by decide +kernel
theorem d_S_turns_221 : decode b_S_turns 221 = .ok (.ireturn, 1) := by decide +kernel
abbrev b_W_pivot : ByteArray := prog_1_method_21_code
abbrev y_W_pivot : MethodName := ⟨"WhoRules", "pivot", "(II)I"⟩
theorem d_W_pivot_0 : decode b_W_pivot 0 = .ok (.aload_n 0, 1) := by decide +kernel
theorem d_W_pivot_1 : decode b_W_pivot 1 = .ok (.getfield 18, 3) := by decide +kernel
theorem d_W_pivot_4 : decode b_W_pivot 4 = .ok (.iload_n 1, 1) := by decide +kernel
theorem d_W_pivot_5 : decode b_W_pivot 5 = .ok (.invokevirtual 87, 3) := by decide +kernel
theorem d_W_pivot_8 : decode b_W_pivot 8 = .ok (.ifCond .eq 14, 3) := by decide +kernel
theorem d_W_pivot_11 : decode b_W_pivot 11 = .ok (.aload_n 0, 1) := by decide +kernel
theorem d_W_pivot_12 : decode b_W_pivot 12 = .ok (.getfield 18, 3) := by decide +kernel
theorem d_W_pivot_15 : decode b_W_pivot 15 = .ok (.iload_n 2, 1) := by decide +kernel
theorem d_W_pivot_16 : decode b_W_pivot 16 = .ok (.invokevirtual 91, 3) := by decide +kernel
theorem d_W_pivot_19 : decode b_W_pivot 19 = .ok (.ifCond .ne 5, 3) := by decide +kernel
theorem d_W_pivot_22 : decode b_W_pivot 22 = .ok (.iconst (-1), 1) := by decide +kernel
theorem d_W_pivot_23 : decode b_W_pivot 23 = .ok (.ireturn, 1) := by decide +kernel
theorem d_W_pivot_24 : decode b_W_pivot 24 = .ok (.aload_n 0, 1) := by decide +kernel
theorem d_W_pivot_25 : decode b_W_pivot 25 = .ok (.getfield 43, 3) := by decide +kernel
theorem d_W_pivot_28 : decode b_W_pivot 28 = .ok (.iload_n 1, 1) := by decide +kernel
theorem d_W_pivot_29 : decode b_W_pivot 29 = .ok (.iload_n 2, 1) := by decide +kernel
theorem d_W_pivot_30 : decode b_W_pivot 30 = .ok (.invokevirtual 233, 3) := by decide +kernel
theorem d_W_pivot_33 : decode b_W_pivot 33 = .ok (.ireturn, 1) := by decide +kernel
abbrev b_S_pickForSale : ByteArray := prog_12_method_15_code
abbrev y_S_pickForSale : MethodName := ⟨"WhoRules$Search", "pickForSale", "(I)V"⟩
theorem d_S_pickForSale_0 : decode b_S_pickForSale 0 = .ok (.aload_n 0, 1) := by decide +kernel
theorem d_S_pickForSale_1 : decode b_S_pickForSale 1 = .ok (.iconst 0, 1) := by decide +kernel
theorem d_S_pickForSale_2 : decode b_S_pickForSale 2 = .ok (.putfield 154, 3) := by decide +kernel
theorem d_S_pickForSale_5 : decode b_S_pickForSale 5 = .ok (.iconst 0, 1) := by decide +kernel
theorem d_S_pickForSale_6 : decode b_S_pickForSale 6 = .ok (.istore_n 2, 1) := by decide +kernel
theorem d_S_pickForSale_7 : decode b_S_pickForSale 7 = .ok (.iload_n 2, 1) := by decide +kernel
theorem d_S_pickForSale_8 : decode b_S_pickForSale 8 = .ok (.aload_n 0, 1) := by decide +kernel
theorem d_S_pickForSale_9 : decode b_S_pickForSale 9 = .ok (.getfield 38, 3) := by decide +kernel
theorem d_S_pickForSale_12 : decode b_S_pickForSale 12 = .ok (.getfield 176, 3) := by decide +kernel
theorem d_S_pickForSale_15 : decode b_S_pickForSale 15 = .ok (.if_icmp .ge 63, 3) := by decide +kernel
theorem d_S_pickForSale_18 : decode b_S_pickForSale 18 = .ok (.aload_n 0, 1) := by decide +kernel
theorem d_S_pickForSale_19 : decode b_S_pickForSale 19 = .ok (.getfield 154, 3) := by decide +kernel
theorem d_S_pickForSale_22 : decode b_S_pickForSale 22 = .ok (.bipush 8, 2) := by decide +kernel
theorem d_S_pickForSale_24 : decode b_S_pickForSale 24 = .ok (.if_icmp .ge 54, 3) := by decide +kernel
theorem d_S_pickForSale_27 : decode b_S_pickForSale 27 = .ok (.aload_n 0, 1) := by decide +kernel
theorem d_S_pickForSale_28 : decode b_S_pickForSale 28 = .ok (.getfield 38, 3) := by decide +kernel
theorem d_S_pickForSale_31 : decode b_S_pickForSale 31 = .ok (.getfield 179, 3) := by decide +kernel
theorem d_S_pickForSale_34 : decode b_S_pickForSale 34 = .ok (.iload_n 2, 1) := by decide +kernel
theorem d_S_pickForSale_35 : decode b_S_pickForSale 35 = .ok (.iaload, 1) := by decide +kernel
theorem d_S_pickForSale_36 : decode b_S_pickForSale 36 = .ok (.ifCond .le 36, 3) := by decide +kernel
theorem d_S_pickForSale_39 : decode b_S_pickForSale 39 = .ok (.aload_n 0, 1) := by decide +kernel
theorem d_S_pickForSale_40 : decode b_S_pickForSale 40 = .ok (.getfield 38, 3) := by decide +kernel
theorem d_S_pickForSale_43 : decode b_S_pickForSale 43 = .ok (.getfield 182, 3) := by decide +kernel
theorem d_S_pickForSale_46 : decode b_S_pickForSale 46 = .ok (.iload_n 2, 1) := by decide +kernel
theorem d_S_pickForSale_47 : decode b_S_pickForSale 47 = .ok (.iaload, 1) := by decide +kernel
theorem d_S_pickForSale_48 : decode b_S_pickForSale 48 = .ok (.iload_n 1, 1) := by decide +kernel
theorem d_S_pickForSale_49 : decode b_S_pickForSale 49 = .ok (.if_icmp .eq 23, 3) := by decide +kernel
theorem d_S_pickForSale_52 : decode b_S_pickForSale 52 = .ok (.aload_n 0, 1) := by decide +kernel
theorem d_S_pickForSale_53 : decode b_S_pickForSale 53 = .ok (.getfield 11, 3) := by decide +kernel
theorem d_S_pickForSale_56 : decode b_S_pickForSale 56 = .ok (.aload_n 0, 1) := by decide +kernel
theorem d_S_pickForSale_57 : decode b_S_pickForSale 57 = .ok (.getfield 154, 3) := by decide +kernel
theorem d_S_pickForSale_60 : decode b_S_pickForSale 60 = .ok (.iload_n 2, 1) := by decide +kernel
theorem d_S_pickForSale_61 : decode b_S_pickForSale 61 = .ok (.iastore, 1) := by decide +kernel
theorem d_S_pickForSale_62 : decode b_S_pickForSale 62 = .ok (.aload_n 0, 1) := by decide +kernel
theorem d_S_pickForSale_63 : decode b_S_pickForSale 63 = .ok (.dup, 1) := by decide +kernel
theorem d_S_pickForSale_64 : decode b_S_pickForSale 64 = .ok (.getfield 154, 3) := by decide +kernel
theorem d_S_pickForSale_67 : decode b_S_pickForSale 67 = .ok (.iconst 1, 1) := by decide +kernel
theorem d_S_pickForSale_68 : decode b_S_pickForSale 68 = .ok (.iadd, 1) := by decide +kernel
theorem d_S_pickForSale_69 : decode b_S_pickForSale 69 = .ok (.putfield 154, 3) := by decide +kernel
theorem d_S_pickForSale_72 : decode b_S_pickForSale 72 = .ok (.iinc 2 1, 3) := by decide +kernel
theorem d_S_pickForSale_75 : decode b_S_pickForSale 75 = .ok (.goto (-68), 3) := by decide +kernel
theorem d_S_pickForSale_78 : decode b_S_pickForSale 78 = .ok (.return_, 1) := by decide +kernel
abbrev b_S_sharesOf : ByteArray := prog_12_method_17_code
abbrev y_S_sharesOf : MethodName := ⟨"WhoRules$Search", "sharesOf", "(I)J"⟩
theorem d_S_sharesOf_0 : decode b_S_sharesOf 0 = .ok (.lconst 0, 1) := by decide +kernel
theorem d_S_sharesOf_1 : decode b_S_sharesOf 1 = .ok (.lstore_n 2, 1) := by decide +kernel
theorem d_S_sharesOf_2 : decode b_S_sharesOf 2 = .ok (.iconst 0, 1) := by decide +kernel
theorem d_S_sharesOf_3 : decode b_S_sharesOf 3 = .ok (.istore 4, 2) := by decide +kernel
theorem d_S_sharesOf_5 : decode b_S_sharesOf 5 = .ok (.iload 4, 2) := by decide +kernel
theorem d_S_sharesOf_7 : decode b_S_sharesOf 7 = .ok (.aload_n 0, 1) := by decide +kernel
theorem d_S_sharesOf_8 : decode b_S_sharesOf 8 = .ok (.getfield 154, 3) := by decide +kernel
theorem d_S_sharesOf_11 : decode b_S_sharesOf 11 = .ok (.if_icmp .ge 35, 3) := by decide +kernel
theorem d_S_sharesOf_14 : decode b_S_sharesOf 14 = .ok (.lload_n 2, 1) := by decide +kernel
theorem d_S_sharesOf_15 : decode b_S_sharesOf 15 = .ok (.iload_n 1, 1) := by decide +kernel
theorem d_S_sharesOf_16 : decode b_S_sharesOf 16 = .ok (.iload 4, 2) := by decide +kernel
theorem d_S_sharesOf_18 : decode b_S_sharesOf 18 = .ok (.ishr, 1) := by decide +kernel
theorem d_S_sharesOf_19 : decode b_S_sharesOf 19 = .ok (.iconst 1, 1) := by decide +kernel
theorem d_S_sharesOf_20 : decode b_S_sharesOf 20 = .ok (.iand, 1) := by decide +kernel
theorem d_S_sharesOf_21 : decode b_S_sharesOf 21 = .ok (.iconst 1, 1) := by decide +kernel
theorem d_S_sharesOf_22 : decode b_S_sharesOf 22 = .ok (.if_icmp .ne 15, 3) := by decide +kernel
theorem d_S_sharesOf_25 : decode b_S_sharesOf 25 = .ok (.lconst 1, 1) := by decide +kernel
theorem d_S_sharesOf_26 : decode b_S_sharesOf 26 = .ok (.aload_n 0, 1) := by decide +kernel
theorem d_S_sharesOf_27 : decode b_S_sharesOf 27 = .ok (.getfield 11, 3) := by decide +kernel
theorem d_S_sharesOf_30 : decode b_S_sharesOf 30 = .ok (.iload 4, 2) := by decide +kernel
theorem d_S_sharesOf_32 : decode b_S_sharesOf 32 = .ok (.iaload, 1) := by decide +kernel
theorem d_S_sharesOf_33 : decode b_S_sharesOf 33 = .ok (.lshl, 1) := by decide +kernel
theorem d_S_sharesOf_34 : decode b_S_sharesOf 34 = .ok (.goto 4, 3) := by decide +kernel
theorem d_S_sharesOf_37 : decode b_S_sharesOf 37 = .ok (.lconst 0, 1) := by decide +kernel
theorem d_S_sharesOf_38 : decode b_S_sharesOf 38 = .ok (.lor, 1) := by decide +kernel
theorem d_S_sharesOf_39 : decode b_S_sharesOf 39 = .ok (.lstore_n 2, 1) := by decide +kernel
theorem d_S_sharesOf_40 : decode b_S_sharesOf 40 = .ok (.iinc 4 1, 3) := by decide +kernel
theorem d_S_sharesOf_43 : decode b_S_sharesOf 43 = .ok (.goto (-38), 3) := by decide +kernel
theorem d_S_sharesOf_46 : decode b_S_sharesOf 46 = .ok (.lload_n 2, 1) := by decide +kernel
theorem d_S_sharesOf_47 : decode b_S_sharesOf 47 = .ok (.lreturn, 1) := by decide +kernel
abbrev b_R_priceOf : ByteArray := prog_10_method_18_code
abbrev y_R_priceOf : MethodName := ⟨"WhoRules$Register", "priceOf", "(J)I"⟩
theorem d_R_priceOf_0 : decode b_R_priceOf 0 = .ok (.iconst 0, 1) := by decide +kernel
theorem d_R_priceOf_1 : decode b_R_priceOf 1 = .ok (.istore_n 3, 1) := by decide +kernel
theorem d_R_priceOf_2 : decode b_R_priceOf 2 = .ok (.iconst 0, 1) := by decide +kernel
theorem d_R_priceOf_3 : decode b_R_priceOf 3 = .ok (.istore 4, 2) := by decide +kernel
theorem d_R_priceOf_5 : decode b_R_priceOf 5 = .ok (.iload 4, 2) := by decide +kernel
theorem d_R_priceOf_7 : decode b_R_priceOf 7 = .ok (.aload_n 0, 1) := by decide +kernel
theorem d_R_priceOf_8 : decode b_R_priceOf 8 = .ok (.getfield 68, 3) := by decide +kernel
theorem d_R_priceOf_11 : decode b_R_priceOf 11 = .ok (.if_icmp .ge 34, 3) := by decide +kernel
theorem d_R_priceOf_14 : decode b_R_priceOf 14 = .ok (.iload_n 3, 1) := by decide +kernel
theorem d_R_priceOf_15 : decode b_R_priceOf 15 = .ok (.lload_n 1, 1) := by decide +kernel
theorem d_R_priceOf_16 : decode b_R_priceOf 16 = .ok (.iload 4, 2) := by decide +kernel
theorem d_R_priceOf_18 : decode b_R_priceOf 18 = .ok (.lshr, 1) := by decide +kernel
theorem d_R_priceOf_19 : decode b_R_priceOf 19 = .ok (.lconst 1, 1) := by decide +kernel
theorem d_R_priceOf_20 : decode b_R_priceOf 20 = .ok (.land, 1) := by decide +kernel
theorem d_R_priceOf_21 : decode b_R_priceOf 21 = .ok (.lconst 1, 1) := by decide +kernel
theorem d_R_priceOf_22 : decode b_R_priceOf 22 = .ok (.lcmp, 1) := by decide +kernel
theorem d_R_priceOf_23 : decode b_R_priceOf 23 = .ok (.ifCond .ne 13, 3) := by decide +kernel
theorem d_R_priceOf_26 : decode b_R_priceOf 26 = .ok (.aload_n 0, 1) := by decide +kernel
theorem d_R_priceOf_27 : decode b_R_priceOf 27 = .ok (.getfield 39, 3) := by decide +kernel
theorem d_R_priceOf_30 : decode b_R_priceOf 30 = .ok (.iload 4, 2) := by decide +kernel
theorem d_R_priceOf_32 : decode b_R_priceOf 32 = .ok (.iaload, 1) := by decide +kernel
theorem d_R_priceOf_33 : decode b_R_priceOf 33 = .ok (.goto 4, 3) := by decide +kernel
theorem d_R_priceOf_36 : decode b_R_priceOf 36 = .ok (.iconst 0, 1) := by decide +kernel
theorem d_R_priceOf_37 : decode b_R_priceOf 37 = .ok (.iadd, 1) := by decide +kernel
theorem d_R_priceOf_38 : decode b_R_priceOf 38 = .ok (.istore_n 3, 1) := by decide +kernel
theorem d_R_priceOf_39 : decode b_R_priceOf 39 = .ok (.iinc 4 1, 3) := by decide +kernel
theorem d_R_priceOf_42 : decode b_R_priceOf 42 = .ok (.goto (-37), 3) := by decide +kernel
theorem d_R_priceOf_45 : decode b_R_priceOf 45 = .ok (.iload_n 3, 1) := by decide +kernel
theorem d_R_priceOf_46 : decode b_R_priceOf 46 = .ok (.ireturn, 1) := by decide +kernel
abbrev b_U_suppose : ByteArray := prog_11_method_4_code
abbrev y_U_suppose : MethodName := ⟨"WhoRules$Rule", "suppose", "(II)V"⟩
theorem d_U_suppose_0 : decode b_U_suppose 0 = .ok (.aload_n 0, 1) := by decide +kernel
theorem d_U_suppose_1 : decode b_U_suppose 1 = .ok (.getfield 16, 3) := by decide +kernel
theorem d_U_suppose_4 : decode b_U_suppose 4 = .ok (.iload_n 1, 1) := by decide +kernel
theorem d_U_suppose_5 : decode b_U_suppose 5 = .ok (.iload_n 2, 1) := by decide +kernel
theorem d_U_suppose_6 : decode b_U_suppose 6 = .ok (.iastore, 1) := by decide +kernel
theorem d_U_suppose_7 : decode b_U_suppose 7 = .ok (.aload_n 0, 1) := by decide +kernel
theorem d_U_suppose_8 : decode b_U_suppose 8 = .ok (.getfield 20, 3) := by decide +kernel
theorem d_U_suppose_11 : decode b_U_suppose 11 = .ok (.iload_n 1, 1) := by decide +kernel
theorem d_U_suppose_12 : decode b_U_suppose 12 = .ok (.aload_n 0, 1) := by decide +kernel
theorem d_U_suppose_13 : decode b_U_suppose 13 = .ok (.iload_n 1, 1) := by decide +kernel
theorem d_U_suppose_14 : decode b_U_suppose 14 = .ok (.iload_n 2, 1) := by decide +kernel
theorem d_U_suppose_15 : decode b_U_suppose 15 = .ok (.aload_n 0, 1) := by decide +kernel
theorem d_U_suppose_16 : decode b_U_suppose 16 = .ok (.getfield 54, 3) := by decide +kernel
theorem d_U_suppose_19 : decode b_U_suppose 19 = .ok (.invokevirtual 92, 3) := by decide +kernel
theorem d_U_suppose_22 : decode b_U_suppose 22 = .ok (.iastore, 1) := by decide +kernel
theorem d_U_suppose_23 : decode b_U_suppose 23 = .ok (.return_, 1) := by decide +kernel
abbrev b_S_ruledAfter : ByteArray := prog_12_method_18_code
abbrev y_S_ruledAfter : MethodName := ⟨"WhoRules$Search", "ruledAfter", "(III)I"⟩
theorem d_S_ruledAfter_0 : decode b_S_ruledAfter 0 = .ok (.iconst 0, 1) := by decide +kernel
theorem d_S_ruledAfter_1 : decode b_S_ruledAfter 1 = .ok (.istore 4, 2) := by decide +kernel
theorem d_S_ruledAfter_3 : decode b_S_ruledAfter 3 = .ok (.iload 4, 2) := by decide +kernel
theorem d_S_ruledAfter_5 : decode b_S_ruledAfter 5 = .ok (.aload_n 0, 1) := by decide +kernel
theorem d_S_ruledAfter_6 : decode b_S_ruledAfter 6 = .ok (.getfield 154, 3) := by decide +kernel
theorem d_S_ruledAfter_9 : decode b_S_ruledAfter 9 = .ok (.if_icmp .ge 51, 3) := by decide +kernel
theorem d_S_ruledAfter_12 : decode b_S_ruledAfter 12 = .ok (.iload_n 1, 1) := by decide +kernel
theorem d_S_ruledAfter_13 : decode b_S_ruledAfter 13 = .ok (.iload 4, 2) := by decide +kernel
theorem d_S_ruledAfter_15 : decode b_S_ruledAfter 15 = .ok (.ishr, 1) := by decide +kernel
theorem d_S_ruledAfter_16 : decode b_S_ruledAfter 16 = .ok (.iconst 1, 1) := by decide +kernel
theorem d_S_ruledAfter_17 : decode b_S_ruledAfter 17 = .ok (.iand, 1) := by decide +kernel
theorem d_S_ruledAfter_18 : decode b_S_ruledAfter 18 = .ok (.iconst 1, 1) := by decide +kernel
theorem d_S_ruledAfter_19 : decode b_S_ruledAfter 19 = .ok (.if_icmp .ne 21, 3) := by decide +kernel
theorem d_S_ruledAfter_22 : decode b_S_ruledAfter 22 = .ok (.aload_n 0, 1) := by decide +kernel
theorem d_S_ruledAfter_23 : decode b_S_ruledAfter 23 = .ok (.getfield 42, 3) := by decide +kernel
theorem d_S_ruledAfter_26 : decode b_S_ruledAfter 26 = .ok (.aload_n 0, 1) := by decide +kernel
theorem d_S_ruledAfter_27 : decode b_S_ruledAfter 27 = .ok (.getfield 11, 3) := by decide +kernel
theorem d_S_ruledAfter_30 : decode b_S_ruledAfter 30 = .ok (.iload 4, 2) := by decide +kernel
theorem d_S_ruledAfter_32 : decode b_S_ruledAfter 32 = .ok (.iaload, 1) := by decide +kernel
theorem d_S_ruledAfter_33 : decode b_S_ruledAfter 33 = .ok (.iload_n 2, 1) := by decide +kernel
theorem d_S_ruledAfter_34 : decode b_S_ruledAfter 34 = .ok (.invokevirtual 185, 3) := by decide +kernel
theorem d_S_ruledAfter_37 : decode b_S_ruledAfter 37 = .ok (.goto 17, 3) := by decide +kernel
theorem d_S_ruledAfter_40 : decode b_S_ruledAfter 40 = .ok (.aload_n 0, 1) := by decide +kernel
theorem d_S_ruledAfter_41 : decode b_S_ruledAfter 41 = .ok (.getfield 42, 3) := by decide +kernel
theorem d_S_ruledAfter_44 : decode b_S_ruledAfter 44 = .ok (.aload_n 0, 1) := by decide +kernel
theorem d_S_ruledAfter_45 : decode b_S_ruledAfter 45 = .ok (.getfield 11, 3) := by decide +kernel
theorem d_S_ruledAfter_48 : decode b_S_ruledAfter 48 = .ok (.iload 4, 2) := by decide +kernel
theorem d_S_ruledAfter_50 : decode b_S_ruledAfter 50 = .ok (.iaload, 1) := by decide +kernel
theorem d_S_ruledAfter_51 : decode b_S_ruledAfter 51 = .ok (.invokevirtual 189, 3) := by decide +kernel
theorem d_S_ruledAfter_54 : decode b_S_ruledAfter 54 = .ok (.iinc 4 1, 3) := by decide +kernel
theorem d_S_ruledAfter_57 : decode b_S_ruledAfter 57 = .ok (.goto (-54), 3) := by decide +kernel
theorem d_S_ruledAfter_60 : decode b_S_ruledAfter 60 = .ok (.aload_n 0, 1) := by decide +kernel
theorem d_S_ruledAfter_61 : decode b_S_ruledAfter 61 = .ok (.getfield 42, 3) := by decide +kernel
theorem d_S_ruledAfter_64 : decode b_S_ruledAfter 64 = .ok (.invokevirtual 128, 3) := by decide +kernel
theorem d_S_ruledAfter_67 : decode b_S_ruledAfter 67 = .ok (.aload_n 0, 1) := by decide +kernel
theorem d_S_ruledAfter_68 : decode b_S_ruledAfter 68 = .ok (.getfield 42, 3) := by decide +kernel
theorem d_S_ruledAfter_71 : decode b_S_ruledAfter 71 = .ok (.getfield 91, 3) := by decide +kernel
theorem d_S_ruledAfter_74 : decode b_S_ruledAfter 74 = .ok (.iload_n 3, 1) := by decide +kernel
theorem d_S_ruledAfter_75 : decode b_S_ruledAfter 75 = .ok (.iaload, 1) := by decide +kernel
theorem d_S_ruledAfter_76 : decode b_S_ruledAfter 76 = .ok (.ireturn, 1) := by decide +kernel
abbrev b_S_cheapest : ByteArray := prog_12_method_14_code
abbrev y_S_cheapest : MethodName := ⟨"WhoRules$Search", "cheapest", "(II)J"⟩
theorem d_S_cheapest_0 : decode b_S_cheapest 0 = .ok (.aload_n 0, 1) := by decide +kernel
theorem d_S_cheapest_1 : decode b_S_cheapest 1 = .ok (.getfield 42, 3) := by decide +kernel
theorem d_S_cheapest_4 : decode b_S_cheapest 4 = .ok (.aload_n 0, 1) := by decide +kernel
theorem d_S_cheapest_5 : decode b_S_cheapest 5 = .ok (.getfield 38, 3) := by decide +kernel
theorem d_S_cheapest_8 : decode b_S_cheapest 8 = .ok (.getfield 122, 3) := by decide +kernel
theorem d_S_cheapest_11 : decode b_S_cheapest 11 = .ok (.invokevirtual 125, 3) := by decide +kernel
theorem d_S_cheapest_14 : decode b_S_cheapest 14 = .ok (.aload_n 0, 1) := by decide +kernel
theorem d_S_cheapest_15 : decode b_S_cheapest 15 = .ok (.iload_n 1, 1) := by decide +kernel
theorem d_S_cheapest_16 : decode b_S_cheapest 16 = .ok (.invokevirtual 150, 3) := by decide +kernel
theorem d_S_cheapest_19 : decode b_S_cheapest 19 = .ok (.iconst (-1), 1) := by decide +kernel
theorem d_S_cheapest_20 : decode b_S_cheapest 20 = .ok (.istore_n 3, 1) := by decide +kernel
theorem d_S_cheapest_21 : decode b_S_cheapest 21 = .ok (.ldc 153, 2) := by decide +kernel
theorem d_S_cheapest_23 : decode b_S_cheapest 23 = .ok (.istore 4, 2) := by decide +kernel
theorem d_S_cheapest_25 : decode b_S_cheapest 25 = .ok (.iconst 0, 1) := by decide +kernel
theorem d_S_cheapest_26 : decode b_S_cheapest 26 = .ok (.istore 5, 2) := by decide +kernel
theorem d_S_cheapest_28 : decode b_S_cheapest 28 = .ok (.iload 5, 2) := by decide +kernel
theorem d_S_cheapest_30 : decode b_S_cheapest 30 = .ok (.iconst 1, 1) := by decide +kernel
theorem d_S_cheapest_31 : decode b_S_cheapest 31 = .ok (.aload_n 0, 1) := by decide +kernel
theorem d_S_cheapest_32 : decode b_S_cheapest 32 = .ok (.getfield 154, 3) := by decide +kernel
theorem d_S_cheapest_35 : decode b_S_cheapest 35 = .ok (.ishl, 1) := by decide +kernel
theorem d_S_cheapest_36 : decode b_S_cheapest 36 = .ok (.if_icmp .ge 85, 3) := by decide +kernel
theorem d_S_cheapest_39 : decode b_S_cheapest 39 = .ok (.aload_n 0, 1) := by decide +kernel
theorem d_S_cheapest_40 : decode b_S_cheapest 40 = .ok (.getfield 38, 3) := by decide +kernel
theorem d_S_cheapest_43 : decode b_S_cheapest 43 = .ok (.aload_n 0, 1) := by decide +kernel
theorem d_S_cheapest_44 : decode b_S_cheapest 44 = .ok (.iload 5, 2) := by decide +kernel
theorem d_S_cheapest_46 : decode b_S_cheapest 46 = .ok (.invokevirtual 157, 3) := by decide +kernel
theorem d_S_cheapest_49 : decode b_S_cheapest 49 = .ok (.invokevirtual 161, 3) := by decide +kernel
theorem d_S_cheapest_52 : decode b_S_cheapest 52 = .ok (.istore 6, 2) := by decide +kernel
theorem d_S_cheapest_54 : decode b_S_cheapest 54 = .ok (.iload_n 3, 1) := by decide +kernel
theorem d_S_cheapest_55 : decode b_S_cheapest 55 = .ok (.ifCond .lt 19, 3) := by decide +kernel
theorem d_S_cheapest_58 : decode b_S_cheapest 58 = .ok (.iload 5, 2) := by decide +kernel
theorem d_S_cheapest_60 : decode b_S_cheapest 60 = .ok (.invokestatic 165, 3) := by decide +kernel
theorem d_S_cheapest_63 : decode b_S_cheapest 63 = .ok (.iload_n 3, 1) := by decide +kernel
theorem d_S_cheapest_64 : decode b_S_cheapest 64 = .ok (.invokestatic 165, 3) := by decide +kernel
theorem d_S_cheapest_67 : decode b_S_cheapest 67 = .ok (.if_icmp .ge 7, 3) := by decide +kernel
theorem d_S_cheapest_70 : decode b_S_cheapest 70 = .ok (.iconst 1, 1) := by decide +kernel
theorem d_S_cheapest_71 : decode b_S_cheapest 71 = .ok (.goto 4, 3) := by decide +kernel
theorem d_S_cheapest_74 : decode b_S_cheapest 74 = .ok (.iconst 0, 1) := by decide +kernel
theorem d_S_cheapest_75 : decode b_S_cheapest 75 = .ok (.istore 7, 2) := by decide +kernel
theorem d_S_cheapest_77 : decode b_S_cheapest 77 = .ok (.iload 6, 2) := by decide +kernel
theorem d_S_cheapest_79 : decode b_S_cheapest 79 = .ok (.iload 4, 2) := by decide +kernel
theorem d_S_cheapest_81 : decode b_S_cheapest 81 = .ok (.if_icmp .lt 15, 3) := by decide +kernel
theorem d_S_cheapest_84 : decode b_S_cheapest 84 = .ok (.iload 6, 2) := by decide +kernel
theorem d_S_cheapest_86 : decode b_S_cheapest 86 = .ok (.iload 4, 2) := by decide +kernel
theorem d_S_cheapest_88 : decode b_S_cheapest 88 = .ok (.if_icmp .ne 27, 3) := by decide +kernel
theorem d_S_cheapest_91 : decode b_S_cheapest 91 = .ok (.iload 7, 2) := by decide +kernel
theorem d_S_cheapest_93 : decode b_S_cheapest 93 = .ok (.ifCond .eq 22, 3) := by decide +kernel
theorem d_S_cheapest_96 : decode b_S_cheapest 96 = .ok (.aload_n 0, 1) := by decide +kernel
theorem d_S_cheapest_97 : decode b_S_cheapest 97 = .ok (.iload 5, 2) := by decide +kernel
theorem d_S_cheapest_99 : decode b_S_cheapest 99 = .ok (.iload_n 1, 1) := by decide +kernel
theorem d_S_cheapest_100 : decode b_S_cheapest 100 = .ok (.iload_n 2, 1) := by decide +kernel
theorem d_S_cheapest_101 : decode b_S_cheapest 101 = .ok (.invokevirtual 170, 3) := by decide +kernel
theorem d_S_cheapest_104 : decode b_S_cheapest 104 = .ok (.iload_n 1, 1) := by decide +kernel
theorem d_S_cheapest_105 : decode b_S_cheapest 105 = .ok (.if_icmp .ne 10, 3) := by decide +kernel
theorem d_S_cheapest_108 : decode b_S_cheapest 108 = .ok (.iload 5, 2) := by decide +kernel
theorem d_S_cheapest_110 : decode b_S_cheapest 110 = .ok (.istore_n 3, 1) := by decide +kernel
theorem d_S_cheapest_111 : decode b_S_cheapest 111 = .ok (.iload 6, 2) := by decide +kernel
theorem d_S_cheapest_113 : decode b_S_cheapest 113 = .ok (.istore 4, 2) := by decide +kernel
theorem d_S_cheapest_115 : decode b_S_cheapest 115 = .ok (.iinc 5 1, 3) := by decide +kernel
theorem d_S_cheapest_118 : decode b_S_cheapest 118 = .ok (.goto (-90), 3) := by decide +kernel
theorem d_S_cheapest_121 : decode b_S_cheapest 121 = .ok (.iload_n 3, 1) := by decide +kernel
theorem d_S_cheapest_122 : decode b_S_cheapest 122 = .ok (.ifCond .ge 9, 3) := by decide +kernel
theorem d_S_cheapest_125 : decode b_S_cheapest 125 = .ok (.ldc2_w 174, 3) := by decide +kernel
theorem d_S_cheapest_128 : decode b_S_cheapest 128 = .ok (.goto 8, 3) := by decide +kernel
theorem d_S_cheapest_131 : decode b_S_cheapest 131 = .ok (.aload_n 0, 1) := by decide +kernel
theorem d_S_cheapest_132 : decode b_S_cheapest 132 = .ok (.iload_n 3, 1) := by decide +kernel
theorem d_S_cheapest_133 : decode b_S_cheapest 133 = .ok (.invokevirtual 157, 3) := by decide +kernel
theorem d_S_cheapest_136 : decode b_S_cheapest 136 = .ok (.lreturn, 1) := by decide +kernel
abbrev b_W_buy : ByteArray := prog_1_method_22_code
abbrev y_W_buy : MethodName := ⟨"WhoRules", "buy", "(III)J"⟩
theorem d_W_buy_0 : decode b_W_buy 0 = .ok (.aload_n 0, 1) := by decide +kernel
theorem d_W_buy_1 : decode b_W_buy 1 = .ok (.getfield 18, 3) := by decide +kernel
theorem d_W_buy_4 : decode b_W_buy 4 = .ok (.iload_n 1, 1) := by decide +kernel
theorem d_W_buy_5 : decode b_W_buy 5 = .ok (.invokevirtual 236, 3) := by decide +kernel
theorem d_W_buy_8 : decode b_W_buy 8 = .ok (.ifCond .eq 23, 3) := by decide +kernel
theorem d_W_buy_11 : decode b_W_buy 11 = .ok (.aload_n 0, 1) := by decide +kernel
theorem d_W_buy_12 : decode b_W_buy 12 = .ok (.getfield 18, 3) := by decide +kernel
theorem d_W_buy_15 : decode b_W_buy 15 = .ok (.iload_n 2, 1) := by decide +kernel
theorem d_W_buy_16 : decode b_W_buy 16 = .ok (.invokevirtual 87, 3) := by decide +kernel
theorem d_W_buy_19 : decode b_W_buy 19 = .ok (.ifCond .eq 12, 3) := by decide +kernel
theorem d_W_buy_22 : decode b_W_buy 22 = .ok (.iload_n 3, 1) := by decide +kernel
theorem d_W_buy_23 : decode b_W_buy 23 = .ok (.ifCond .lt 8, 3) := by decide +kernel
theorem d_W_buy_26 : decode b_W_buy 26 = .ok (.iload_n 3, 1) := by decide +kernel
theorem d_W_buy_27 : decode b_W_buy 27 = .ok (.iconst 1, 1) := by decide +kernel
theorem d_W_buy_28 : decode b_W_buy 28 = .ok (.if_icmp .le 7, 3) := by decide +kernel
theorem d_W_buy_31 : decode b_W_buy 31 = .ok (.ldc2_w 218, 3) := by decide +kernel
theorem d_W_buy_34 : decode b_W_buy 34 = .ok (.lreturn, 1) := by decide +kernel
theorem d_W_buy_35 : decode b_W_buy 35 = .ok (.aload_n 0, 1) := by decide +kernel
theorem d_W_buy_36 : decode b_W_buy 36 = .ok (.getfield 43, 3) := by decide +kernel
theorem d_W_buy_39 : decode b_W_buy 39 = .ok (.iload_n 1, 1) := by decide +kernel
theorem d_W_buy_40 : decode b_W_buy 40 = .ok (.iload_n 2, 1) := by decide +kernel
theorem d_W_buy_41 : decode b_W_buy 41 = .ok (.invokevirtual 239, 3) := by decide +kernel
theorem d_W_buy_44 : decode b_W_buy 44 = .ok (.lstore 4, 2) := by decide +kernel
theorem d_W_buy_46 : decode b_W_buy 46 = .ok (.lload 4, 2) := by decide +kernel
theorem d_W_buy_48 : decode b_W_buy 48 = .ok (.lconst 0, 1) := by decide +kernel
theorem d_W_buy_49 : decode b_W_buy 49 = .ok (.lcmp, 1) := by decide +kernel
theorem d_W_buy_50 : decode b_W_buy 50 = .ok (.ifCond .lt 7, 3) := by decide +kernel
theorem d_W_buy_53 : decode b_W_buy 53 = .ok (.iload_n 3, 1) := by decide +kernel
theorem d_W_buy_54 : decode b_W_buy 54 = .ok (.ifCond .ne 8, 3) := by decide +kernel
theorem d_W_buy_57 : decode b_W_buy 57 = .ok (.lload 4, 2) := by decide +kernel
theorem d_W_buy_59 : decode b_W_buy 59 = .ok (.goto 13, 3) := by decide +kernel
theorem d_W_buy_62 : decode b_W_buy 62 = .ok (.aload_n 0, 1) := by decide +kernel
theorem d_W_buy_63 : decode b_W_buy 63 = .ok (.getfield 18, 3) := by decide +kernel
theorem d_W_buy_66 : decode b_W_buy 66 = .ok (.lload 4, 2) := by decide +kernel
theorem d_W_buy_68 : decode b_W_buy 68 = .ok (.invokevirtual 243, 3) := by decide +kernel
theorem d_W_buy_71 : decode b_W_buy 71 = .ok (.i2l, 1) := by decide +kernel
theorem d_W_buy_72 : decode b_W_buy 72 = .ok (.lreturn, 1) := by decide +kernel
abbrev b_S_changedWithout : ByteArray := prog_12_method_19_code
abbrev y_S_changedWithout : MethodName := ⟨"WhoRules$Search", "changedWithout", "(I)I"⟩
theorem d_S_changedWithout_0 : decode b_S_changedWithout 0 = .ok (.aload_n 0, 1) := by decide +kernel
theorem d_S_changedWithout_1 : decode b_S_changedWithout 1 = .ok (.getfield 42, 3) := by decide +kernel
theorem d_S_changedWithout_4 : decode b_S_changedWithout 4 = .ok (.aload_n 0, 1) := by decide +kernel
theorem d_S_changedWithout_5 : decode b_S_changedWithout 5 = .ok (.getfield 38, 3) := by decide +kernel
theorem d_S_changedWithout_8 : decode b_S_changedWithout 8 = .ok (.getfield 122, 3) := by decide +kernel
theorem d_S_changedWithout_11 : decode b_S_changedWithout 11 = .ok (.invokevirtual 125, 3) := by decide +kernel
theorem d_S_changedWithout_14 : decode b_S_changedWithout 14 = .ok (.aload_n 0, 1) := by decide +kernel
theorem d_S_changedWithout_15 : decode b_S_changedWithout 15 = .ok (.getfield 42, 3) := by decide +kernel
theorem d_S_changedWithout_18 : decode b_S_changedWithout 18 = .ok (.invokevirtual 128, 3) := by decide +kernel
theorem d_S_changedWithout_21 : decode b_S_changedWithout 21 = .ok (.aload_n 0, 1) := by decide +kernel
theorem d_S_changedWithout_22 : decode b_S_changedWithout 22 = .ok (.getfield 42, 3) := by decide +kernel
theorem d_S_changedWithout_25 : decode b_S_changedWithout 25 = .ok (.getfield 91, 3) := by decide +kernel
theorem d_S_changedWithout_28 : decode b_S_changedWithout 28 = .ok (.iconst 0, 1) := by decide +kernel
theorem d_S_changedWithout_29 : decode b_S_changedWithout 29 = .ok (.aload_n 0, 1) := by decide +kernel
theorem d_S_changedWithout_30 : decode b_S_changedWithout 30 = .ok (.getfield 29, 3) := by decide +kernel
theorem d_S_changedWithout_33 : decode b_S_changedWithout 33 = .ok (.iconst 0, 1) := by decide +kernel
theorem d_S_changedWithout_34 : decode b_S_changedWithout 34 = .ok (.bipush 16, 2) := by decide +kernel
theorem d_S_changedWithout_36 : decode b_S_changedWithout 36 = .ok (.invokestatic 192, 3) := by decide +kernel
theorem d_S_changedWithout_39 : decode b_S_changedWithout 39 = .ok (.aload_n 0, 1) := by decide +kernel
theorem d_S_changedWithout_40 : decode b_S_changedWithout 40 = .ok (.getfield 42, 3) := by decide +kernel
theorem d_S_changedWithout_43 : decode b_S_changedWithout 43 = .ok (.iload_n 1, 1) := by decide +kernel
theorem d_S_changedWithout_44 : decode b_S_changedWithout 44 = .ok (.bipush (-5), 2) := by decide +kernel
theorem d_S_changedWithout_46 : decode b_S_changedWithout 46 = .ok (.invokevirtual 185, 3) := by decide +kernel
theorem d_S_changedWithout_49 : decode b_S_changedWithout 49 = .ok (.aload_n 0, 1) := by decide +kernel
theorem d_S_changedWithout_50 : decode b_S_changedWithout 50 = .ok (.getfield 42, 3) := by decide +kernel
theorem d_S_changedWithout_53 : decode b_S_changedWithout 53 = .ok (.invokevirtual 128, 3) := by decide +kernel
theorem d_S_changedWithout_56 : decode b_S_changedWithout 56 = .ok (.iconst 0, 1) := by decide +kernel
theorem d_S_changedWithout_57 : decode b_S_changedWithout 57 = .ok (.istore_n 2, 1) := by decide +kernel
theorem d_S_changedWithout_58 : decode b_S_changedWithout 58 = .ok (.iconst 0, 1) := by decide +kernel
theorem d_S_changedWithout_59 : decode b_S_changedWithout 59 = .ok (.istore_n 3, 1) := by decide +kernel
theorem d_S_changedWithout_60 : decode b_S_changedWithout 60 = .ok (.iload_n 3, 1) := by decide +kernel
theorem d_S_changedWithout_61 : decode b_S_changedWithout 61 = .ok (.aload_n 0, 1) := by decide +kernel
theorem d_S_changedWithout_62 : decode b_S_changedWithout 62 = .ok (.getfield 38, 3) := by decide +kernel
theorem d_S_changedWithout_65 : decode b_S_changedWithout 65 = .ok (.getfield 49, 3) := by decide +kernel
theorem d_S_changedWithout_68 : decode b_S_changedWithout 68 = .ok (.if_icmp .ge 51, 3) := by decide +kernel
theorem d_S_changedWithout_71 : decode b_S_changedWithout 71 = .ok (.aload_n 0, 1) := by decide +kernel
theorem d_S_changedWithout_72 : decode b_S_changedWithout 72 = .ok (.getfield 38, 3) := by decide +kernel
theorem d_S_changedWithout_75 : decode b_S_changedWithout 75 = .ok (.getfield 78, 3) := by decide +kernel
theorem d_S_changedWithout_78 : decode b_S_changedWithout 78 = .ok (.iload_n 3, 1) := by decide +kernel
theorem d_S_changedWithout_79 : decode b_S_changedWithout 79 = .ok (.iaload, 1) := by decide +kernel
theorem d_S_changedWithout_80 : decode b_S_changedWithout 80 = .ok (.istore 4, 2) := by decide +kernel
theorem d_S_changedWithout_82 : decode b_S_changedWithout 82 = .ok (.iload_n 2, 1) := by decide +kernel
theorem d_S_changedWithout_83 : decode b_S_changedWithout 83 = .ok (.aload_n 0, 1) := by decide +kernel
theorem d_S_changedWithout_84 : decode b_S_changedWithout 84 = .ok (.getfield 42, 3) := by decide +kernel
theorem d_S_changedWithout_87 : decode b_S_changedWithout 87 = .ok (.getfield 91, 3) := by decide +kernel
theorem d_S_changedWithout_90 : decode b_S_changedWithout 90 = .ok (.iload 4, 2) := by decide +kernel
theorem d_S_changedWithout_92 : decode b_S_changedWithout 92 = .ok (.iaload, 1) := by decide +kernel
theorem d_S_changedWithout_93 : decode b_S_changedWithout 93 = .ok (.aload_n 0, 1) := by decide +kernel
theorem d_S_changedWithout_94 : decode b_S_changedWithout 94 = .ok (.getfield 29, 3) := by decide +kernel
theorem d_S_changedWithout_97 : decode b_S_changedWithout 97 = .ok (.iload 4, 2) := by decide +kernel
theorem d_S_changedWithout_99 : decode b_S_changedWithout 99 = .ok (.iaload, 1) := by decide +kernel
theorem d_S_changedWithout_100 : decode b_S_changedWithout 100 = .ok (.if_icmp .eq 10, 3) := by decide +kernel
theorem d_S_changedWithout_103 : decode b_S_changedWithout 103 = .ok (.iconst 1, 1) := by decide +kernel
theorem d_S_changedWithout_104 : decode b_S_changedWithout 104 = .ok (.iload 4, 2) := by decide +kernel
theorem d_S_changedWithout_106 : decode b_S_changedWithout 106 = .ok (.ishl, 1) := by decide +kernel
theorem d_S_changedWithout_107 : decode b_S_changedWithout 107 = .ok (.goto 4, 3) := by decide +kernel
theorem d_S_changedWithout_110 : decode b_S_changedWithout 110 = .ok (.iconst 0, 1) := by decide +kernel
theorem d_S_changedWithout_111 : decode b_S_changedWithout 111 = .ok (.ior, 1) := by decide +kernel
theorem d_S_changedWithout_112 : decode b_S_changedWithout 112 = .ok (.istore_n 2, 1) := by decide +kernel
theorem d_S_changedWithout_113 : decode b_S_changedWithout 113 = .ok (.iinc 3 1, 3) := by decide +kernel
theorem d_S_changedWithout_116 : decode b_S_changedWithout 116 = .ok (.goto (-56), 3) := by decide +kernel
theorem d_S_changedWithout_119 : decode b_S_changedWithout 119 = .ok (.iload_n 2, 1) := by decide +kernel
theorem d_S_changedWithout_120 : decode b_S_changedWithout 120 = .ok (.ireturn, 1) := by decide +kernel
abbrev b_W_sold : ByteArray := prog_1_method_23_code
abbrev y_W_sold : MethodName := ⟨"WhoRules", "sold", "(I)I"⟩
theorem d_W_sold_0 : decode b_W_sold 0 = .ok (.aload_n 0, 1) := by decide +kernel
theorem d_W_sold_1 : decode b_W_sold 1 = .ok (.getfield 18, 3) := by decide +kernel
theorem d_W_sold_4 : decode b_W_sold 4 = .ok (.iload_n 1, 1) := by decide +kernel
theorem d_W_sold_5 : decode b_W_sold 5 = .ok (.invokevirtual 102, 3) := by decide +kernel
theorem d_W_sold_8 : decode b_W_sold 8 = .ok (.ifCond .eq 14, 3) := by decide +kernel
theorem d_W_sold_11 : decode b_W_sold 11 = .ok (.aload_n 0, 1) := by decide +kernel
theorem d_W_sold_12 : decode b_W_sold 12 = .ok (.getfield 43, 3) := by decide +kernel
theorem d_W_sold_15 : decode b_W_sold 15 = .ok (.iload_n 1, 1) := by decide +kernel
theorem d_W_sold_16 : decode b_W_sold 16 = .ok (.invokevirtual 247, 3) := by decide +kernel
theorem d_W_sold_19 : decode b_W_sold 19 = .ok (.goto 4, 3) := by decide +kernel
theorem d_W_sold_22 : decode b_W_sold 22 = .ok (.iconst (-1), 1) := by decide +kernel
theorem d_W_sold_23 : decode b_W_sold 23 = .ok (.ireturn, 1) := by decide +kernel
abbrev b_S_pickOfGroup : ByteArray := prog_12_method_16_code
abbrev y_S_pickOfGroup : MethodName := ⟨"WhoRules$Search", "pickOfGroup", "(I)V"⟩
theorem d_S_pickOfGroup_0 : decode b_S_pickOfGroup 0 = .ok (.aload_n 0, 1) := by decide +kernel
theorem d_S_pickOfGroup_1 : decode b_S_pickOfGroup 1 = .ok (.iconst 0, 1) := by decide +kernel
theorem d_S_pickOfGroup_2 : decode b_S_pickOfGroup 2 = .ok (.putfield 154, 3) := by decide +kernel
theorem d_S_pickOfGroup_5 : decode b_S_pickOfGroup 5 = .ok (.iconst 0, 1) := by decide +kernel
theorem d_S_pickOfGroup_6 : decode b_S_pickOfGroup 6 = .ok (.istore_n 2, 1) := by decide +kernel
theorem d_S_pickOfGroup_7 : decode b_S_pickOfGroup 7 = .ok (.iload_n 2, 1) := by decide +kernel
theorem d_S_pickOfGroup_8 : decode b_S_pickOfGroup 8 = .ok (.aload_n 0, 1) := by decide +kernel
theorem d_S_pickOfGroup_9 : decode b_S_pickOfGroup 9 = .ok (.getfield 38, 3) := by decide +kernel
theorem d_S_pickOfGroup_12 : decode b_S_pickOfGroup 12 = .ok (.getfield 176, 3) := by decide +kernel
theorem d_S_pickOfGroup_15 : decode b_S_pickOfGroup 15 = .ok (.if_icmp .ge 71, 3) := by decide +kernel
theorem d_S_pickOfGroup_18 : decode b_S_pickOfGroup 18 = .ok (.aload_n 0, 1) := by decide +kernel
theorem d_S_pickOfGroup_19 : decode b_S_pickOfGroup 19 = .ok (.getfield 154, 3) := by decide +kernel
theorem d_S_pickOfGroup_22 : decode b_S_pickOfGroup 22 = .ok (.bipush 8, 2) := by decide +kernel
theorem d_S_pickOfGroup_24 : decode b_S_pickOfGroup 24 = .ok (.if_icmp .ge 62, 3) := by decide +kernel
theorem d_S_pickOfGroup_27 : decode b_S_pickOfGroup 27 = .ok (.aload_n 0, 1) := by decide +kernel
theorem d_S_pickOfGroup_28 : decode b_S_pickOfGroup 28 = .ok (.getfield 38, 3) := by decide +kernel
theorem d_S_pickOfGroup_31 : decode b_S_pickOfGroup 31 = .ok (.getfield 182, 3) := by decide +kernel
theorem d_S_pickOfGroup_34 : decode b_S_pickOfGroup 34 = .ok (.iload_n 2, 1) := by decide +kernel
theorem d_S_pickOfGroup_35 : decode b_S_pickOfGroup 35 = .ok (.iaload, 1) := by decide +kernel
theorem d_S_pickOfGroup_36 : decode b_S_pickOfGroup 36 = .ok (.ifCond .lt 44, 3) := by decide +kernel
theorem d_S_pickOfGroup_39 : decode b_S_pickOfGroup 39 = .ok (.aload_n 0, 1) := by decide +kernel
theorem d_S_pickOfGroup_40 : decode b_S_pickOfGroup 40 = .ok (.getfield 42, 3) := by decide +kernel
theorem d_S_pickOfGroup_43 : decode b_S_pickOfGroup 43 = .ok (.getfield 91, 3) := by decide +kernel
theorem d_S_pickOfGroup_46 : decode b_S_pickOfGroup 46 = .ok (.aload_n 0, 1) := by decide +kernel
theorem d_S_pickOfGroup_47 : decode b_S_pickOfGroup 47 = .ok (.getfield 38, 3) := by decide +kernel
theorem d_S_pickOfGroup_50 : decode b_S_pickOfGroup 50 = .ok (.getfield 182, 3) := by decide +kernel
theorem d_S_pickOfGroup_53 : decode b_S_pickOfGroup 53 = .ok (.iload_n 2, 1) := by decide +kernel
theorem d_S_pickOfGroup_54 : decode b_S_pickOfGroup 54 = .ok (.iaload, 1) := by decide +kernel
theorem d_S_pickOfGroup_55 : decode b_S_pickOfGroup 55 = .ok (.iaload, 1) := by decide +kernel
theorem d_S_pickOfGroup_56 : decode b_S_pickOfGroup 56 = .ok (.iload_n 1, 1) := by decide +kernel
theorem d_S_pickOfGroup_57 : decode b_S_pickOfGroup 57 = .ok (.if_icmp .ne 23, 3) := by decide +kernel
theorem d_S_pickOfGroup_60 : decode b_S_pickOfGroup 60 = .ok (.aload_n 0, 1) := by decide +kernel
theorem d_S_pickOfGroup_61 : decode b_S_pickOfGroup 61 = .ok (.getfield 11, 3) := by decide +kernel
theorem d_S_pickOfGroup_64 : decode b_S_pickOfGroup 64 = .ok (.aload_n 0, 1) := by decide +kernel
theorem d_S_pickOfGroup_65 : decode b_S_pickOfGroup 65 = .ok (.getfield 154, 3) := by decide +kernel
theorem d_S_pickOfGroup_68 : decode b_S_pickOfGroup 68 = .ok (.iload_n 2, 1) := by decide +kernel
theorem d_S_pickOfGroup_69 : decode b_S_pickOfGroup 69 = .ok (.iastore, 1) := by decide +kernel
theorem d_S_pickOfGroup_70 : decode b_S_pickOfGroup 70 = .ok (.aload_n 0, 1) := by decide +kernel
theorem d_S_pickOfGroup_71 : decode b_S_pickOfGroup 71 = .ok (.dup, 1) := by decide +kernel
theorem d_S_pickOfGroup_72 : decode b_S_pickOfGroup 72 = .ok (.getfield 154, 3) := by decide +kernel
theorem d_S_pickOfGroup_75 : decode b_S_pickOfGroup 75 = .ok (.iconst 1, 1) := by decide +kernel
theorem d_S_pickOfGroup_76 : decode b_S_pickOfGroup 76 = .ok (.iadd, 1) := by decide +kernel
theorem d_S_pickOfGroup_77 : decode b_S_pickOfGroup 77 = .ok (.putfield 154, 3) := by decide +kernel
theorem d_S_pickOfGroup_80 : decode b_S_pickOfGroup 80 = .ok (.iinc 2 1, 3) := by decide +kernel
theorem d_S_pickOfGroup_83 : decode b_S_pickOfGroup 83 = .ok (.goto (-76), 3) := by decide +kernel
theorem d_S_pickOfGroup_86 : decode b_S_pickOfGroup 86 = .ok (.return_, 1) := by decide +kernel
abbrev b_S_fewestToFree : ByteArray := prog_12_method_20_code
abbrev y_S_fewestToFree : MethodName := ⟨"WhoRules$Search", "fewestToFree", "(I)J"⟩
theorem d_S_fewestToFree_0 : decode b_S_fewestToFree 0 = .ok (.aload_n 0, 1) := by decide +kernel
theorem d_S_fewestToFree_1 : decode b_S_fewestToFree 1 = .ok (.getfield 42, 3) := by decide +kernel
theorem d_S_fewestToFree_4 : decode b_S_fewestToFree 4 = .ok (.aload_n 0, 1) := by decide +kernel
theorem d_S_fewestToFree_5 : decode b_S_fewestToFree 5 = .ok (.getfield 38, 3) := by decide +kernel
theorem d_S_fewestToFree_8 : decode b_S_fewestToFree 8 = .ok (.getfield 122, 3) := by decide +kernel
theorem d_S_fewestToFree_11 : decode b_S_fewestToFree 11 = .ok (.invokevirtual 125, 3) := by decide +kernel
theorem d_S_fewestToFree_14 : decode b_S_fewestToFree 14 = .ok (.aload_n 0, 1) := by decide +kernel
theorem d_S_fewestToFree_15 : decode b_S_fewestToFree 15 = .ok (.getfield 42, 3) := by decide +kernel
theorem d_S_fewestToFree_18 : decode b_S_fewestToFree 18 = .ok (.invokevirtual 128, 3) := by decide +kernel
theorem d_S_fewestToFree_21 : decode b_S_fewestToFree 21 = .ok (.aload_n 0, 1) := by decide +kernel
theorem d_S_fewestToFree_22 : decode b_S_fewestToFree 22 = .ok (.getfield 42, 3) := by decide +kernel
theorem d_S_fewestToFree_25 : decode b_S_fewestToFree 25 = .ok (.getfield 91, 3) := by decide +kernel
theorem d_S_fewestToFree_28 : decode b_S_fewestToFree 28 = .ok (.iload_n 1, 1) := by decide +kernel
theorem d_S_fewestToFree_29 : decode b_S_fewestToFree 29 = .ok (.iaload, 1) := by decide +kernel
theorem d_S_fewestToFree_30 : decode b_S_fewestToFree 30 = .ok (.istore_n 2, 1) := by decide +kernel
theorem d_S_fewestToFree_31 : decode b_S_fewestToFree 31 = .ok (.iload_n 2, 1) := by decide +kernel
theorem d_S_fewestToFree_32 : decode b_S_fewestToFree 32 = .ok (.ifCond .ge 7, 3) := by decide +kernel
theorem d_S_fewestToFree_35 : decode b_S_fewestToFree 35 = .ok (.ldc2_w 198, 3) := by decide +kernel
theorem d_S_fewestToFree_38 : decode b_S_fewestToFree 38 = .ok (.lreturn, 1) := by decide +kernel
theorem d_S_fewestToFree_39 : decode b_S_fewestToFree 39 = .ok (.aload_n 0, 1) := by decide +kernel
theorem d_S_fewestToFree_40 : decode b_S_fewestToFree 40 = .ok (.iload_n 2, 1) := by decide +kernel
theorem d_S_fewestToFree_41 : decode b_S_fewestToFree 41 = .ok (.invokevirtual 200, 3) := by decide +kernel
theorem d_S_fewestToFree_44 : decode b_S_fewestToFree 44 = .ok (.iconst (-1), 1) := by decide +kernel
theorem d_S_fewestToFree_45 : decode b_S_fewestToFree 45 = .ok (.istore_n 3, 1) := by decide +kernel
theorem d_S_fewestToFree_46 : decode b_S_fewestToFree 46 = .ok (.bipush 9, 2) := by decide +kernel
theorem d_S_fewestToFree_48 : decode b_S_fewestToFree 48 = .ok (.istore 4, 2) := by decide +kernel
theorem d_S_fewestToFree_50 : decode b_S_fewestToFree 50 = .ok (.iconst 1, 1) := by decide +kernel
theorem d_S_fewestToFree_51 : decode b_S_fewestToFree 51 = .ok (.istore 5, 2) := by decide +kernel
theorem d_S_fewestToFree_53 : decode b_S_fewestToFree 53 = .ok (.iload 5, 2) := by decide +kernel
theorem d_S_fewestToFree_55 : decode b_S_fewestToFree 55 = .ok (.iconst 1, 1) := by decide +kernel
theorem d_S_fewestToFree_56 : decode b_S_fewestToFree 56 = .ok (.aload_n 0, 1) := by decide +kernel
theorem d_S_fewestToFree_57 : decode b_S_fewestToFree 57 = .ok (.getfield 154, 3) := by decide +kernel
theorem d_S_fewestToFree_60 : decode b_S_fewestToFree 60 = .ok (.ishl, 1) := by decide +kernel
theorem d_S_fewestToFree_61 : decode b_S_fewestToFree 61 = .ok (.if_icmp .ge 41, 3) := by decide +kernel
theorem d_S_fewestToFree_64 : decode b_S_fewestToFree 64 = .ok (.iload 5, 2) := by decide +kernel
theorem d_S_fewestToFree_66 : decode b_S_fewestToFree 66 = .ok (.invokestatic 165, 3) := by decide +kernel
theorem d_S_fewestToFree_69 : decode b_S_fewestToFree 69 = .ok (.iload 4, 2) := by decide +kernel
theorem d_S_fewestToFree_71 : decode b_S_fewestToFree 71 = .ok (.if_icmp .ge 25, 3) := by decide +kernel
theorem d_S_fewestToFree_74 : decode b_S_fewestToFree 74 = .ok (.aload_n 0, 1) := by decide +kernel
theorem d_S_fewestToFree_75 : decode b_S_fewestToFree 75 = .ok (.iload 5, 2) := by decide +kernel
theorem d_S_fewestToFree_77 : decode b_S_fewestToFree 77 = .ok (.bipush (-5), 2) := by decide +kernel
theorem d_S_fewestToFree_79 : decode b_S_fewestToFree 79 = .ok (.iload_n 1, 1) := by decide +kernel
theorem d_S_fewestToFree_80 : decode b_S_fewestToFree 80 = .ok (.invokevirtual 170, 3) := by decide +kernel
theorem d_S_fewestToFree_83 : decode b_S_fewestToFree 83 = .ok (.ifCond .ge 13, 3) := by decide +kernel
theorem d_S_fewestToFree_86 : decode b_S_fewestToFree 86 = .ok (.iload 5, 2) := by decide +kernel
theorem d_S_fewestToFree_88 : decode b_S_fewestToFree 88 = .ok (.istore_n 3, 1) := by decide +kernel
theorem d_S_fewestToFree_89 : decode b_S_fewestToFree 89 = .ok (.iload 5, 2) := by decide +kernel
theorem d_S_fewestToFree_91 : decode b_S_fewestToFree 91 = .ok (.invokestatic 165, 3) := by decide +kernel
theorem d_S_fewestToFree_94 : decode b_S_fewestToFree 94 = .ok (.istore 4, 2) := by decide +kernel
theorem d_S_fewestToFree_96 : decode b_S_fewestToFree 96 = .ok (.iinc 5 1, 3) := by decide +kernel
theorem d_S_fewestToFree_99 : decode b_S_fewestToFree 99 = .ok (.goto (-46), 3) := by decide +kernel
theorem d_S_fewestToFree_102 : decode b_S_fewestToFree 102 = .ok (.iload_n 3, 1) := by decide +kernel
theorem d_S_fewestToFree_103 : decode b_S_fewestToFree 103 = .ok (.ifCond .ge 9, 3) := by decide +kernel
theorem d_S_fewestToFree_106 : decode b_S_fewestToFree 106 = .ok (.ldc2_w 174, 3) := by decide +kernel
theorem d_S_fewestToFree_109 : decode b_S_fewestToFree 109 = .ok (.goto 8, 3) := by decide +kernel
theorem d_S_fewestToFree_112 : decode b_S_fewestToFree 112 = .ok (.aload_n 0, 1) := by decide +kernel
theorem d_S_fewestToFree_113 : decode b_S_fewestToFree 113 = .ok (.iload_n 3, 1) := by decide +kernel
theorem d_S_fewestToFree_114 : decode b_S_fewestToFree 114 = .ok (.invokevirtual 157, 3) := by decide +kernel
theorem d_S_fewestToFree_117 : decode b_S_fewestToFree 117 = .ok (.lreturn, 1) := by decide +kernel
abbrev b_W_free : ByteArray := prog_1_method_24_code
abbrev y_W_free : MethodName := ⟨"WhoRules", "free", "(I)J"⟩
theorem d_W_free_0 : decode b_W_free 0 = .ok (.aload_n 0, 1) := by decide +kernel
theorem d_W_free_1 : decode b_W_free 1 = .ok (.getfield 18, 3) := by decide +kernel
theorem d_W_free_4 : decode b_W_free 4 = .ok (.iload_n 1, 1) := by decide +kernel
theorem d_W_free_5 : decode b_W_free 5 = .ok (.invokevirtual 87, 3) := by decide +kernel
theorem d_W_free_8 : decode b_W_free 8 = .ok (.ifCond .eq 14, 3) := by decide +kernel
theorem d_W_free_11 : decode b_W_free 11 = .ok (.aload_n 0, 1) := by decide +kernel
theorem d_W_free_12 : decode b_W_free 12 = .ok (.getfield 43, 3) := by decide +kernel
theorem d_W_free_15 : decode b_W_free 15 = .ok (.iload_n 1, 1) := by decide +kernel
theorem d_W_free_16 : decode b_W_free 16 = .ok (.invokevirtual 250, 3) := by decide +kernel
theorem d_W_free_19 : decode b_W_free 19 = .ok (.goto 6, 3) := by decide +kernel
theorem d_W_free_22 : decode b_W_free 22 = .ok (.ldc2_w 218, 3) := by decide +kernel
theorem d_W_free_25 : decode b_W_free 25 = .ok (.lreturn, 1) := by decide +kernel
abbrev b_S_rulesHidden : ByteArray := prog_12_method_21_code
abbrev y_S_rulesHidden : MethodName := ⟨"WhoRules$Search", "rulesHidden", "(IIII)Z"⟩
theorem d_S_rulesHidden_0 : decode b_S_rulesHidden 0 = .ok (.aload_n 0, 1) := by decide +kernel
theorem d_S_rulesHidden_1 : decode b_S_rulesHidden 1 = .ok (.getfield 42, 3) := by decide +kernel
theorem d_S_rulesHidden_4 : decode b_S_rulesHidden 4 = .ok (.aload_n 0, 1) := by decide +kernel
theorem d_S_rulesHidden_5 : decode b_S_rulesHidden 5 = .ok (.getfield 38, 3) := by decide +kernel
theorem d_S_rulesHidden_8 : decode b_S_rulesHidden 8 = .ok (.getfield 122, 3) := by decide +kernel
theorem d_S_rulesHidden_11 : decode b_S_rulesHidden 11 = .ok (.invokevirtual 125, 3) := by decide +kernel
theorem d_S_rulesHidden_14 : decode b_S_rulesHidden 14 = .ok (.iconst 0, 1) := by decide +kernel
theorem d_S_rulesHidden_15 : decode b_S_rulesHidden 15 = .ok (.istore 5, 2) := by decide +kernel
theorem d_S_rulesHidden_17 : decode b_S_rulesHidden 17 = .ok (.iload 5, 2) := by decide +kernel
theorem d_S_rulesHidden_19 : decode b_S_rulesHidden 19 = .ok (.aload_n 0, 1) := by decide +kernel
theorem d_S_rulesHidden_20 : decode b_S_rulesHidden 20 = .ok (.getfield 38, 3) := by decide +kernel
theorem d_S_rulesHidden_23 : decode b_S_rulesHidden 23 = .ok (.getfield 176, 3) := by decide +kernel
theorem d_S_rulesHidden_26 : decode b_S_rulesHidden 26 = .ok (.if_icmp .ge 49, 3) := by decide +kernel
theorem d_S_rulesHidden_29 : decode b_S_rulesHidden 29 = .ok (.aload_n 0, 1) := by decide +kernel
theorem d_S_rulesHidden_30 : decode b_S_rulesHidden 30 = .ok (.getfield 38, 3) := by decide +kernel
theorem d_S_rulesHidden_33 : decode b_S_rulesHidden 33 = .ok (.getfield 203, 3) := by decide +kernel
theorem d_S_rulesHidden_36 : decode b_S_rulesHidden 36 = .ok (.iload 5, 2) := by decide +kernel
theorem d_S_rulesHidden_38 : decode b_S_rulesHidden 38 = .ok (.iaload, 1) := by decide +kernel
theorem d_S_rulesHidden_39 : decode b_S_rulesHidden 39 = .ok (.iload_n 3, 1) := by decide +kernel
theorem d_S_rulesHidden_40 : decode b_S_rulesHidden 40 = .ok (.if_icmp .ge 29, 3) := by decide +kernel
theorem d_S_rulesHidden_43 : decode b_S_rulesHidden 43 = .ok (.aload_n 0, 1) := by decide +kernel
theorem d_S_rulesHidden_44 : decode b_S_rulesHidden 44 = .ok (.getfield 38, 3) := by decide +kernel
theorem d_S_rulesHidden_47 : decode b_S_rulesHidden 47 = .ok (.getfield 182, 3) := by decide +kernel
theorem d_S_rulesHidden_50 : decode b_S_rulesHidden 50 = .ok (.iload 5, 2) := by decide +kernel
theorem d_S_rulesHidden_52 : decode b_S_rulesHidden 52 = .ok (.iaload, 1) := by decide +kernel
theorem d_S_rulesHidden_53 : decode b_S_rulesHidden 53 = .ok (.iload 4, 2) := by decide +kernel
theorem d_S_rulesHidden_55 : decode b_S_rulesHidden 55 = .ok (.if_icmp .eq 14, 3) := by decide +kernel
theorem d_S_rulesHidden_58 : decode b_S_rulesHidden 58 = .ok (.aload_n 0, 1) := by decide +kernel
theorem d_S_rulesHidden_59 : decode b_S_rulesHidden 59 = .ok (.getfield 42, 3) := by decide +kernel
theorem d_S_rulesHidden_62 : decode b_S_rulesHidden 62 = .ok (.iload 5, 2) := by decide +kernel
theorem d_S_rulesHidden_64 : decode b_S_rulesHidden 64 = .ok (.iload 4, 2) := by decide +kernel
theorem d_S_rulesHidden_66 : decode b_S_rulesHidden 66 = .ok (.invokevirtual 185, 3) := by decide +kernel
theorem d_S_rulesHidden_69 : decode b_S_rulesHidden 69 = .ok (.iinc 5 1, 3) := by decide +kernel
theorem d_S_rulesHidden_72 : decode b_S_rulesHidden 72 = .ok (.goto (-55), 3) := by decide +kernel
theorem d_S_rulesHidden_75 : decode b_S_rulesHidden 75 = .ok (.aload_n 0, 1) := by decide +kernel
theorem d_S_rulesHidden_76 : decode b_S_rulesHidden 76 = .ok (.getfield 42, 3) := by decide +kernel
theorem d_S_rulesHidden_79 : decode b_S_rulesHidden 79 = .ok (.invokevirtual 128, 3) := by decide +kernel
theorem d_S_rulesHidden_82 : decode b_S_rulesHidden 82 = .ok (.aload_n 0, 1) := by decide +kernel
theorem d_S_rulesHidden_83 : decode b_S_rulesHidden 83 = .ok (.getfield 42, 3) := by decide +kernel
theorem d_S_rulesHidden_86 : decode b_S_rulesHidden 86 = .ok (.getfield 91, 3) := by decide +kernel
theorem d_S_rulesHidden_89 : decode b_S_rulesHidden 89 = .ok (.iload_n 2, 1) := by decide +kernel
theorem d_S_rulesHidden_90 : decode b_S_rulesHidden 90 = .ok (.iaload, 1) := by decide +kernel
theorem d_S_rulesHidden_91 : decode b_S_rulesHidden 91 = .ok (.iload_n 1, 1) := by decide +kernel
theorem d_S_rulesHidden_92 : decode b_S_rulesHidden 92 = .ok (.if_icmp .ne 7, 3) := by decide +kernel
theorem d_S_rulesHidden_95 : decode b_S_rulesHidden 95 = .ok (.iconst 1, 1) := by decide +kernel
theorem d_S_rulesHidden_96 : decode b_S_rulesHidden 96 = .ok (.goto 4, 3) := by decide +kernel
theorem d_S_rulesHidden_99 : decode b_S_rulesHidden 99 = .ok (.iconst 0, 1) := by decide +kernel
theorem d_S_rulesHidden_100 : decode b_S_rulesHidden 100 = .ok (.ireturn, 1) := by decide +kernel
abbrev b_W_may : ByteArray := prog_1_method_25_code
abbrev y_W_may : MethodName := ⟨"WhoRules", "may", "(IIII)I"⟩
theorem d_W_may_0 : decode b_W_may 0 = .ok (.aload_n 0, 1) := by decide +kernel
theorem d_W_may_1 : decode b_W_may 1 = .ok (.getfield 18, 3) := by decide +kernel
theorem d_W_may_4 : decode b_W_may 4 = .ok (.iload_n 1, 1) := by decide +kernel
theorem d_W_may_5 : decode b_W_may 5 = .ok (.invokevirtual 236, 3) := by decide +kernel
theorem d_W_may_8 : decode b_W_may 8 = .ok (.ifCond .eq 25, 3) := by decide +kernel
theorem d_W_may_11 : decode b_W_may 11 = .ok (.aload_n 0, 1) := by decide +kernel
theorem d_W_may_12 : decode b_W_may 12 = .ok (.getfield 18, 3) := by decide +kernel
theorem d_W_may_15 : decode b_W_may 15 = .ok (.iload_n 2, 1) := by decide +kernel
theorem d_W_may_16 : decode b_W_may 16 = .ok (.invokevirtual 87, 3) := by decide +kernel
theorem d_W_may_19 : decode b_W_may 19 = .ok (.ifCond .eq 14, 3) := by decide +kernel
theorem d_W_may_22 : decode b_W_may 22 = .ok (.iload 4, 2) := by decide +kernel
theorem d_W_may_24 : decode b_W_may 24 = .ok (.ifCond .lt 9, 3) := by decide +kernel
theorem d_W_may_27 : decode b_W_may 27 = .ok (.iload 4, 2) := by decide +kernel
theorem d_W_may_29 : decode b_W_may 29 = .ok (.iconst 1, 1) := by decide +kernel
theorem d_W_may_30 : decode b_W_may 30 = .ok (.if_icmp .le 5, 3) := by decide +kernel
theorem d_W_may_33 : decode b_W_may 33 = .ok (.iconst (-1), 1) := by decide +kernel
theorem d_W_may_34 : decode b_W_may 34 = .ok (.ireturn, 1) := by decide +kernel
theorem d_W_may_35 : decode b_W_may 35 = .ok (.iload_n 3, 1) := by decide +kernel
theorem d_W_may_36 : decode b_W_may 36 = .ok (.ifCond .lt 9, 3) := by decide +kernel
theorem d_W_may_39 : decode b_W_may 39 = .ok (.iload_n 3, 1) := by decide +kernel
theorem d_W_may_40 : decode b_W_may 40 = .ok (.bipush 12, 2) := by decide +kernel
theorem d_W_may_42 : decode b_W_may 42 = .ok (.if_icmp .le 6, 3) := by decide +kernel
theorem d_W_may_45 : decode b_W_may 45 = .ok (.bipush (-2), 2) := by decide +kernel
theorem d_W_may_47 : decode b_W_may 47 = .ok (.ireturn, 1) := by decide +kernel
theorem d_W_may_48 : decode b_W_may 48 = .ok (.aload_n 0, 1) := by decide +kernel
theorem d_W_may_49 : decode b_W_may 49 = .ok (.getfield 43, 3) := by decide +kernel
theorem d_W_may_52 : decode b_W_may 52 = .ok (.iload_n 1, 1) := by decide +kernel
theorem d_W_may_53 : decode b_W_may 53 = .ok (.iload_n 2, 1) := by decide +kernel
theorem d_W_may_54 : decode b_W_may 54 = .ok (.iload_n 3, 1) := by decide +kernel
theorem d_W_may_55 : decode b_W_may 55 = .ok (.iload 4, 2) := by decide +kernel
theorem d_W_may_57 : decode b_W_may 57 = .ok (.ifCond .ne 7, 3) := by decide +kernel
theorem d_W_may_60 : decode b_W_may 60 = .ok (.iload_n 1, 1) := by decide +kernel
theorem d_W_may_61 : decode b_W_may 61 = .ok (.goto 5, 3) := by decide +kernel
theorem d_W_may_64 : decode b_W_may 64 = .ok (.bipush (-5), 2) := by decide +kernel
theorem d_W_may_66 : decode b_W_may 66 = .ok (.invokevirtual 254, 3) := by decide +kernel
theorem d_W_may_69 : decode b_W_may 69 = .ok (.ifCond .eq 7, 3) := by decide +kernel
theorem d_W_may_72 : decode b_W_may 72 = .ok (.iconst 1, 1) := by decide +kernel
theorem d_W_may_73 : decode b_W_may 73 = .ok (.goto 4, 3) := by decide +kernel
theorem d_W_may_76 : decode b_W_may 76 = .ok (.iconst 0, 1) := by decide +kernel
theorem d_W_may_77 : decode b_W_may 77 = .ok (.ireturn, 1) := by decide +kernel
abbrev b_W_motion : ByteArray := prog_1_method_26_code
abbrev y_W_motion : MethodName := ⟨"WhoRules", "motion", "(II)I"⟩
theorem d_W_motion_0 : decode b_W_motion 0 = .ok (.aload_n 0, 1) := by decide +kernel
theorem d_W_motion_1 : decode b_W_motion 1 = .ok (.getfield 18, 3) := by decide +kernel
theorem d_W_motion_4 : decode b_W_motion 4 = .ok (.iload_n 1, 1) := by decide +kernel
theorem d_W_motion_5 : decode b_W_motion 5 = .ok (.invokevirtual 180, 3) := by decide +kernel
theorem d_W_motion_8 : decode b_W_motion 8 = .ok (.ifCond .eq 20, 3) := by decide +kernel
theorem d_W_motion_11 : decode b_W_motion 11 = .ok (.aload_n 0, 1) := by decide +kernel
theorem d_W_motion_12 : decode b_W_motion 12 = .ok (.getfield 18, 3) := by decide +kernel
theorem d_W_motion_15 : decode b_W_motion 15 = .ok (.iload_n 2, 1) := by decide +kernel
theorem d_W_motion_16 : decode b_W_motion 16 = .ok (.invokevirtual 180, 3) := by decide +kernel
theorem d_W_motion_19 : decode b_W_motion 19 = .ok (.ifCond .eq 9, 3) := by decide +kernel
theorem d_W_motion_22 : decode b_W_motion 22 = .ok (.iload_n 1, 1) := by decide +kernel
theorem d_W_motion_23 : decode b_W_motion 23 = .ok (.iload_n 2, 1) := by decide +kernel
theorem d_W_motion_24 : decode b_W_motion 24 = .ok (.iand, 1) := by decide +kernel
theorem d_W_motion_25 : decode b_W_motion 25 = .ok (.ifCond .eq 6, 3) := by decide +kernel
theorem d_W_motion_28 : decode b_W_motion 28 = .ok (.bipush (-2), 2) := by decide +kernel
theorem d_W_motion_30 : decode b_W_motion 30 = .ok (.ireturn, 1) := by decide +kernel
theorem d_W_motion_31 : decode b_W_motion 31 = .ok (.aload_n 0, 1) := by decide +kernel
theorem d_W_motion_32 : decode b_W_motion 32 = .ok (.getfield 258, 3) := by decide +kernel
theorem d_W_motion_35 : decode b_W_motion 35 = .ok (.bipush 30, 2) := by decide +kernel
theorem d_W_motion_37 : decode b_W_motion 37 = .ok (.if_icmp .lt 6, 3) := by decide +kernel
theorem d_W_motion_40 : decode b_W_motion 40 = .ok (.bipush (-4), 2) := by decide +kernel
theorem d_W_motion_42 : decode b_W_motion 42 = .ok (.ireturn, 1) := by decide +kernel
theorem d_W_motion_43 : decode b_W_motion 43 = .ok (.aload_n 0, 1) := by decide +kernel
theorem d_W_motion_44 : decode b_W_motion 44 = .ok (.getfield 56, 3) := by decide +kernel
theorem d_W_motion_47 : decode b_W_motion 47 = .ok (.aload_n 0, 1) := by decide +kernel
theorem d_W_motion_48 : decode b_W_motion 48 = .ok (.getfield 258, 3) := by decide +kernel
theorem d_W_motion_51 : decode b_W_motion 51 = .ok (.iload_n 1, 1) := by decide +kernel
theorem d_W_motion_52 : decode b_W_motion 52 = .ok (.iastore, 1) := by decide +kernel
theorem d_W_motion_53 : decode b_W_motion 53 = .ok (.aload_n 0, 1) := by decide +kernel
theorem d_W_motion_54 : decode b_W_motion 54 = .ok (.getfield 59, 3) := by decide +kernel
theorem d_W_motion_57 : decode b_W_motion 57 = .ok (.aload_n 0, 1) := by decide +kernel
theorem d_W_motion_58 : decode b_W_motion 58 = .ok (.getfield 258, 3) := by decide +kernel
theorem d_W_motion_61 : decode b_W_motion 61 = .ok (.iload_n 2, 1) := by decide +kernel
theorem d_W_motion_62 : decode b_W_motion 62 = .ok (.iastore, 1) := by decide +kernel
theorem d_W_motion_63 : decode b_W_motion 63 = .ok (.aload_n 0, 1) := by decide +kernel
theorem d_W_motion_64 : decode b_W_motion 64 = .ok (.dup, 1) := by decide +kernel
theorem d_W_motion_65 : decode b_W_motion 65 = .ok (.getfield 258, 3) := by decide +kernel
theorem d_W_motion_68 : decode b_W_motion 68 = .ok (.iconst 1, 1) := by decide +kernel
theorem d_W_motion_69 : decode b_W_motion 69 = .ok (.iadd, 1) := by decide +kernel
theorem d_W_motion_70 : decode b_W_motion 70 = .ok (.putfield 258, 3) := by decide +kernel
theorem d_W_motion_73 : decode b_W_motion 73 = .ok (.aload_n 0, 1) := by decide +kernel
theorem d_W_motion_74 : decode b_W_motion 74 = .ok (.getfield 258, 3) := by decide +kernel
theorem d_W_motion_77 : decode b_W_motion 77 = .ok (.iconst 1, 1) := by decide +kernel
theorem d_W_motion_78 : decode b_W_motion 78 = .ok (.isub, 1) := by decide +kernel
theorem d_W_motion_79 : decode b_W_motion 79 = .ok (.ireturn, 1) := by decide +kernel
abbrev b_W_timesAlike : ByteArray := prog_1_method_45_code
abbrev y_W_timesAlike : MethodName := ⟨"WhoRules", "timesAlike", "(II)I"⟩
theorem d_W_timesAlike_0 : decode b_W_timesAlike 0 = .ok (.iconst 0, 1) := by decide +kernel
theorem d_W_timesAlike_1 : decode b_W_timesAlike 1 = .ok (.istore_n 3, 1) := by decide +kernel
theorem d_W_timesAlike_2 : decode b_W_timesAlike 2 = .ok (.iconst 0, 1) := by decide +kernel
theorem d_W_timesAlike_3 : decode b_W_timesAlike 3 = .ok (.istore 4, 2) := by decide +kernel
theorem d_W_timesAlike_5 : decode b_W_timesAlike 5 = .ok (.iload 4, 2) := by decide +kernel
theorem d_W_timesAlike_7 : decode b_W_timesAlike 7 = .ok (.aload_n 0, 1) := by decide +kernel
theorem d_W_timesAlike_8 : decode b_W_timesAlike 8 = .ok (.getfield 258, 3) := by decide +kernel
theorem d_W_timesAlike_11 : decode b_W_timesAlike 11 = .ok (.if_icmp .ge 57, 3) := by decide +kernel
theorem d_W_timesAlike_14 : decode b_W_timesAlike 14 = .ok (.iload_n 3, 1) := by decide +kernel
theorem d_W_timesAlike_15 : decode b_W_timesAlike 15 = .ok (.aload_n 0, 1) := by decide +kernel
theorem d_W_timesAlike_16 : decode b_W_timesAlike 16 = .ok (.getfield 56, 3) := by decide +kernel
theorem d_W_timesAlike_19 : decode b_W_timesAlike 19 = .ok (.iload 4, 2) := by decide +kernel
theorem d_W_timesAlike_21 : decode b_W_timesAlike 21 = .ok (.iaload, 1) := by decide +kernel
theorem d_W_timesAlike_22 : decode b_W_timesAlike 22 = .ok (.iload_n 1, 1) := by decide +kernel
theorem d_W_timesAlike_23 : decode b_W_timesAlike 23 = .ok (.ishr, 1) := by decide +kernel
theorem d_W_timesAlike_24 : decode b_W_timesAlike 24 = .ok (.aload_n 0, 1) := by decide +kernel
theorem d_W_timesAlike_25 : decode b_W_timesAlike 25 = .ok (.getfield 56, 3) := by decide +kernel
theorem d_W_timesAlike_28 : decode b_W_timesAlike 28 = .ok (.iload 4, 2) := by decide +kernel
theorem d_W_timesAlike_30 : decode b_W_timesAlike 30 = .ok (.iaload, 1) := by decide +kernel
theorem d_W_timesAlike_31 : decode b_W_timesAlike 31 = .ok (.iload_n 2, 1) := by decide +kernel
theorem d_W_timesAlike_32 : decode b_W_timesAlike 32 = .ok (.ishr, 1) := by decide +kernel
theorem d_W_timesAlike_33 : decode b_W_timesAlike 33 = .ok (.iand, 1) := by decide +kernel
theorem d_W_timesAlike_34 : decode b_W_timesAlike 34 = .ok (.iconst 1, 1) := by decide +kernel
theorem d_W_timesAlike_35 : decode b_W_timesAlike 35 = .ok (.iand, 1) := by decide +kernel
theorem d_W_timesAlike_36 : decode b_W_timesAlike 36 = .ok (.iadd, 1) := by decide +kernel
theorem d_W_timesAlike_37 : decode b_W_timesAlike 37 = .ok (.istore_n 3, 1) := by decide +kernel
theorem d_W_timesAlike_38 : decode b_W_timesAlike 38 = .ok (.iload_n 3, 1) := by decide +kernel
theorem d_W_timesAlike_39 : decode b_W_timesAlike 39 = .ok (.aload_n 0, 1) := by decide +kernel
theorem d_W_timesAlike_40 : decode b_W_timesAlike 40 = .ok (.getfield 59, 3) := by decide +kernel
theorem d_W_timesAlike_43 : decode b_W_timesAlike 43 = .ok (.iload 4, 2) := by decide +kernel
theorem d_W_timesAlike_45 : decode b_W_timesAlike 45 = .ok (.iaload, 1) := by decide +kernel
theorem d_W_timesAlike_46 : decode b_W_timesAlike 46 = .ok (.iload_n 1, 1) := by decide +kernel
theorem d_W_timesAlike_47 : decode b_W_timesAlike 47 = .ok (.ishr, 1) := by decide +kernel
theorem d_W_timesAlike_48 : decode b_W_timesAlike 48 = .ok (.aload_n 0, 1) := by decide +kernel
theorem d_W_timesAlike_49 : decode b_W_timesAlike 49 = .ok (.getfield 59, 3) := by decide +kernel
theorem d_W_timesAlike_52 : decode b_W_timesAlike 52 = .ok (.iload 4, 2) := by decide +kernel
theorem d_W_timesAlike_54 : decode b_W_timesAlike 54 = .ok (.iaload, 1) := by decide +kernel
theorem d_W_timesAlike_55 : decode b_W_timesAlike 55 = .ok (.iload_n 2, 1) := by decide +kernel
theorem d_W_timesAlike_56 : decode b_W_timesAlike 56 = .ok (.ishr, 1) := by decide +kernel
theorem d_W_timesAlike_57 : decode b_W_timesAlike 57 = .ok (.iand, 1) := by decide +kernel
theorem d_W_timesAlike_58 : decode b_W_timesAlike 58 = .ok (.iconst 1, 1) := by decide +kernel
theorem d_W_timesAlike_59 : decode b_W_timesAlike 59 = .ok (.iand, 1) := by decide +kernel
theorem d_W_timesAlike_60 : decode b_W_timesAlike 60 = .ok (.iadd, 1) := by decide +kernel
theorem d_W_timesAlike_61 : decode b_W_timesAlike 61 = .ok (.istore_n 3, 1) := by decide +kernel
theorem d_W_timesAlike_62 : decode b_W_timesAlike 62 = .ok (.iinc 4 1, 3) := by decide +kernel
theorem d_W_timesAlike_65 : decode b_W_timesAlike 65 = .ok (.goto (-60), 3) := by decide +kernel
theorem d_W_timesAlike_68 : decode b_W_timesAlike 68 = .ok (.iload_n 3, 1) := by decide +kernel
theorem d_W_timesAlike_69 : decode b_W_timesAlike 69 = .ok (.ireturn, 1) := by decide +kernel
abbrev b_W_timesApart : ByteArray := prog_1_method_46_code
abbrev y_W_timesApart : MethodName := ⟨"WhoRules", "timesApart", "(II)I"⟩
theorem d_W_timesApart_0 : decode b_W_timesApart 0 = .ok (.iconst 0, 1) := by decide +kernel
theorem d_W_timesApart_1 : decode b_W_timesApart 1 = .ok (.istore_n 3, 1) := by decide +kernel
theorem d_W_timesApart_2 : decode b_W_timesApart 2 = .ok (.iconst 0, 1) := by decide +kernel
theorem d_W_timesApart_3 : decode b_W_timesApart 3 = .ok (.istore 4, 2) := by decide +kernel
theorem d_W_timesApart_5 : decode b_W_timesApart 5 = .ok (.iload 4, 2) := by decide +kernel
theorem d_W_timesApart_7 : decode b_W_timesApart 7 = .ok (.aload_n 0, 1) := by decide +kernel
theorem d_W_timesApart_8 : decode b_W_timesApart 8 = .ok (.getfield 258, 3) := by decide +kernel
theorem d_W_timesApart_11 : decode b_W_timesApart 11 = .ok (.if_icmp .ge 57, 3) := by decide +kernel
theorem d_W_timesApart_14 : decode b_W_timesApart 14 = .ok (.iload_n 3, 1) := by decide +kernel
theorem d_W_timesApart_15 : decode b_W_timesApart 15 = .ok (.aload_n 0, 1) := by decide +kernel
theorem d_W_timesApart_16 : decode b_W_timesApart 16 = .ok (.getfield 56, 3) := by decide +kernel
theorem d_W_timesApart_19 : decode b_W_timesApart 19 = .ok (.iload 4, 2) := by decide +kernel
theorem d_W_timesApart_21 : decode b_W_timesApart 21 = .ok (.iaload, 1) := by decide +kernel
theorem d_W_timesApart_22 : decode b_W_timesApart 22 = .ok (.iload_n 1, 1) := by decide +kernel
theorem d_W_timesApart_23 : decode b_W_timesApart 23 = .ok (.ishr, 1) := by decide +kernel
theorem d_W_timesApart_24 : decode b_W_timesApart 24 = .ok (.aload_n 0, 1) := by decide +kernel
theorem d_W_timesApart_25 : decode b_W_timesApart 25 = .ok (.getfield 59, 3) := by decide +kernel
theorem d_W_timesApart_28 : decode b_W_timesApart 28 = .ok (.iload 4, 2) := by decide +kernel
theorem d_W_timesApart_30 : decode b_W_timesApart 30 = .ok (.iaload, 1) := by decide +kernel
theorem d_W_timesApart_31 : decode b_W_timesApart 31 = .ok (.iload_n 2, 1) := by decide +kernel
theorem d_W_timesApart_32 : decode b_W_timesApart 32 = .ok (.ishr, 1) := by decide +kernel
theorem d_W_timesApart_33 : decode b_W_timesApart 33 = .ok (.iand, 1) := by decide +kernel
theorem d_W_timesApart_34 : decode b_W_timesApart 34 = .ok (.iconst 1, 1) := by decide +kernel
theorem d_W_timesApart_35 : decode b_W_timesApart 35 = .ok (.iand, 1) := by decide +kernel
theorem d_W_timesApart_36 : decode b_W_timesApart 36 = .ok (.iadd, 1) := by decide +kernel
theorem d_W_timesApart_37 : decode b_W_timesApart 37 = .ok (.istore_n 3, 1) := by decide +kernel
theorem d_W_timesApart_38 : decode b_W_timesApart 38 = .ok (.iload_n 3, 1) := by decide +kernel
theorem d_W_timesApart_39 : decode b_W_timesApart 39 = .ok (.aload_n 0, 1) := by decide +kernel
theorem d_W_timesApart_40 : decode b_W_timesApart 40 = .ok (.getfield 59, 3) := by decide +kernel
theorem d_W_timesApart_43 : decode b_W_timesApart 43 = .ok (.iload 4, 2) := by decide +kernel
theorem d_W_timesApart_45 : decode b_W_timesApart 45 = .ok (.iaload, 1) := by decide +kernel
theorem d_W_timesApart_46 : decode b_W_timesApart 46 = .ok (.iload_n 1, 1) := by decide +kernel
theorem d_W_timesApart_47 : decode b_W_timesApart 47 = .ok (.ishr, 1) := by decide +kernel
theorem d_W_timesApart_48 : decode b_W_timesApart 48 = .ok (.aload_n 0, 1) := by decide +kernel
theorem d_W_timesApart_49 : decode b_W_timesApart 49 = .ok (.getfield 56, 3) := by decide +kernel
theorem d_W_timesApart_52 : decode b_W_timesApart 52 = .ok (.iload 4, 2) := by decide +kernel
theorem d_W_timesApart_54 : decode b_W_timesApart 54 = .ok (.iaload, 1) := by decide +kernel
theorem d_W_timesApart_55 : decode b_W_timesApart 55 = .ok (.iload_n 2, 1) := by decide +kernel
theorem d_W_timesApart_56 : decode b_W_timesApart 56 = .ok (.ishr, 1) := by decide +kernel
theorem d_W_timesApart_57 : decode b_W_timesApart 57 = .ok (.iand, 1) := by decide +kernel
theorem d_W_timesApart_58 : decode b_W_timesApart 58 = .ok (.iconst 1, 1) := by decide +kernel
theorem d_W_timesApart_59 : decode b_W_timesApart 59 = .ok (.iand, 1) := by decide +kernel
theorem d_W_timesApart_60 : decode b_W_timesApart 60 = .ok (.iadd, 1) := by decide +kernel
theorem d_W_timesApart_61 : decode b_W_timesApart 61 = .ok (.istore_n 3, 1) := by decide +kernel
theorem d_W_timesApart_62 : decode b_W_timesApart 62 = .ok (.iinc 4 1, 3) := by decide +kernel
theorem d_W_timesApart_65 : decode b_W_timesApart 65 = .ok (.goto (-60), 3) := by decide +kernel
theorem d_W_timesApart_68 : decode b_W_timesApart 68 = .ok (.iload_n 3, 1) := by decide +kernel
theorem d_W_timesApart_69 : decode b_W_timesApart 69 = .ok (.ireturn, 1) := by decide +kernel
abbrev b_W_alike : ByteArray := prog_1_method_27_code
abbrev y_W_alike : MethodName := ⟨"WhoRules", "alike", "(III)I"⟩
theorem d_W_alike_0 : decode b_W_alike 0 = .ok (.aload_n 0, 1) := by decide +kernel
theorem d_W_alike_1 : decode b_W_alike 1 = .ok (.getfield 18, 3) := by decide +kernel
theorem d_W_alike_4 : decode b_W_alike 4 = .ok (.iload_n 1, 1) := by decide +kernel
theorem d_W_alike_5 : decode b_W_alike 5 = .ok (.invokevirtual 91, 3) := by decide +kernel
theorem d_W_alike_8 : decode b_W_alike 8 = .ok (.ifCond .eq 23, 3) := by decide +kernel
theorem d_W_alike_11 : decode b_W_alike 11 = .ok (.aload_n 0, 1) := by decide +kernel
theorem d_W_alike_12 : decode b_W_alike 12 = .ok (.getfield 18, 3) := by decide +kernel
theorem d_W_alike_15 : decode b_W_alike 15 = .ok (.iload_n 2, 1) := by decide +kernel
theorem d_W_alike_16 : decode b_W_alike 16 = .ok (.invokevirtual 91, 3) := by decide +kernel
theorem d_W_alike_19 : decode b_W_alike 19 = .ok (.ifCond .eq 12, 3) := by decide +kernel
theorem d_W_alike_22 : decode b_W_alike 22 = .ok (.iload_n 3, 1) := by decide +kernel
theorem d_W_alike_23 : decode b_W_alike 23 = .ok (.ifCond .lt 8, 3) := by decide +kernel
theorem d_W_alike_26 : decode b_W_alike 26 = .ok (.iload_n 3, 1) := by decide +kernel
theorem d_W_alike_27 : decode b_W_alike 27 = .ok (.iconst 1, 1) := by decide +kernel
theorem d_W_alike_28 : decode b_W_alike 28 = .ok (.if_icmp .le 5, 3) := by decide +kernel
theorem d_W_alike_31 : decode b_W_alike 31 = .ok (.iconst (-1), 1) := by decide +kernel
theorem d_W_alike_32 : decode b_W_alike 32 = .ok (.ireturn, 1) := by decide +kernel
theorem d_W_alike_33 : decode b_W_alike 33 = .ok (.iload_n 1, 1) := by decide +kernel
theorem d_W_alike_34 : decode b_W_alike 34 = .ok (.iload_n 2, 1) := by decide +kernel
theorem d_W_alike_35 : decode b_W_alike 35 = .ok (.if_icmp .ne 6, 3) := by decide +kernel
theorem d_W_alike_38 : decode b_W_alike 38 = .ok (.bipush (-2), 2) := by decide +kernel
theorem d_W_alike_40 : decode b_W_alike 40 = .ok (.ireturn, 1) := by decide +kernel
theorem d_W_alike_41 : decode b_W_alike 41 = .ok (.iload_n 3, 1) := by decide +kernel
theorem d_W_alike_42 : decode b_W_alike 42 = .ok (.ifCond .ne 12, 3) := by decide +kernel
theorem d_W_alike_45 : decode b_W_alike 45 = .ok (.aload_n 0, 1) := by decide +kernel
theorem d_W_alike_46 : decode b_W_alike 46 = .ok (.iload_n 1, 1) := by decide +kernel
theorem d_W_alike_47 : decode b_W_alike 47 = .ok (.iload_n 2, 1) := by decide +kernel
theorem d_W_alike_48 : decode b_W_alike 48 = .ok (.invokevirtual 261, 3) := by decide +kernel
theorem d_W_alike_51 : decode b_W_alike 51 = .ok (.goto 9, 3) := by decide +kernel
theorem d_W_alike_54 : decode b_W_alike 54 = .ok (.aload_n 0, 1) := by decide +kernel
theorem d_W_alike_55 : decode b_W_alike 55 = .ok (.iload_n 1, 1) := by decide +kernel
theorem d_W_alike_56 : decode b_W_alike 56 = .ok (.iload_n 2, 1) := by decide +kernel
theorem d_W_alike_57 : decode b_W_alike 57 = .ok (.invokevirtual 264, 3) := by decide +kernel
theorem d_W_alike_60 : decode b_W_alike 60 = .ok (.ireturn, 1) := by decide +kernel
abbrev b_W_agreeingWith : ByteArray := prog_1_method_48_code
abbrev y_W_agreeingWith : MethodName := ⟨"WhoRules", "agreeingWith", "(III)I"⟩
theorem d_W_agreeingWith_0 : decode b_W_agreeingWith 0 = .ok (.iconst 0, 1) := by decide +kernel
theorem d_W_agreeingWith_1 : decode b_W_agreeingWith 1 = .ok (.istore 4, 2) := by decide +kernel
theorem d_W_agreeingWith_3 : decode b_W_agreeingWith 3 = .ok (.iconst 0, 1) := by decide +kernel
theorem d_W_agreeingWith_4 : decode b_W_agreeingWith 4 = .ok (.istore 5, 2) := by decide +kernel
theorem d_W_agreeingWith_6 : decode b_W_agreeingWith 6 = .ok (.iload 5, 2) := by decide +kernel
theorem d_W_agreeingWith_8 : decode b_W_agreeingWith 8 = .ok (.aload_n 0, 1) := by decide +kernel
theorem d_W_agreeingWith_9 : decode b_W_agreeingWith 9 = .ok (.getfield 18, 3) := by decide +kernel
theorem d_W_agreeingWith_12 : decode b_W_agreeingWith 12 = .ok (.getfield 267, 3) := by decide +kernel
theorem d_W_agreeingWith_15 : decode b_W_agreeingWith 15 = .ok (.if_icmp .ge 60, 3) := by decide +kernel
theorem d_W_agreeingWith_18 : decode b_W_agreeingWith 18 = .ok (.iload_n 3, 1) := by decide +kernel
theorem d_W_agreeingWith_19 : decode b_W_agreeingWith 19 = .ok (.iload 5, 2) := by decide +kernel
theorem d_W_agreeingWith_21 : decode b_W_agreeingWith 21 = .ok (.ishr, 1) := by decide +kernel
theorem d_W_agreeingWith_22 : decode b_W_agreeingWith 22 = .ok (.iconst 1, 1) := by decide +kernel
theorem d_W_agreeingWith_23 : decode b_W_agreeingWith 23 = .ok (.iand, 1) := by decide +kernel
theorem d_W_agreeingWith_24 : decode b_W_agreeingWith 24 = .ok (.ifCond .ne 45, 3) := by decide +kernel
theorem d_W_agreeingWith_27 : decode b_W_agreeingWith 27 = .ok (.aload_n 0, 1) := by decide +kernel
theorem d_W_agreeingWith_28 : decode b_W_agreeingWith 28 = .ok (.getfield 18, 3) := by decide +kernel
theorem d_W_agreeingWith_31 : decode b_W_agreeingWith 31 = .ok (.iload 5, 2) := by decide +kernel
theorem d_W_agreeingWith_33 : decode b_W_agreeingWith 33 = .ok (.invokevirtual 270, 3) := by decide +kernel
theorem d_W_agreeingWith_36 : decode b_W_agreeingWith 36 = .ok (.ifCond .eq 33, 3) := by decide +kernel
theorem d_W_agreeingWith_39 : decode b_W_agreeingWith 39 = .ok (.aload_n 0, 1) := by decide +kernel
theorem d_W_agreeingWith_40 : decode b_W_agreeingWith 40 = .ok (.iload_n 1, 1) := by decide +kernel
theorem d_W_agreeingWith_41 : decode b_W_agreeingWith 41 = .ok (.iload 5, 2) := by decide +kernel
theorem d_W_agreeingWith_43 : decode b_W_agreeingWith 43 = .ok (.invokevirtual 264, 3) := by decide +kernel
theorem d_W_agreeingWith_46 : decode b_W_agreeingWith 46 = .ok (.ifCond .ne 23, 3) := by decide +kernel
theorem d_W_agreeingWith_49 : decode b_W_agreeingWith 49 = .ok (.aload_n 0, 1) := by decide +kernel
theorem d_W_agreeingWith_50 : decode b_W_agreeingWith 50 = .ok (.iload_n 1, 1) := by decide +kernel
theorem d_W_agreeingWith_51 : decode b_W_agreeingWith 51 = .ok (.iload 5, 2) := by decide +kernel
theorem d_W_agreeingWith_53 : decode b_W_agreeingWith 53 = .ok (.invokevirtual 261, 3) := by decide +kernel
theorem d_W_agreeingWith_56 : decode b_W_agreeingWith 56 = .ok (.iload_n 2, 1) := by decide +kernel
theorem d_W_agreeingWith_57 : decode b_W_agreeingWith 57 = .ok (.if_icmp .lt 12, 3) := by decide +kernel
theorem d_W_agreeingWith_60 : decode b_W_agreeingWith 60 = .ok (.iload 4, 2) := by decide +kernel
theorem d_W_agreeingWith_62 : decode b_W_agreeingWith 62 = .ok (.iconst 1, 1) := by decide +kernel
theorem d_W_agreeingWith_63 : decode b_W_agreeingWith 63 = .ok (.iload 5, 2) := by decide +kernel
theorem d_W_agreeingWith_65 : decode b_W_agreeingWith 65 = .ok (.ishl, 1) := by decide +kernel
theorem d_W_agreeingWith_66 : decode b_W_agreeingWith 66 = .ok (.ior, 1) := by decide +kernel
theorem d_W_agreeingWith_67 : decode b_W_agreeingWith 67 = .ok (.istore 4, 2) := by decide +kernel
theorem d_W_agreeingWith_69 : decode b_W_agreeingWith 69 = .ok (.iinc 5 1, 3) := by decide +kernel
theorem d_W_agreeingWith_72 : decode b_W_agreeingWith 72 = .ok (.goto (-66), 3) := by decide +kernel
theorem d_W_agreeingWith_75 : decode b_W_agreeingWith 75 = .ok (.iload 4, 2) := by decide +kernel
theorem d_W_agreeingWith_77 : decode b_W_agreeingWith 77 = .ok (.ireturn, 1) := by decide +kernel
abbrev b_W_asOneWith : ByteArray := prog_1_method_47_code
abbrev y_W_asOneWith : MethodName := ⟨"WhoRules", "asOneWith", "(II)I"⟩
theorem d_W_asOneWith_0 : decode b_W_asOneWith 0 = .ok (.iconst 1, 1) := by decide +kernel
theorem d_W_asOneWith_1 : decode b_W_asOneWith 1 = .ok (.iload_n 1, 1) := by decide +kernel
theorem d_W_asOneWith_2 : decode b_W_asOneWith 2 = .ok (.ishl, 1) := by decide +kernel
theorem d_W_asOneWith_3 : decode b_W_asOneWith 3 = .ok (.istore_n 3, 1) := by decide +kernel
theorem d_W_asOneWith_4 : decode b_W_asOneWith 4 = .ok (.iconst 0, 1) := by decide +kernel
theorem d_W_asOneWith_5 : decode b_W_asOneWith 5 = .ok (.istore 4, 2) := by decide +kernel
theorem d_W_asOneWith_7 : decode b_W_asOneWith 7 = .ok (.iconst 0, 1) := by decide +kernel
theorem d_W_asOneWith_8 : decode b_W_asOneWith 8 = .ok (.istore 5, 2) := by decide +kernel
theorem d_W_asOneWith_10 : decode b_W_asOneWith 10 = .ok (.iload 5, 2) := by decide +kernel
theorem d_W_asOneWith_12 : decode b_W_asOneWith 12 = .ok (.bipush 16, 2) := by decide +kernel
theorem d_W_asOneWith_14 : decode b_W_asOneWith 14 = .ok (.if_icmp .ge 69, 3) := by decide +kernel
theorem d_W_asOneWith_17 : decode b_W_asOneWith 17 = .ok (.iload 4, 2) := by decide +kernel
theorem d_W_asOneWith_19 : decode b_W_asOneWith 19 = .ok (.iload_n 3, 1) := by decide +kernel
theorem d_W_asOneWith_20 : decode b_W_asOneWith 20 = .ok (.if_icmp .eq 63, 3) := by decide +kernel
theorem d_W_asOneWith_23 : decode b_W_asOneWith 23 = .ok (.iload_n 3, 1) := by decide +kernel
theorem d_W_asOneWith_24 : decode b_W_asOneWith 24 = .ok (.iload 4, 2) := by decide +kernel
theorem d_W_asOneWith_26 : decode b_W_asOneWith 26 = .ok (.iconst (-1), 1) := by decide +kernel
theorem d_W_asOneWith_27 : decode b_W_asOneWith 27 = .ok (.ixor, 1) := by decide +kernel
theorem d_W_asOneWith_28 : decode b_W_asOneWith 28 = .ok (.iand, 1) := by decide +kernel
theorem d_W_asOneWith_29 : decode b_W_asOneWith 29 = .ok (.istore 6, 2) := by decide +kernel
theorem d_W_asOneWith_31 : decode b_W_asOneWith 31 = .ok (.iload_n 3, 1) := by decide +kernel
theorem d_W_asOneWith_32 : decode b_W_asOneWith 32 = .ok (.istore 4, 2) := by decide +kernel
theorem d_W_asOneWith_34 : decode b_W_asOneWith 34 = .ok (.iconst 0, 1) := by decide +kernel
theorem d_W_asOneWith_35 : decode b_W_asOneWith 35 = .ok (.istore 7, 2) := by decide +kernel
theorem d_W_asOneWith_37 : decode b_W_asOneWith 37 = .ok (.iload 7, 2) := by decide +kernel
theorem d_W_asOneWith_39 : decode b_W_asOneWith 39 = .ok (.aload_n 0, 1) := by decide +kernel
theorem d_W_asOneWith_40 : decode b_W_asOneWith 40 = .ok (.getfield 18, 3) := by decide +kernel
theorem d_W_asOneWith_43 : decode b_W_asOneWith 43 = .ok (.getfield 267, 3) := by decide +kernel
theorem d_W_asOneWith_46 : decode b_W_asOneWith 46 = .ok (.if_icmp .ge 31, 3) := by decide +kernel
theorem d_W_asOneWith_49 : decode b_W_asOneWith 49 = .ok (.iload 6, 2) := by decide +kernel
theorem d_W_asOneWith_51 : decode b_W_asOneWith 51 = .ok (.iload 7, 2) := by decide +kernel
theorem d_W_asOneWith_53 : decode b_W_asOneWith 53 = .ok (.ishr, 1) := by decide +kernel
theorem d_W_asOneWith_54 : decode b_W_asOneWith 54 = .ok (.iconst 1, 1) := by decide +kernel
theorem d_W_asOneWith_55 : decode b_W_asOneWith 55 = .ok (.iand, 1) := by decide +kernel
theorem d_W_asOneWith_56 : decode b_W_asOneWith 56 = .ok (.iconst 1, 1) := by decide +kernel
theorem d_W_asOneWith_57 : decode b_W_asOneWith 57 = .ok (.if_icmp .ne 14, 3) := by decide +kernel
theorem d_W_asOneWith_60 : decode b_W_asOneWith 60 = .ok (.iload_n 3, 1) := by decide +kernel
theorem d_W_asOneWith_61 : decode b_W_asOneWith 61 = .ok (.aload_n 0, 1) := by decide +kernel
theorem d_W_asOneWith_62 : decode b_W_asOneWith 62 = .ok (.iload 7, 2) := by decide +kernel
theorem d_W_asOneWith_64 : decode b_W_asOneWith 64 = .ok (.iload_n 2, 1) := by decide +kernel
theorem d_W_asOneWith_65 : decode b_W_asOneWith 65 = .ok (.iload_n 3, 1) := by decide +kernel
theorem d_W_asOneWith_66 : decode b_W_asOneWith 66 = .ok (.invokevirtual 334, 3) := by decide +kernel
theorem d_W_asOneWith_69 : decode b_W_asOneWith 69 = .ok (.ior, 1) := by decide +kernel
theorem d_W_asOneWith_70 : decode b_W_asOneWith 70 = .ok (.istore_n 3, 1) := by decide +kernel
theorem d_W_asOneWith_71 : decode b_W_asOneWith 71 = .ok (.iinc 7 1, 3) := by decide +kernel
theorem d_W_asOneWith_74 : decode b_W_asOneWith 74 = .ok (.goto (-37), 3) := by decide +kernel
theorem d_W_asOneWith_77 : decode b_W_asOneWith 77 = .ok (.iinc 5 1, 3) := by decide +kernel
theorem d_W_asOneWith_80 : decode b_W_asOneWith 80 = .ok (.goto (-70), 3) := by decide +kernel
theorem d_W_asOneWith_83 : decode b_W_asOneWith 83 = .ok (.iload_n 3, 1) := by decide +kernel
theorem d_W_asOneWith_84 : decode b_W_asOneWith 84 = .ok (.ireturn, 1) := by decide +kernel
abbrev b_W_found : ByteArray := prog_1_method_28_code
abbrev y_W_found : MethodName := ⟨"WhoRules", "found", "(I)I"⟩
theorem d_W_found_0 : decode b_W_found 0 = .ok (.iload_n 1, 1) := by decide +kernel
theorem d_W_found_1 : decode b_W_found 1 = .ok (.iconst 1, 1) := by decide +kernel
theorem d_W_found_2 : decode b_W_found 2 = .ok (.if_icmp .lt 9, 3) := by decide +kernel
theorem d_W_found_5 : decode b_W_found 5 = .ok (.iload_n 1, 1) := by decide +kernel
theorem d_W_found_6 : decode b_W_found 6 = .ok (.bipush 30, 2) := by decide +kernel
theorem d_W_found_8 : decode b_W_found 8 = .ok (.if_icmp .le 6, 3) := by decide +kernel
theorem d_W_found_11 : decode b_W_found 11 = .ok (.bipush (-2), 2) := by decide +kernel
theorem d_W_found_13 : decode b_W_found 13 = .ok (.ireturn, 1) := by decide +kernel
theorem d_W_found_14 : decode b_W_found 14 = .ok (.iconst 0, 1) := by decide +kernel
theorem d_W_found_15 : decode b_W_found 15 = .ok (.istore_n 2, 1) := by decide +kernel
theorem d_W_found_16 : decode b_W_found 16 = .ok (.iconst 0, 1) := by decide +kernel
theorem d_W_found_17 : decode b_W_found 17 = .ok (.istore_n 3, 1) := by decide +kernel
theorem d_W_found_18 : decode b_W_found 18 = .ok (.iconst 0, 1) := by decide +kernel
theorem d_W_found_19 : decode b_W_found 19 = .ok (.istore 4, 2) := by decide +kernel
theorem d_W_found_21 : decode b_W_found 21 = .ok (.iload 4, 2) := by decide +kernel
theorem d_W_found_23 : decode b_W_found 23 = .ok (.aload_n 0, 1) := by decide +kernel
theorem d_W_found_24 : decode b_W_found 24 = .ok (.getfield 18, 3) := by decide +kernel
theorem d_W_found_27 : decode b_W_found 27 = .ok (.getfield 267, 3) := by decide +kernel
theorem d_W_found_30 : decode b_W_found 30 = .ok (.if_icmp .ge 61, 3) := by decide +kernel
theorem d_W_found_33 : decode b_W_found 33 = .ok (.aload_n 0, 1) := by decide +kernel
theorem d_W_found_34 : decode b_W_found 34 = .ok (.getfield 18, 3) := by decide +kernel
theorem d_W_found_37 : decode b_W_found 37 = .ok (.iload 4, 2) := by decide +kernel
theorem d_W_found_39 : decode b_W_found 39 = .ok (.invokevirtual 270, 3) := by decide +kernel
theorem d_W_found_42 : decode b_W_found 42 = .ok (.ifCond .eq 43, 3) := by decide +kernel
theorem d_W_found_45 : decode b_W_found 45 = .ok (.iload_n 3, 1) := by decide +kernel
theorem d_W_found_46 : decode b_W_found 46 = .ok (.iload 4, 2) := by decide +kernel
theorem d_W_found_48 : decode b_W_found 48 = .ok (.ishr, 1) := by decide +kernel
theorem d_W_found_49 : decode b_W_found 49 = .ok (.iconst 1, 1) := by decide +kernel
theorem d_W_found_50 : decode b_W_found 50 = .ok (.iand, 1) := by decide +kernel
theorem d_W_found_51 : decode b_W_found 51 = .ok (.ifCond .ne 34, 3) := by decide +kernel
theorem d_W_found_54 : decode b_W_found 54 = .ok (.aload_n 0, 1) := by decide +kernel
theorem d_W_found_55 : decode b_W_found 55 = .ok (.iload 4, 2) := by decide +kernel
theorem d_W_found_57 : decode b_W_found 57 = .ok (.iload_n 1, 1) := by decide +kernel
theorem d_W_found_58 : decode b_W_found 58 = .ok (.invokevirtual 273, 3) := by decide +kernel
theorem d_W_found_61 : decode b_W_found 61 = .ok (.istore 5, 2) := by decide +kernel
theorem d_W_found_63 : decode b_W_found 63 = .ok (.iload_n 3, 1) := by decide +kernel
theorem d_W_found_64 : decode b_W_found 64 = .ok (.iload 5, 2) := by decide +kernel
theorem d_W_found_66 : decode b_W_found 66 = .ok (.ior, 1) := by decide +kernel
theorem d_W_found_67 : decode b_W_found 67 = .ok (.istore_n 3, 1) := by decide +kernel
theorem d_W_found_68 : decode b_W_found 68 = .ok (.iload_n 2, 1) := by decide +kernel
theorem d_W_found_69 : decode b_W_found 69 = .ok (.iload 5, 2) := by decide +kernel
theorem d_W_found_71 : decode b_W_found 71 = .ok (.invokestatic 276, 3) := by decide +kernel
theorem d_W_found_74 : decode b_W_found 74 = .ok (.iconst 1, 1) := by decide +kernel
theorem d_W_found_75 : decode b_W_found 75 = .ok (.if_icmp .le 7, 3) := by decide +kernel
theorem d_W_found_78 : decode b_W_found 78 = .ok (.iconst 1, 1) := by decide +kernel
theorem d_W_found_79 : decode b_W_found 79 = .ok (.goto 4, 3) := by decide +kernel
theorem d_W_found_82 : decode b_W_found 82 = .ok (.iconst 0, 1) := by decide +kernel
theorem d_W_found_83 : decode b_W_found 83 = .ok (.iadd, 1) := by decide +kernel
theorem d_W_found_84 : decode b_W_found 84 = .ok (.istore_n 2, 1) := by decide +kernel
theorem d_W_found_85 : decode b_W_found 85 = .ok (.iinc 4 1, 3) := by decide +kernel
theorem d_W_found_88 : decode b_W_found 88 = .ok (.goto (-67), 3) := by decide +kernel
theorem d_W_found_91 : decode b_W_found 91 = .ok (.iload_n 2, 1) := by decide +kernel
theorem d_W_found_92 : decode b_W_found 92 = .ok (.ireturn, 1) := by decide +kernel
abbrev b_F_closes : ByteArray := prog_5_method_12_code
abbrev y_F_closes : MethodName := ⟨"WhoRules$Flow", "closes", "([I[III)Z"⟩
theorem d_F_closes_0 : decode b_F_closes 0 = .ok (.iload_n 2, 1) := by decide +kernel
theorem d_F_closes_1 : decode b_F_closes 1 = .ok (.iconst 1, 1) := by decide +kernel
theorem d_F_closes_2 : decode b_F_closes 2 = .ok (.if_icmp .lt 9, 3) := by decide +kernel
theorem d_F_closes_5 : decode b_F_closes 5 = .ok (.iload_n 2, 1) := by decide +kernel
theorem d_F_closes_6 : decode b_F_closes 6 = .ok (.bipush 7, 2) := by decide +kernel
theorem d_F_closes_8 : decode b_F_closes 8 = .ok (.if_icmp .le 5, 3) := by decide +kernel
theorem d_F_closes_11 : decode b_F_closes 11 = .ok (.iconst 0, 1) := by decide +kernel
theorem d_F_closes_12 : decode b_F_closes 12 = .ok (.ireturn, 1) := by decide +kernel
theorem d_F_closes_13 : decode b_F_closes 13 = .ok (.aload_n 1, 1) := by decide +kernel
theorem d_F_closes_14 : decode b_F_closes 14 = .ok (.iload_n 2, 1) := by decide +kernel
theorem d_F_closes_15 : decode b_F_closes 15 = .ok (.iconst 1, 1) := by decide +kernel
theorem d_F_closes_16 : decode b_F_closes 16 = .ok (.isub, 1) := by decide +kernel
theorem d_F_closes_17 : decode b_F_closes 17 = .ok (.iaload, 1) := by decide +kernel
theorem d_F_closes_18 : decode b_F_closes 18 = .ok (.istore 4, 2) := by decide +kernel
theorem d_F_closes_20 : decode b_F_closes 20 = .ok (.iload_n 2, 1) := by decide +kernel
theorem d_F_closes_21 : decode b_F_closes 21 = .ok (.iload_n 3, 1) := by decide +kernel
theorem d_F_closes_22 : decode b_F_closes 22 = .ok (.if_icmp .ne 23, 3) := by decide +kernel
theorem d_F_closes_25 : decode b_F_closes 25 = .ok (.aload_n 0, 1) := by decide +kernel
theorem d_F_closes_26 : decode b_F_closes 26 = .ok (.iload 4, 2) := by decide +kernel
theorem d_F_closes_28 : decode b_F_closes 28 = .ok (.iaload, 1) := by decide +kernel
theorem d_F_closes_29 : decode b_F_closes 29 = .ok (.aload_n 1, 1) := by decide +kernel
theorem d_F_closes_30 : decode b_F_closes 30 = .ok (.iconst 0, 1) := by decide +kernel
theorem d_F_closes_31 : decode b_F_closes 31 = .ok (.iaload, 1) := by decide +kernel
theorem d_F_closes_32 : decode b_F_closes 32 = .ok (.ishr, 1) := by decide +kernel
theorem d_F_closes_33 : decode b_F_closes 33 = .ok (.iconst 1, 1) := by decide +kernel
theorem d_F_closes_34 : decode b_F_closes 34 = .ok (.iand, 1) := by decide +kernel
theorem d_F_closes_35 : decode b_F_closes 35 = .ok (.iconst 1, 1) := by decide +kernel
theorem d_F_closes_36 : decode b_F_closes 36 = .ok (.if_icmp .ne 7, 3) := by decide +kernel
theorem d_F_closes_39 : decode b_F_closes 39 = .ok (.iconst 1, 1) := by decide +kernel
theorem d_F_closes_40 : decode b_F_closes 40 = .ok (.goto 4, 3) := by decide +kernel
theorem d_F_closes_43 : decode b_F_closes 43 = .ok (.iconst 0, 1) := by decide +kernel
theorem d_F_closes_44 : decode b_F_closes 44 = .ok (.ireturn, 1) := by decide +kernel
theorem d_F_closes_45 : decode b_F_closes 45 = .ok (.aload_n 1, 1) := by decide +kernel
theorem d_F_closes_46 : decode b_F_closes 46 = .ok (.iconst 0, 1) := by decide +kernel
theorem d_F_closes_47 : decode b_F_closes 47 = .ok (.iaload, 1) := by decide +kernel
theorem d_F_closes_48 : decode b_F_closes 48 = .ok (.iconst 1, 1) := by decide +kernel
theorem d_F_closes_49 : decode b_F_closes 49 = .ok (.iadd, 1) := by decide +kernel
theorem d_F_closes_50 : decode b_F_closes 50 = .ok (.istore 5, 2) := by decide +kernel
theorem d_F_closes_52 : decode b_F_closes 52 = .ok (.iload 5, 2) := by decide +kernel
theorem d_F_closes_54 : decode b_F_closes 54 = .ok (.bipush 16, 2) := by decide +kernel
theorem d_F_closes_56 : decode b_F_closes 56 = .ok (.if_icmp .ge 47, 3) := by decide +kernel
theorem d_F_closes_59 : decode b_F_closes 59 = .ok (.iload_n 2, 1) := by decide +kernel
theorem d_F_closes_60 : decode b_F_closes 60 = .ok (.bipush 7, 2) := by decide +kernel
theorem d_F_closes_62 : decode b_F_closes 62 = .ok (.if_icmp .ge 41, 3) := by decide +kernel
theorem d_F_closes_65 : decode b_F_closes 65 = .ok (.aload_n 0, 1) := by decide +kernel
theorem d_F_closes_66 : decode b_F_closes 66 = .ok (.iload 4, 2) := by decide +kernel
theorem d_F_closes_68 : decode b_F_closes 68 = .ok (.iaload, 1) := by decide +kernel
theorem d_F_closes_69 : decode b_F_closes 69 = .ok (.iload 5, 2) := by decide +kernel
theorem d_F_closes_71 : decode b_F_closes 71 = .ok (.ishr, 1) := by decide +kernel
theorem d_F_closes_72 : decode b_F_closes 72 = .ok (.iconst 1, 1) := by decide +kernel
theorem d_F_closes_73 : decode b_F_closes 73 = .ok (.iand, 1) := by decide +kernel
theorem d_F_closes_74 : decode b_F_closes 74 = .ok (.iconst 1, 1) := by decide +kernel
theorem d_F_closes_75 : decode b_F_closes 75 = .ok (.if_icmp .ne 22, 3) := by decide +kernel
theorem d_F_closes_78 : decode b_F_closes 78 = .ok (.aload_n 1, 1) := by decide +kernel
theorem d_F_closes_79 : decode b_F_closes 79 = .ok (.iload_n 2, 1) := by decide +kernel
theorem d_F_closes_80 : decode b_F_closes 80 = .ok (.iload 5, 2) := by decide +kernel
theorem d_F_closes_82 : decode b_F_closes 82 = .ok (.iastore, 1) := by decide +kernel
theorem d_F_closes_83 : decode b_F_closes 83 = .ok (.aload_n 0, 1) := by decide +kernel
theorem d_F_closes_84 : decode b_F_closes 84 = .ok (.aload_n 1, 1) := by decide +kernel
theorem d_F_closes_85 : decode b_F_closes 85 = .ok (.iload_n 2, 1) := by decide +kernel
theorem d_F_closes_86 : decode b_F_closes 86 = .ok (.iconst 1, 1) := by decide +kernel
theorem d_F_closes_87 : decode b_F_closes 87 = .ok (.iadd, 1) := by decide +kernel
theorem d_F_closes_88 : decode b_F_closes 88 = .ok (.iload_n 3, 1) := by decide +kernel
theorem d_F_closes_89 : decode b_F_closes 89 = .ok (.invokestatic 114, 3) := by decide +kernel
theorem d_F_closes_92 : decode b_F_closes 92 = .ok (.ifCond .eq 5, 3) := by decide +kernel
theorem d_F_closes_95 : decode b_F_closes 95 = .ok (.iconst 1, 1) := by decide +kernel
theorem d_F_closes_96 : decode b_F_closes 96 = .ok (.ireturn, 1) := by decide +kernel
theorem d_F_closes_97 : decode b_F_closes 97 = .ok (.iinc 5 1, 3) := by decide +kernel
theorem d_F_closes_100 : decode b_F_closes 100 = .ok (.goto (-48), 3) := by decide +kernel
theorem d_F_closes_103 : decode b_F_closes 103 = .ok (.iconst 0, 1) := by decide +kernel
theorem d_F_closes_104 : decode b_F_closes 104 = .ok (.ireturn, 1) := by decide +kernel
abbrev b_F_findRing : ByteArray := prog_5_method_11_code
abbrev y_F_findRing : MethodName := ⟨"WhoRules$Flow", "findRing", "()I"⟩
theorem d_F_findRing_0 : decode b_F_findRing 0 = .ok (.aload_n 0, 1) := by decide +kernel
theorem d_F_findRing_1 : decode b_F_findRing 1 = .ok (.invokevirtual 74, 3) := by decide +kernel
theorem d_F_findRing_4 : decode b_F_findRing 4 = .ok (.aload_n 0, 1) := by decide +kernel
theorem d_F_findRing_5 : decode b_F_findRing 5 = .ok (.getfield 20, 3) := by decide +kernel
theorem d_F_findRing_8 : decode b_F_findRing 8 = .ok (.iconst 0, 1) := by decide +kernel
theorem d_F_findRing_9 : decode b_F_findRing 9 = .ok (.invokestatic 57, 3) := by decide +kernel
theorem d_F_findRing_12 : decode b_F_findRing 12 = .ok (.iconst 0, 1) := by decide +kernel
theorem d_F_findRing_13 : decode b_F_findRing 13 = .ok (.istore_n 1, 1) := by decide +kernel
theorem d_F_findRing_14 : decode b_F_findRing 14 = .ok (.iload_n 1, 1) := by decide +kernel
theorem d_F_findRing_15 : decode b_F_findRing 15 = .ok (.aload_n 0, 1) := by decide +kernel
theorem d_F_findRing_16 : decode b_F_findRing 16 = .ok (.getfield 37, 3) := by decide +kernel
theorem d_F_findRing_19 : decode b_F_findRing 19 = .ok (.getfield 51, 3) := by decide +kernel
theorem d_F_findRing_22 : decode b_F_findRing 22 = .ok (.if_icmp .ge 81, 3) := by decide +kernel
theorem d_F_findRing_25 : decode b_F_findRing 25 = .ok (.iconst 0, 1) := by decide +kernel
theorem d_F_findRing_26 : decode b_F_findRing 26 = .ok (.istore_n 2, 1) := by decide +kernel
theorem d_F_findRing_27 : decode b_F_findRing 27 = .ok (.iload_n 2, 1) := by decide +kernel
theorem d_F_findRing_28 : decode b_F_findRing 28 = .ok (.aload_n 0, 1) := by decide +kernel
theorem d_F_findRing_29 : decode b_F_findRing 29 = .ok (.getfield 37, 3) := by decide +kernel
theorem d_F_findRing_32 : decode b_F_findRing 32 = .ok (.getfield 51, 3) := by decide +kernel
theorem d_F_findRing_35 : decode b_F_findRing 35 = .ok (.if_icmp .ge 62, 3) := by decide +kernel
theorem d_F_findRing_38 : decode b_F_findRing 38 = .ok (.aload_n 0, 1) := by decide +kernel
theorem d_F_findRing_39 : decode b_F_findRing 39 = .ok (.getfield 37, 3) := by decide +kernel
theorem d_F_findRing_42 : decode b_F_findRing 42 = .ok (.getfield 54, 3) := by decide +kernel
theorem d_F_findRing_45 : decode b_F_findRing 45 = .ok (.iload_n 2, 1) := by decide +kernel
theorem d_F_findRing_46 : decode b_F_findRing 46 = .ok (.iaload, 1) := by decide +kernel
theorem d_F_findRing_47 : decode b_F_findRing 47 = .ok (.istore_n 3, 1) := by decide +kernel
theorem d_F_findRing_48 : decode b_F_findRing 48 = .ok (.aload_n 0, 1) := by decide +kernel
theorem d_F_findRing_49 : decode b_F_findRing 49 = .ok (.getfield 20, 3) := by decide +kernel
theorem d_F_findRing_52 : decode b_F_findRing 52 = .ok (.iload_n 3, 1) := by decide +kernel
theorem d_F_findRing_53 : decode b_F_findRing 53 = .ok (.dup2, 1) := by decide +kernel
theorem d_F_findRing_54 : decode b_F_findRing 54 = .ok (.iaload, 1) := by decide +kernel
theorem d_F_findRing_55 : decode b_F_findRing 55 = .ok (.aload_n 0, 1) := by decide +kernel
theorem d_F_findRing_56 : decode b_F_findRing 56 = .ok (.getfield 11, 3) := by decide +kernel
theorem d_F_findRing_59 : decode b_F_findRing 59 = .ok (.aload_n 0, 1) := by decide +kernel
theorem d_F_findRing_60 : decode b_F_findRing 60 = .ok (.getfield 37, 3) := by decide +kernel
theorem d_F_findRing_63 : decode b_F_findRing 63 = .ok (.getfield 54, 3) := by decide +kernel
theorem d_F_findRing_66 : decode b_F_findRing 66 = .ok (.iload_n 1, 1) := by decide +kernel
theorem d_F_findRing_67 : decode b_F_findRing 67 = .ok (.iaload, 1) := by decide +kernel
theorem d_F_findRing_68 : decode b_F_findRing 68 = .ok (.aaload, 1) := by decide +kernel
theorem d_F_findRing_69 : decode b_F_findRing 69 = .ok (.iload_n 3, 1) := by decide +kernel
theorem d_F_findRing_70 : decode b_F_findRing 70 = .ok (.iaload, 1) := by decide +kernel
theorem d_F_findRing_71 : decode b_F_findRing 71 = .ok (.ifCond .le 17, 3) := by decide +kernel
theorem d_F_findRing_74 : decode b_F_findRing 74 = .ok (.iconst 1, 1) := by decide +kernel
theorem d_F_findRing_75 : decode b_F_findRing 75 = .ok (.aload_n 0, 1) := by decide +kernel
theorem d_F_findRing_76 : decode b_F_findRing 76 = .ok (.getfield 37, 3) := by decide +kernel
theorem d_F_findRing_79 : decode b_F_findRing 79 = .ok (.getfield 54, 3) := by decide +kernel
theorem d_F_findRing_82 : decode b_F_findRing 82 = .ok (.iload_n 1, 1) := by decide +kernel
theorem d_F_findRing_83 : decode b_F_findRing 83 = .ok (.iaload, 1) := by decide +kernel
theorem d_F_findRing_84 : decode b_F_findRing 84 = .ok (.ishl, 1) := by decide +kernel
theorem d_F_findRing_85 : decode b_F_findRing 85 = .ok (.goto 4, 3) := by decide +kernel
theorem d_F_findRing_88 : decode b_F_findRing 88 = .ok (.iconst 0, 1) := by decide +kernel
theorem d_F_findRing_89 : decode b_F_findRing 89 = .ok (.ior, 1) := by decide +kernel
theorem d_F_findRing_90 : decode b_F_findRing 90 = .ok (.iastore, 1) := by decide +kernel
theorem d_F_findRing_91 : decode b_F_findRing 91 = .ok (.iinc 2 1, 3) := by decide +kernel
theorem d_F_findRing_94 : decode b_F_findRing 94 = .ok (.goto (-67), 3) := by decide +kernel
theorem d_F_findRing_97 : decode b_F_findRing 97 = .ok (.iinc 1 1, 3) := by decide +kernel
theorem d_F_findRing_100 : decode b_F_findRing 100 = .ok (.goto (-86), 3) := by decide +kernel
theorem d_F_findRing_103 : decode b_F_findRing 103 = .ok (.iconst 1, 1) := by decide +kernel
theorem d_F_findRing_104 : decode b_F_findRing 104 = .ok (.istore_n 1, 1) := by decide +kernel
theorem d_F_findRing_105 : decode b_F_findRing 105 = .ok (.iload_n 1, 1) := by decide +kernel
theorem d_F_findRing_106 : decode b_F_findRing 106 = .ok (.aload_n 0, 1) := by decide +kernel
theorem d_F_findRing_107 : decode b_F_findRing 107 = .ok (.getfield 37, 3) := by decide +kernel
theorem d_F_findRing_110 : decode b_F_findRing 110 = .ok (.getfield 51, 3) := by decide +kernel
theorem d_F_findRing_113 : decode b_F_findRing 113 = .ok (.if_icmp .gt 61, 3) := by decide +kernel
theorem d_F_findRing_116 : decode b_F_findRing 116 = .ok (.iconst 0, 1) := by decide +kernel
theorem d_F_findRing_117 : decode b_F_findRing 117 = .ok (.istore_n 2, 1) := by decide +kernel
theorem d_F_findRing_118 : decode b_F_findRing 118 = .ok (.iload_n 2, 1) := by decide +kernel
theorem d_F_findRing_119 : decode b_F_findRing 119 = .ok (.aload_n 0, 1) := by decide +kernel
theorem d_F_findRing_120 : decode b_F_findRing 120 = .ok (.getfield 37, 3) := by decide +kernel
theorem d_F_findRing_123 : decode b_F_findRing 123 = .ok (.getfield 51, 3) := by decide +kernel
theorem d_F_findRing_126 : decode b_F_findRing 126 = .ok (.if_icmp .ge 42, 3) := by decide +kernel
theorem d_F_findRing_129 : decode b_F_findRing 129 = .ok (.aload_n 0, 1) := by decide +kernel
theorem d_F_findRing_130 : decode b_F_findRing 130 = .ok (.getfield 23, 3) := by decide +kernel
theorem d_F_findRing_133 : decode b_F_findRing 133 = .ok (.iconst 0, 1) := by decide +kernel
theorem d_F_findRing_134 : decode b_F_findRing 134 = .ok (.aload_n 0, 1) := by decide +kernel
theorem d_F_findRing_135 : decode b_F_findRing 135 = .ok (.getfield 37, 3) := by decide +kernel
theorem d_F_findRing_138 : decode b_F_findRing 138 = .ok (.getfield 54, 3) := by decide +kernel
theorem d_F_findRing_141 : decode b_F_findRing 141 = .ok (.iload_n 2, 1) := by decide +kernel
theorem d_F_findRing_142 : decode b_F_findRing 142 = .ok (.iaload, 1) := by decide +kernel
theorem d_F_findRing_143 : decode b_F_findRing 143 = .ok (.iastore, 1) := by decide +kernel
theorem d_F_findRing_144 : decode b_F_findRing 144 = .ok (.aload_n 0, 1) := by decide +kernel
theorem d_F_findRing_145 : decode b_F_findRing 145 = .ok (.getfield 20, 3) := by decide +kernel
theorem d_F_findRing_148 : decode b_F_findRing 148 = .ok (.aload_n 0, 1) := by decide +kernel
theorem d_F_findRing_149 : decode b_F_findRing 149 = .ok (.getfield 23, 3) := by decide +kernel
theorem d_F_findRing_152 : decode b_F_findRing 152 = .ok (.iconst 1, 1) := by decide +kernel
theorem d_F_findRing_153 : decode b_F_findRing 153 = .ok (.iload_n 1, 1) := by decide +kernel
theorem d_F_findRing_154 : decode b_F_findRing 154 = .ok (.invokestatic 114, 3) := by decide +kernel
theorem d_F_findRing_157 : decode b_F_findRing 157 = .ok (.ifCond .eq 5, 3) := by decide +kernel
theorem d_F_findRing_160 : decode b_F_findRing 160 = .ok (.iload_n 1, 1) := by decide +kernel
theorem d_F_findRing_161 : decode b_F_findRing 161 = .ok (.ireturn, 1) := by decide +kernel
theorem d_F_findRing_162 : decode b_F_findRing 162 = .ok (.iinc 2 1, 3) := by decide +kernel
theorem d_F_findRing_165 : decode b_F_findRing 165 = .ok (.goto (-47), 3) := by decide +kernel
theorem d_F_findRing_168 : decode b_F_findRing 168 = .ok (.iinc 1 1, 3) := by decide +kernel
theorem d_F_findRing_171 : decode b_F_findRing 171 = .ok (.goto (-66), 3) := by decide +kernel
theorem d_F_findRing_174 : decode b_F_findRing 174 = .ok (.iconst 0, 1) := by decide +kernel
theorem d_F_findRing_175 : decode b_F_findRing 175 = .ok (.ireturn, 1) := by decide +kernel
abbrev b_W_ring : ByteArray := prog_1_method_29_code
abbrev y_W_ring : MethodName := ⟨"WhoRules", "ring", "(I)I"⟩
theorem d_W_ring_0 : decode b_W_ring 0 = .ok (.iload_n 1, 1) := by decide +kernel
theorem d_W_ring_1 : decode b_W_ring 1 = .ok (.iconst (-1), 1) := by decide +kernel
theorem d_W_ring_2 : decode b_W_ring 2 = .ok (.if_icmp .ge 5, 3) := by decide +kernel
theorem d_W_ring_5 : decode b_W_ring 5 = .ok (.iconst (-1), 1) := by decide +kernel
theorem d_W_ring_6 : decode b_W_ring 6 = .ok (.ireturn, 1) := by decide +kernel
theorem d_W_ring_7 : decode b_W_ring 7 = .ok (.aload_n 0, 1) := by decide +kernel
theorem d_W_ring_8 : decode b_W_ring 8 = .ok (.getfield 52, 3) := by decide +kernel
theorem d_W_ring_11 : decode b_W_ring 11 = .ok (.invokevirtual 281, 3) := by decide +kernel
theorem d_W_ring_14 : decode b_W_ring 14 = .ok (.istore_n 2, 1) := by decide +kernel
theorem d_W_ring_15 : decode b_W_ring 15 = .ok (.iload_n 1, 1) := by decide +kernel
theorem d_W_ring_16 : decode b_W_ring 16 = .ok (.iconst (-1), 1) := by decide +kernel
theorem d_W_ring_17 : decode b_W_ring 17 = .ok (.if_icmp .ne 5, 3) := by decide +kernel
theorem d_W_ring_20 : decode b_W_ring 20 = .ok (.iload_n 2, 1) := by decide +kernel
theorem d_W_ring_21 : decode b_W_ring 21 = .ok (.ireturn, 1) := by decide +kernel
theorem d_W_ring_22 : decode b_W_ring 22 = .ok (.iload_n 1, 1) := by decide +kernel
theorem d_W_ring_23 : decode b_W_ring 23 = .ok (.iload_n 2, 1) := by decide +kernel
theorem d_W_ring_24 : decode b_W_ring 24 = .ok (.if_icmp .ge 15, 3) := by decide +kernel
theorem d_W_ring_27 : decode b_W_ring 27 = .ok (.aload_n 0, 1) := by decide +kernel
theorem d_W_ring_28 : decode b_W_ring 28 = .ok (.getfield 52, 3) := by decide +kernel
theorem d_W_ring_31 : decode b_W_ring 31 = .ok (.getfield 284, 3) := by decide +kernel
theorem d_W_ring_34 : decode b_W_ring 34 = .ok (.iload_n 1, 1) := by decide +kernel
theorem d_W_ring_35 : decode b_W_ring 35 = .ok (.iaload, 1) := by decide +kernel
theorem d_W_ring_36 : decode b_W_ring 36 = .ok (.goto 4, 3) := by decide +kernel
theorem d_W_ring_39 : decode b_W_ring 39 = .ok (.iconst (-1), 1) := by decide +kernel
theorem d_W_ring_40 : decode b_W_ring 40 = .ok (.ireturn, 1) := by decide +kernel
abbrev b_F_listCuts : ByteArray := prog_5_method_14_code
abbrev y_F_listCuts : MethodName := ⟨"WhoRules$Flow", "listCuts", "()I"⟩
theorem d_F_listCuts_0 : decode b_F_listCuts 0 = .ok (.aload_n 0, 1) := by decide +kernel
theorem d_F_listCuts_1 : decode b_F_listCuts 1 = .ok (.getfield 37, 3) := by decide +kernel
theorem d_F_listCuts_4 : decode b_F_listCuts 4 = .ok (.aload_n 0, 1) := by decide +kernel
theorem d_F_listCuts_5 : decode b_F_listCuts 5 = .ok (.getfield 37, 3) := by decide +kernel
theorem d_F_listCuts_8 : decode b_F_listCuts 8 = .ok (.getfield 41, 3) := by decide +kernel
theorem d_F_listCuts_11 : decode b_F_listCuts 11 = .ok (.invokevirtual 47, 3) := by decide +kernel
theorem d_F_listCuts_14 : decode b_F_listCuts 14 = .ok (.iconst 0, 1) := by decide +kernel
theorem d_F_listCuts_15 : decode b_F_listCuts 15 = .ok (.istore_n 1, 1) := by decide +kernel
theorem d_F_listCuts_16 : decode b_F_listCuts 16 = .ok (.iconst 0, 1) := by decide +kernel
theorem d_F_listCuts_17 : decode b_F_listCuts 17 = .ok (.istore_n 2, 1) := by decide +kernel
theorem d_F_listCuts_18 : decode b_F_listCuts 18 = .ok (.iload_n 2, 1) := by decide +kernel
theorem d_F_listCuts_19 : decode b_F_listCuts 19 = .ok (.aload_n 0, 1) := by decide +kernel
theorem d_F_listCuts_20 : decode b_F_listCuts 20 = .ok (.getfield 37, 3) := by decide +kernel
theorem d_F_listCuts_23 : decode b_F_listCuts 23 = .ok (.getfield 63, 3) := by decide +kernel
theorem d_F_listCuts_26 : decode b_F_listCuts 26 = .ok (.if_icmp .ge 56, 3) := by decide +kernel
theorem d_F_listCuts_29 : decode b_F_listCuts 29 = .ok (.iload_n 1, 1) := by decide +kernel
theorem d_F_listCuts_30 : decode b_F_listCuts 30 = .ok (.bipush 12, 2) := by decide +kernel
theorem d_F_listCuts_32 : decode b_F_listCuts 32 = .ok (.if_icmp .ge 50, 3) := by decide +kernel
theorem d_F_listCuts_35 : decode b_F_listCuts 35 = .ok (.aload_n 0, 1) := by decide +kernel
theorem d_F_listCuts_36 : decode b_F_listCuts 36 = .ok (.getfield 37, 3) := by decide +kernel
theorem d_F_listCuts_39 : decode b_F_listCuts 39 = .ok (.getfield 72, 3) := by decide +kernel
theorem d_F_listCuts_42 : decode b_F_listCuts 42 = .ok (.iload_n 2, 1) := by decide +kernel
theorem d_F_listCuts_43 : decode b_F_listCuts 43 = .ok (.iaload, 1) := by decide +kernel
theorem d_F_listCuts_44 : decode b_F_listCuts 44 = .ok (.ifCond .le 32, 3) := by decide +kernel
theorem d_F_listCuts_47 : decode b_F_listCuts 47 = .ok (.aload_n 0, 1) := by decide +kernel
theorem d_F_listCuts_48 : decode b_F_listCuts 48 = .ok (.getfield 37, 3) := by decide +kernel
theorem d_F_listCuts_51 : decode b_F_listCuts 51 = .ok (.aload_n 0, 1) := by decide +kernel
theorem d_F_listCuts_52 : decode b_F_listCuts 52 = .ok (.getfield 37, 3) := by decide +kernel
theorem d_F_listCuts_55 : decode b_F_listCuts 55 = .ok (.getfield 66, 3) := by decide +kernel
theorem d_F_listCuts_58 : decode b_F_listCuts 58 = .ok (.iload_n 2, 1) := by decide +kernel
theorem d_F_listCuts_59 : decode b_F_listCuts 59 = .ok (.iaload, 1) := by decide +kernel
theorem d_F_listCuts_60 : decode b_F_listCuts 60 = .ok (.invokevirtual 88, 3) := by decide +kernel
theorem d_F_listCuts_63 : decode b_F_listCuts 63 = .ok (.ifCond .eq 13, 3) := by decide +kernel
theorem d_F_listCuts_66 : decode b_F_listCuts 66 = .ok (.aload_n 0, 1) := by decide +kernel
theorem d_F_listCuts_67 : decode b_F_listCuts 67 = .ok (.getfield 26, 3) := by decide +kernel
theorem d_F_listCuts_70 : decode b_F_listCuts 70 = .ok (.iload_n 1, 1) := by decide +kernel
theorem d_F_listCuts_71 : decode b_F_listCuts 71 = .ok (.iload_n 2, 1) := by decide +kernel
theorem d_F_listCuts_72 : decode b_F_listCuts 72 = .ok (.iastore, 1) := by decide +kernel
theorem d_F_listCuts_73 : decode b_F_listCuts 73 = .ok (.iinc 1 1, 3) := by decide +kernel
theorem d_F_listCuts_76 : decode b_F_listCuts 76 = .ok (.iinc 2 1, 3) := by decide +kernel
theorem d_F_listCuts_79 : decode b_F_listCuts 79 = .ok (.goto (-61), 3) := by decide +kernel
theorem d_F_listCuts_82 : decode b_F_listCuts 82 = .ok (.iload_n 1, 1) := by decide +kernel
theorem d_F_listCuts_83 : decode b_F_listCuts 83 = .ok (.ireturn, 1) := by decide +kernel
abbrev b_F_isRingWithout : ByteArray := prog_5_method_15_code
abbrev y_F_isRingWithout : MethodName := ⟨"WhoRules$Flow", "isRingWithout", "(II)Z"⟩
theorem d_F_isRingWithout_0 : decode b_F_isRingWithout 0 = .ok (.aload_n 0, 1) := by decide +kernel
theorem d_F_isRingWithout_1 : decode b_F_isRingWithout 1 = .ok (.getfield 20, 3) := by decide +kernel
theorem d_F_isRingWithout_4 : decode b_F_isRingWithout 4 = .ok (.iconst 0, 1) := by decide +kernel
theorem d_F_isRingWithout_5 : decode b_F_isRingWithout 5 = .ok (.invokestatic 57, 3) := by decide +kernel
theorem d_F_isRingWithout_8 : decode b_F_isRingWithout 8 = .ok (.iconst 0, 1) := by decide +kernel
theorem d_F_isRingWithout_9 : decode b_F_isRingWithout 9 = .ok (.istore_n 3, 1) := by decide +kernel
theorem d_F_isRingWithout_10 : decode b_F_isRingWithout 10 = .ok (.iconst 0, 1) := by decide +kernel
theorem d_F_isRingWithout_11 : decode b_F_isRingWithout 11 = .ok (.istore 4, 2) := by decide +kernel
theorem d_F_isRingWithout_13 : decode b_F_isRingWithout 13 = .ok (.iload 4, 2) := by decide +kernel
theorem d_F_isRingWithout_15 : decode b_F_isRingWithout 15 = .ok (.iload_n 2, 1) := by decide +kernel
theorem d_F_isRingWithout_16 : decode b_F_isRingWithout 16 = .ok (.if_icmp .ge 69, 3) := by decide +kernel
theorem d_F_isRingWithout_19 : decode b_F_isRingWithout 19 = .ok (.iload_n 1, 1) := by decide +kernel
theorem d_F_isRingWithout_20 : decode b_F_isRingWithout 20 = .ok (.iload 4, 2) := by decide +kernel
theorem d_F_isRingWithout_22 : decode b_F_isRingWithout 22 = .ok (.ishr, 1) := by decide +kernel
theorem d_F_isRingWithout_23 : decode b_F_isRingWithout 23 = .ok (.iconst 1, 1) := by decide +kernel
theorem d_F_isRingWithout_24 : decode b_F_isRingWithout 24 = .ok (.iand, 1) := by decide +kernel
theorem d_F_isRingWithout_25 : decode b_F_isRingWithout 25 = .ok (.ifCond .ne 54, 3) := by decide +kernel
theorem d_F_isRingWithout_28 : decode b_F_isRingWithout 28 = .ok (.aload_n 0, 1) := by decide +kernel
theorem d_F_isRingWithout_29 : decode b_F_isRingWithout 29 = .ok (.getfield 37, 3) := by decide +kernel
theorem d_F_isRingWithout_32 : decode b_F_isRingWithout 32 = .ok (.getfield 66, 3) := by decide +kernel
theorem d_F_isRingWithout_35 : decode b_F_isRingWithout 35 = .ok (.aload_n 0, 1) := by decide +kernel
theorem d_F_isRingWithout_36 : decode b_F_isRingWithout 36 = .ok (.getfield 26, 3) := by decide +kernel
theorem d_F_isRingWithout_39 : decode b_F_isRingWithout 39 = .ok (.iload 4, 2) := by decide +kernel
theorem d_F_isRingWithout_41 : decode b_F_isRingWithout 41 = .ok (.iaload, 1) := by decide +kernel
theorem d_F_isRingWithout_42 : decode b_F_isRingWithout 42 = .ok (.iaload, 1) := by decide +kernel
theorem d_F_isRingWithout_43 : decode b_F_isRingWithout 43 = .ok (.istore 5, 2) := by decide +kernel
theorem d_F_isRingWithout_45 : decode b_F_isRingWithout 45 = .ok (.aload_n 0, 1) := by decide +kernel
theorem d_F_isRingWithout_46 : decode b_F_isRingWithout 46 = .ok (.getfield 20, 3) := by decide +kernel
theorem d_F_isRingWithout_49 : decode b_F_isRingWithout 49 = .ok (.iload 5, 2) := by decide +kernel
theorem d_F_isRingWithout_51 : decode b_F_isRingWithout 51 = .ok (.dup2, 1) := by decide +kernel
theorem d_F_isRingWithout_52 : decode b_F_isRingWithout 52 = .ok (.iaload, 1) := by decide +kernel
theorem d_F_isRingWithout_53 : decode b_F_isRingWithout 53 = .ok (.iconst 1, 1) := by decide +kernel
theorem d_F_isRingWithout_54 : decode b_F_isRingWithout 54 = .ok (.aload_n 0, 1) := by decide +kernel
theorem d_F_isRingWithout_55 : decode b_F_isRingWithout 55 = .ok (.getfield 37, 3) := by decide +kernel
theorem d_F_isRingWithout_58 : decode b_F_isRingWithout 58 = .ok (.getfield 69, 3) := by decide +kernel
theorem d_F_isRingWithout_61 : decode b_F_isRingWithout 61 = .ok (.aload_n 0, 1) := by decide +kernel
theorem d_F_isRingWithout_62 : decode b_F_isRingWithout 62 = .ok (.getfield 26, 3) := by decide +kernel
theorem d_F_isRingWithout_65 : decode b_F_isRingWithout 65 = .ok (.iload 4, 2) := by decide +kernel
theorem d_F_isRingWithout_67 : decode b_F_isRingWithout 67 = .ok (.iaload, 1) := by decide +kernel
theorem d_F_isRingWithout_68 : decode b_F_isRingWithout 68 = .ok (.iaload, 1) := by decide +kernel
theorem d_F_isRingWithout_69 : decode b_F_isRingWithout 69 = .ok (.ishl, 1) := by decide +kernel
theorem d_F_isRingWithout_70 : decode b_F_isRingWithout 70 = .ok (.ior, 1) := by decide +kernel
theorem d_F_isRingWithout_71 : decode b_F_isRingWithout 71 = .ok (.iastore, 1) := by decide +kernel
theorem d_F_isRingWithout_72 : decode b_F_isRingWithout 72 = .ok (.iload_n 3, 1) := by decide +kernel
theorem d_F_isRingWithout_73 : decode b_F_isRingWithout 73 = .ok (.iconst 1, 1) := by decide +kernel
theorem d_F_isRingWithout_74 : decode b_F_isRingWithout 74 = .ok (.iload 5, 2) := by decide +kernel
theorem d_F_isRingWithout_76 : decode b_F_isRingWithout 76 = .ok (.ishl, 1) := by decide +kernel
theorem d_F_isRingWithout_77 : decode b_F_isRingWithout 77 = .ok (.ior, 1) := by decide +kernel
theorem d_F_isRingWithout_78 : decode b_F_isRingWithout 78 = .ok (.istore_n 3, 1) := by decide +kernel
theorem d_F_isRingWithout_79 : decode b_F_isRingWithout 79 = .ok (.iinc 4 1, 3) := by decide +kernel
theorem d_F_isRingWithout_82 : decode b_F_isRingWithout 82 = .ok (.goto (-69), 3) := by decide +kernel
theorem d_F_isRingWithout_85 : decode b_F_isRingWithout 85 = .ok (.iconst 0, 1) := by decide +kernel
theorem d_F_isRingWithout_86 : decode b_F_isRingWithout 86 = .ok (.istore 4, 2) := by decide +kernel
theorem d_F_isRingWithout_88 : decode b_F_isRingWithout 88 = .ok (.iload 4, 2) := by decide +kernel
theorem d_F_isRingWithout_90 : decode b_F_isRingWithout 90 = .ok (.bipush 7, 2) := by decide +kernel
theorem d_F_isRingWithout_92 : decode b_F_isRingWithout 92 = .ok (.if_icmp .ge 67, 3) := by decide +kernel
theorem d_F_isRingWithout_95 : decode b_F_isRingWithout 95 = .ok (.iconst 0, 1) := by decide +kernel
theorem d_F_isRingWithout_96 : decode b_F_isRingWithout 96 = .ok (.istore 5, 2) := by decide +kernel
theorem d_F_isRingWithout_98 : decode b_F_isRingWithout 98 = .ok (.iload 5, 2) := by decide +kernel
theorem d_F_isRingWithout_100 : decode b_F_isRingWithout 100 = .ok (.aload_n 0, 1) := by decide +kernel
theorem d_F_isRingWithout_101 : decode b_F_isRingWithout 101 = .ok (.getfield 37, 3) := by decide +kernel
theorem d_F_isRingWithout_104 : decode b_F_isRingWithout 104 = .ok (.getfield 51, 3) := by decide +kernel
theorem d_F_isRingWithout_107 : decode b_F_isRingWithout 107 = .ok (.if_icmp .ge 46, 3) := by decide +kernel
theorem d_F_isRingWithout_110 : decode b_F_isRingWithout 110 = .ok (.aload_n 0, 1) := by decide +kernel
theorem d_F_isRingWithout_111 : decode b_F_isRingWithout 111 = .ok (.getfield 37, 3) := by decide +kernel
theorem d_F_isRingWithout_114 : decode b_F_isRingWithout 114 = .ok (.getfield 54, 3) := by decide +kernel
theorem d_F_isRingWithout_117 : decode b_F_isRingWithout 117 = .ok (.iload 5, 2) := by decide +kernel
theorem d_F_isRingWithout_119 : decode b_F_isRingWithout 119 = .ok (.iaload, 1) := by decide +kernel
theorem d_F_isRingWithout_120 : decode b_F_isRingWithout 120 = .ok (.istore 6, 2) := by decide +kernel
theorem d_F_isRingWithout_122 : decode b_F_isRingWithout 122 = .ok (.iload_n 3, 1) := by decide +kernel
theorem d_F_isRingWithout_123 : decode b_F_isRingWithout 123 = .ok (.aload_n 0, 1) := by decide +kernel
theorem d_F_isRingWithout_124 : decode b_F_isRingWithout 124 = .ok (.getfield 20, 3) := by decide +kernel
theorem d_F_isRingWithout_127 : decode b_F_isRingWithout 127 = .ok (.iload 6, 2) := by decide +kernel
theorem d_F_isRingWithout_129 : decode b_F_isRingWithout 129 = .ok (.iaload, 1) := by decide +kernel
theorem d_F_isRingWithout_130 : decode b_F_isRingWithout 130 = .ok (.iload_n 3, 1) := by decide +kernel
theorem d_F_isRingWithout_131 : decode b_F_isRingWithout 131 = .ok (.iand, 1) := by decide +kernel
theorem d_F_isRingWithout_132 : decode b_F_isRingWithout 132 = .ok (.ifCond .ne 12, 3) := by decide +kernel
theorem d_F_isRingWithout_135 : decode b_F_isRingWithout 135 = .ok (.iconst 1, 1) := by decide +kernel
theorem d_F_isRingWithout_136 : decode b_F_isRingWithout 136 = .ok (.iload 6, 2) := by decide +kernel
theorem d_F_isRingWithout_138 : decode b_F_isRingWithout 138 = .ok (.ishl, 1) := by decide +kernel
theorem d_F_isRingWithout_139 : decode b_F_isRingWithout 139 = .ok (.iconst (-1), 1) := by decide +kernel
theorem d_F_isRingWithout_140 : decode b_F_isRingWithout 140 = .ok (.ixor, 1) := by decide +kernel
theorem d_F_isRingWithout_141 : decode b_F_isRingWithout 141 = .ok (.goto 4, 3) := by decide +kernel
theorem d_F_isRingWithout_144 : decode b_F_isRingWithout 144 = .ok (.iconst (-1), 1) := by decide +kernel
theorem d_F_isRingWithout_145 : decode b_F_isRingWithout 145 = .ok (.iand, 1) := by decide +kernel
theorem d_F_isRingWithout_146 : decode b_F_isRingWithout 146 = .ok (.istore_n 3, 1) := by decide +kernel
theorem d_F_isRingWithout_147 : decode b_F_isRingWithout 147 = .ok (.iinc 5 1, 3) := by decide +kernel
theorem d_F_isRingWithout_150 : decode b_F_isRingWithout 150 = .ok (.goto (-52), 3) := by decide +kernel
theorem d_F_isRingWithout_153 : decode b_F_isRingWithout 153 = .ok (.iinc 4 1, 3) := by decide +kernel
theorem d_F_isRingWithout_156 : decode b_F_isRingWithout 156 = .ok (.goto (-68), 3) := by decide +kernel
theorem d_F_isRingWithout_159 : decode b_F_isRingWithout 159 = .ok (.iload_n 3, 1) := by decide +kernel
theorem d_F_isRingWithout_160 : decode b_F_isRingWithout 160 = .ok (.ifCond .eq 7, 3) := by decide +kernel
theorem d_F_isRingWithout_163 : decode b_F_isRingWithout 163 = .ok (.iconst 1, 1) := by decide +kernel
theorem d_F_isRingWithout_164 : decode b_F_isRingWithout 164 = .ok (.goto 4, 3) := by decide +kernel
theorem d_F_isRingWithout_167 : decode b_F_isRingWithout 167 = .ok (.iconst 0, 1) := by decide +kernel
theorem d_F_isRingWithout_168 : decode b_F_isRingWithout 168 = .ok (.ireturn, 1) := by decide +kernel
abbrev b_F_fewestToBreak : ByteArray := prog_5_method_13_code
abbrev y_F_fewestToBreak : MethodName := ⟨"WhoRules$Flow", "fewestToBreak", "()J"⟩
theorem d_F_fewestToBreak_0 : decode b_F_fewestToBreak 0 = .ok (.aload_n 0, 1) := by decide +kernel
theorem d_F_fewestToBreak_1 : decode b_F_fewestToBreak 1 = .ok (.invokevirtual 118, 3) := by decide +kernel
theorem d_F_fewestToBreak_4 : decode b_F_fewestToBreak 4 = .ok (.istore_n 1, 1) := by decide +kernel
theorem d_F_fewestToBreak_5 : decode b_F_fewestToBreak 5 = .ok (.iconst 0, 1) := by decide +kernel
theorem d_F_fewestToBreak_6 : decode b_F_fewestToBreak 6 = .ok (.istore_n 2, 1) := by decide +kernel
theorem d_F_fewestToBreak_7 : decode b_F_fewestToBreak 7 = .ok (.bipush 13, 2) := by decide +kernel
theorem d_F_fewestToBreak_9 : decode b_F_fewestToBreak 9 = .ok (.istore_n 3, 1) := by decide +kernel
theorem d_F_fewestToBreak_10 : decode b_F_fewestToBreak 10 = .ok (.iconst 0, 1) := by decide +kernel
theorem d_F_fewestToBreak_11 : decode b_F_fewestToBreak 11 = .ok (.istore 4, 2) := by decide +kernel
theorem d_F_fewestToBreak_13 : decode b_F_fewestToBreak 13 = .ok (.iload 4, 2) := by decide +kernel
theorem d_F_fewestToBreak_15 : decode b_F_fewestToBreak 15 = .ok (.iconst 1, 1) := by decide +kernel
theorem d_F_fewestToBreak_16 : decode b_F_fewestToBreak 16 = .ok (.iload_n 1, 1) := by decide +kernel
theorem d_F_fewestToBreak_17 : decode b_F_fewestToBreak 17 = .ok (.ishl, 1) := by decide +kernel
theorem d_F_fewestToBreak_18 : decode b_F_fewestToBreak 18 = .ok (.if_icmp .ge 37, 3) := by decide +kernel
theorem d_F_fewestToBreak_21 : decode b_F_fewestToBreak 21 = .ok (.iload 4, 2) := by decide +kernel
theorem d_F_fewestToBreak_23 : decode b_F_fewestToBreak 23 = .ok (.invokestatic 121, 3) := by decide +kernel
theorem d_F_fewestToBreak_26 : decode b_F_fewestToBreak 26 = .ok (.iload_n 3, 1) := by decide +kernel
theorem d_F_fewestToBreak_27 : decode b_F_fewestToBreak 27 = .ok (.if_icmp .ge 22, 3) := by decide +kernel
theorem d_F_fewestToBreak_30 : decode b_F_fewestToBreak 30 = .ok (.aload_n 0, 1) := by decide +kernel
theorem d_F_fewestToBreak_31 : decode b_F_fewestToBreak 31 = .ok (.iload 4, 2) := by decide +kernel
theorem d_F_fewestToBreak_33 : decode b_F_fewestToBreak 33 = .ok (.iload_n 1, 1) := by decide +kernel
theorem d_F_fewestToBreak_34 : decode b_F_fewestToBreak 34 = .ok (.invokevirtual 127, 3) := by decide +kernel
theorem d_F_fewestToBreak_37 : decode b_F_fewestToBreak 37 = .ok (.ifCond .ne 12, 3) := by decide +kernel
theorem d_F_fewestToBreak_40 : decode b_F_fewestToBreak 40 = .ok (.iload 4, 2) := by decide +kernel
theorem d_F_fewestToBreak_42 : decode b_F_fewestToBreak 42 = .ok (.istore_n 2, 1) := by decide +kernel
theorem d_F_fewestToBreak_43 : decode b_F_fewestToBreak 43 = .ok (.iload 4, 2) := by decide +kernel
theorem d_F_fewestToBreak_45 : decode b_F_fewestToBreak 45 = .ok (.invokestatic 121, 3) := by decide +kernel
theorem d_F_fewestToBreak_48 : decode b_F_fewestToBreak 48 = .ok (.istore_n 3, 1) := by decide +kernel
theorem d_F_fewestToBreak_49 : decode b_F_fewestToBreak 49 = .ok (.iinc 4 1, 3) := by decide +kernel
theorem d_F_fewestToBreak_52 : decode b_F_fewestToBreak 52 = .ok (.goto (-39), 3) := by decide +kernel
theorem d_F_fewestToBreak_55 : decode b_F_fewestToBreak 55 = .ok (.lconst 0, 1) := by decide +kernel
theorem d_F_fewestToBreak_56 : decode b_F_fewestToBreak 56 = .ok (.lstore 4, 2) := by decide +kernel
theorem d_F_fewestToBreak_58 : decode b_F_fewestToBreak 58 = .ok (.iconst 0, 1) := by decide +kernel
theorem d_F_fewestToBreak_59 : decode b_F_fewestToBreak 59 = .ok (.istore 6, 2) := by decide +kernel
theorem d_F_fewestToBreak_61 : decode b_F_fewestToBreak 61 = .ok (.iload 6, 2) := by decide +kernel
theorem d_F_fewestToBreak_63 : decode b_F_fewestToBreak 63 = .ok (.iload_n 1, 1) := by decide +kernel
theorem d_F_fewestToBreak_64 : decode b_F_fewestToBreak 64 = .ok (.if_icmp .ge 37, 3) := by decide +kernel
theorem d_F_fewestToBreak_67 : decode b_F_fewestToBreak 67 = .ok (.lload 4, 2) := by decide +kernel
theorem d_F_fewestToBreak_69 : decode b_F_fewestToBreak 69 = .ok (.iload_n 2, 1) := by decide +kernel
theorem d_F_fewestToBreak_70 : decode b_F_fewestToBreak 70 = .ok (.iload 6, 2) := by decide +kernel
theorem d_F_fewestToBreak_72 : decode b_F_fewestToBreak 72 = .ok (.ishr, 1) := by decide +kernel
theorem d_F_fewestToBreak_73 : decode b_F_fewestToBreak 73 = .ok (.iconst 1, 1) := by decide +kernel
theorem d_F_fewestToBreak_74 : decode b_F_fewestToBreak 74 = .ok (.iand, 1) := by decide +kernel
theorem d_F_fewestToBreak_75 : decode b_F_fewestToBreak 75 = .ok (.iconst 1, 1) := by decide +kernel
theorem d_F_fewestToBreak_76 : decode b_F_fewestToBreak 76 = .ok (.if_icmp .ne 15, 3) := by decide +kernel
theorem d_F_fewestToBreak_79 : decode b_F_fewestToBreak 79 = .ok (.lconst 1, 1) := by decide +kernel
theorem d_F_fewestToBreak_80 : decode b_F_fewestToBreak 80 = .ok (.aload_n 0, 1) := by decide +kernel
theorem d_F_fewestToBreak_81 : decode b_F_fewestToBreak 81 = .ok (.getfield 26, 3) := by decide +kernel
theorem d_F_fewestToBreak_84 : decode b_F_fewestToBreak 84 = .ok (.iload 6, 2) := by decide +kernel
theorem d_F_fewestToBreak_86 : decode b_F_fewestToBreak 86 = .ok (.iaload, 1) := by decide +kernel
theorem d_F_fewestToBreak_87 : decode b_F_fewestToBreak 87 = .ok (.lshl, 1) := by decide +kernel
theorem d_F_fewestToBreak_88 : decode b_F_fewestToBreak 88 = .ok (.goto 4, 3) := by decide +kernel
theorem d_F_fewestToBreak_91 : decode b_F_fewestToBreak 91 = .ok (.lconst 0, 1) := by decide +kernel
theorem d_F_fewestToBreak_92 : decode b_F_fewestToBreak 92 = .ok (.lor, 1) := by decide +kernel
theorem d_F_fewestToBreak_93 : decode b_F_fewestToBreak 93 = .ok (.lstore 4, 2) := by decide +kernel
theorem d_F_fewestToBreak_95 : decode b_F_fewestToBreak 95 = .ok (.iinc 6 1, 3) := by decide +kernel
theorem d_F_fewestToBreak_98 : decode b_F_fewestToBreak 98 = .ok (.goto (-37), 3) := by decide +kernel
theorem d_F_fewestToBreak_101 : decode b_F_fewestToBreak 101 = .ok (.lload 4, 2) := by decide +kernel
theorem d_F_fewestToBreak_103 : decode b_F_fewestToBreak 103 = .ok (.lreturn, 1) := by decide +kernel
abbrev b_W_breaks : ByteArray := prog_1_method_30_code
abbrev y_W_breaks : MethodName := ⟨"WhoRules", "breaks", "()J"⟩
theorem d_W_breaks_0 : decode b_W_breaks 0 = .ok (.aload_n 0, 1) := by decide +kernel
theorem d_W_breaks_1 : decode b_W_breaks 1 = .ok (.getfield 52, 3) := by decide +kernel
theorem d_W_breaks_4 : decode b_W_breaks 4 = .ok (.invokevirtual 287, 3) := by decide +kernel
theorem d_W_breaks_7 : decode b_W_breaks 7 = .ok (.lreturn, 1) := by decide +kernel
abbrev b_W_trace : ByteArray := prog_1_method_32_code
abbrev y_W_trace : MethodName := ⟨"WhoRules", "trace", "(I)I"⟩
theorem d_W_trace_0 : decode b_W_trace 0 = .ok (.iload_n 1, 1) := by decide +kernel
theorem d_W_trace_1 : decode b_W_trace 1 = .ok (.ifCond .lt 29, 3) := by decide +kernel
theorem d_W_trace_4 : decode b_W_trace 4 = .ok (.iload_n 1, 1) := by decide +kernel
theorem d_W_trace_5 : decode b_W_trace 5 = .ok (.bipush 20, 2) := by decide +kernel
theorem d_W_trace_7 : decode b_W_trace 7 = .ok (.if_icmp .ge 23, 3) := by decide +kernel
theorem d_W_trace_10 : decode b_W_trace 10 = .ok (.iload_n 1, 1) := by decide +kernel
theorem d_W_trace_11 : decode b_W_trace 11 = .ok (.aload_n 0, 1) := by decide +kernel
theorem d_W_trace_12 : decode b_W_trace 12 = .ok (.getfield 11, 3) := by decide +kernel
theorem d_W_trace_15 : decode b_W_trace 15 = .ok (.bipush 20, 2) := by decide +kernel
theorem d_W_trace_17 : decode b_W_trace 17 = .ok (.iaload, 1) := by decide +kernel
theorem d_W_trace_18 : decode b_W_trace 18 = .ok (.if_icmp .ge 12, 3) := by decide +kernel
theorem d_W_trace_21 : decode b_W_trace 21 = .ok (.aload_n 0, 1) := by decide +kernel
theorem d_W_trace_22 : decode b_W_trace 22 = .ok (.getfield 11, 3) := by decide +kernel
theorem d_W_trace_25 : decode b_W_trace 25 = .ok (.iload_n 1, 1) := by decide +kernel
theorem d_W_trace_26 : decode b_W_trace 26 = .ok (.iaload, 1) := by decide +kernel
theorem d_W_trace_27 : decode b_W_trace 27 = .ok (.goto 4, 3) := by decide +kernel
theorem d_W_trace_30 : decode b_W_trace 30 = .ok (.iconst (-1), 1) := by decide +kernel
theorem d_W_trace_31 : decode b_W_trace 31 = .ok (.ireturn, 1) := by decide +kernel
abbrev b_W_count : ByteArray := prog_1_method_34_code
abbrev y_W_count : MethodName := ⟨"WhoRules", "count", "(I)I"⟩
theorem d_W_count_0 : decode b_W_count 0 = .ok (.iload_n 1, 1) := by decide +kernel
theorem d_W_count_1 : decode b_W_count 1 = .ok (.tableswitch 132 0 9 #[55, 63, 71, 79, 87, 95, 103, 111, 116, 124], 55) := by decide +kernel
theorem d_W_count_56 : decode b_W_count 56 = .ok (.aload_n 0, 1) := by decide +kernel
theorem d_W_count_57 : decode b_W_count 57 = .ok (.getfield 18, 3) := by decide +kernel
theorem d_W_count_60 : decode b_W_count 60 = .ok (.getfield 79, 3) := by decide +kernel
theorem d_W_count_63 : decode b_W_count 63 = .ok (.ireturn, 1) := by decide +kernel
theorem d_W_count_64 : decode b_W_count 64 = .ok (.aload_n 0, 1) := by decide +kernel
theorem d_W_count_65 : decode b_W_count 65 = .ok (.getfield 18, 3) := by decide +kernel
theorem d_W_count_68 : decode b_W_count 68 = .ok (.getfield 267, 3) := by decide +kernel
theorem d_W_count_71 : decode b_W_count 71 = .ok (.ireturn, 1) := by decide +kernel
theorem d_W_count_72 : decode b_W_count 72 = .ok (.aload_n 0, 1) := by decide +kernel
theorem d_W_count_73 : decode b_W_count 73 = .ok (.getfield 18, 3) := by decide +kernel
theorem d_W_count_76 : decode b_W_count 76 = .ok (.getfield 199, 3) := by decide +kernel
theorem d_W_count_79 : decode b_W_count 79 = .ok (.ireturn, 1) := by decide +kernel
theorem d_W_count_80 : decode b_W_count 80 = .ok (.aload_n 0, 1) := by decide +kernel
theorem d_W_count_81 : decode b_W_count 81 = .ok (.getfield 18, 3) := by decide +kernel
theorem d_W_count_84 : decode b_W_count 84 = .ok (.getfield 312, 3) := by decide +kernel
theorem d_W_count_87 : decode b_W_count 87 = .ok (.ireturn, 1) := by decide +kernel
theorem d_W_count_88 : decode b_W_count 88 = .ok (.aload_n 0, 1) := by decide +kernel
theorem d_W_count_89 : decode b_W_count 89 = .ok (.getfield 18, 3) := by decide +kernel
theorem d_W_count_92 : decode b_W_count 92 = .ok (.invokevirtual 115, 3) := by decide +kernel
theorem d_W_count_95 : decode b_W_count 95 = .ok (.ireturn, 1) := by decide +kernel
theorem d_W_count_96 : decode b_W_count 96 = .ok (.aload_n 0, 1) := by decide +kernel
theorem d_W_count_97 : decode b_W_count 97 = .ok (.getfield 25, 3) := by decide +kernel
theorem d_W_count_100 : decode b_W_count 100 = .ok (.getfield 145, 3) := by decide +kernel
theorem d_W_count_103 : decode b_W_count 103 = .ok (.ireturn, 1) := by decide +kernel
theorem d_W_count_104 : decode b_W_count 104 = .ok (.aload_n 0, 1) := by decide +kernel
theorem d_W_count_105 : decode b_W_count 105 = .ok (.getfield 25, 3) := by decide +kernel
theorem d_W_count_108 : decode b_W_count 108 = .ok (.getfield 138, 3) := by decide +kernel
theorem d_W_count_111 : decode b_W_count 111 = .ok (.ireturn, 1) := by decide +kernel
theorem d_W_count_112 : decode b_W_count 112 = .ok (.aload_n 0, 1) := by decide +kernel
theorem d_W_count_113 : decode b_W_count 113 = .ok (.getfield 258, 3) := by decide +kernel
theorem d_W_count_116 : decode b_W_count 116 = .ok (.ireturn, 1) := by decide +kernel
theorem d_W_count_117 : decode b_W_count 117 = .ok (.aload_n 0, 1) := by decide +kernel
theorem d_W_count_118 : decode b_W_count 118 = .ok (.getfield 18, 3) := by decide +kernel
theorem d_W_count_121 : decode b_W_count 121 = .ok (.getfield 202, 3) := by decide +kernel
theorem d_W_count_124 : decode b_W_count 124 = .ok (.ireturn, 1) := by decide +kernel
theorem d_W_count_125 : decode b_W_count 125 = .ok (.aload_n 0, 1) := by decide +kernel
theorem d_W_count_126 : decode b_W_count 126 = .ok (.getfield 11, 3) := by decide +kernel
theorem d_W_count_129 : decode b_W_count 129 = .ok (.bipush 20, 2) := by decide +kernel
theorem d_W_count_131 : decode b_W_count 131 = .ok (.iaload, 1) := by decide +kernel
theorem d_W_count_132 : decode b_W_count 132 = .ok (.ireturn, 1) := by decide +kernel
theorem d_W_count_133 : decode b_W_count 133 = .ok (.bipush (-2), 2) := by decide +kernel
theorem d_W_count_135 : decode b_W_count 135 = .ok (.ireturn, 1) := by decide +kernel
abbrev b_W_tape : ByteArray := prog_1_method_35_code
abbrev y_W_tape : MethodName := ⟨"WhoRules", "tape", "(III)I"⟩
theorem d_W_tape_0 : decode b_W_tape 0 = .ok (.iload_n 1, 1) := by decide +kernel
theorem d_W_tape_1 : decode b_W_tape 1 = .ok (.invokestatic 208, 3) := by decide +kernel
theorem d_W_tape_4 : decode b_W_tape 4 = .ok (.ifCond .ne 5, 3) := by decide +kernel
theorem d_W_tape_7 : decode b_W_tape 7 = .ok (.iconst (-1), 1) := by decide +kernel
theorem d_W_tape_8 : decode b_W_tape 8 = .ok (.ireturn, 1) := by decide +kernel
theorem d_W_tape_9 : decode b_W_tape 9 = .ok (.iload_n 2, 1) := by decide +kernel
theorem d_W_tape_10 : decode b_W_tape 10 = .ok (.iconst (-1), 1) := by decide +kernel
theorem d_W_tape_11 : decode b_W_tape 11 = .ok (.if_icmp .lt 19, 3) := by decide +kernel
theorem d_W_tape_14 : decode b_W_tape 14 = .ok (.iload_n 2, 1) := by decide +kernel
theorem d_W_tape_15 : decode b_W_tape 15 = .ok (.iconst 4, 1) := by decide +kernel
theorem d_W_tape_16 : decode b_W_tape 16 = .ok (.if_icmp .gt 14, 3) := by decide +kernel
theorem d_W_tape_19 : decode b_W_tape 19 = .ok (.iload_n 2, 1) := by decide +kernel
theorem d_W_tape_20 : decode b_W_tape 20 = .ok (.iconst (-1), 1) := by decide +kernel
theorem d_W_tape_21 : decode b_W_tape 21 = .ok (.if_icmp .eq 12, 3) := by decide +kernel
theorem d_W_tape_24 : decode b_W_tape 24 = .ok (.iload_n 3, 1) := by decide +kernel
theorem d_W_tape_25 : decode b_W_tape 25 = .ok (.bipush 60, 2) := by decide +kernel
theorem d_W_tape_27 : decode b_W_tape 27 = .ok (.if_icmp .le 6, 3) := by decide +kernel
theorem d_W_tape_30 : decode b_W_tape 30 = .ok (.bipush (-2), 2) := by decide +kernel
theorem d_W_tape_32 : decode b_W_tape 32 = .ok (.ireturn, 1) := by decide +kernel
theorem d_W_tape_33 : decode b_W_tape 33 = .ok (.iload_n 2, 1) := by decide +kernel
theorem d_W_tape_34 : decode b_W_tape 34 = .ok (.iconst (-1), 1) := by decide +kernel
theorem d_W_tape_35 : decode b_W_tape 35 = .ok (.if_icmp .eq 10, 3) := by decide +kernel
theorem d_W_tape_38 : decode b_W_tape 38 = .ok (.iload_n 3, 1) := by decide +kernel
theorem d_W_tape_39 : decode b_W_tape 39 = .ok (.ifCond .ge 6, 3) := by decide +kernel
theorem d_W_tape_42 : decode b_W_tape 42 = .ok (.bipush (-14), 2) := by decide +kernel
theorem d_W_tape_44 : decode b_W_tape 44 = .ok (.ireturn, 1) := by decide +kernel
theorem d_W_tape_45 : decode b_W_tape 45 = .ok (.aload_n 0, 1) := by decide +kernel
theorem d_W_tape_46 : decode b_W_tape 46 = .ok (.getfield 62, 3) := by decide +kernel
theorem d_W_tape_49 : decode b_W_tape 49 = .ok (.iload_n 1, 1) := by decide +kernel
theorem d_W_tape_50 : decode b_W_tape 50 = .ok (.iload_n 2, 1) := by decide +kernel
theorem d_W_tape_51 : decode b_W_tape 51 = .ok (.iastore, 1) := by decide +kernel
theorem d_W_tape_52 : decode b_W_tape 52 = .ok (.aload_n 0, 1) := by decide +kernel
theorem d_W_tape_53 : decode b_W_tape 53 = .ok (.getfield 65, 3) := by decide +kernel
theorem d_W_tape_56 : decode b_W_tape 56 = .ok (.iload_n 1, 1) := by decide +kernel
theorem d_W_tape_57 : decode b_W_tape 57 = .ok (.iload_n 2, 1) := by decide +kernel
theorem d_W_tape_58 : decode b_W_tape 58 = .ok (.iconst (-1), 1) := by decide +kernel
theorem d_W_tape_59 : decode b_W_tape 59 = .ok (.if_icmp .ne 7, 3) := by decide +kernel
theorem d_W_tape_62 : decode b_W_tape 62 = .ok (.iconst 0, 1) := by decide +kernel
theorem d_W_tape_63 : decode b_W_tape 63 = .ok (.goto 4, 3) := by decide +kernel
theorem d_W_tape_66 : decode b_W_tape 66 = .ok (.iload_n 3, 1) := by decide +kernel
theorem d_W_tape_67 : decode b_W_tape 67 = .ok (.iastore, 1) := by decide +kernel
theorem d_W_tape_68 : decode b_W_tape 68 = .ok (.aload_n 0, 1) := by decide +kernel
theorem d_W_tape_69 : decode b_W_tape 69 = .ok (.getfield 70, 3) := by decide +kernel
theorem d_W_tape_72 : decode b_W_tape 72 = .ok (.iload_n 1, 1) := by decide +kernel
theorem d_W_tape_73 : decode b_W_tape 73 = .ok (.aaload, 1) := by decide +kernel
theorem d_W_tape_74 : decode b_W_tape 74 = .ok (.lconst 0, 1) := by decide +kernel
theorem d_W_tape_75 : decode b_W_tape 75 = .ok (.invokestatic 315, 3) := by decide +kernel
theorem d_W_tape_78 : decode b_W_tape 78 = .ok (.iconst 1, 1) := by decide +kernel
theorem d_W_tape_79 : decode b_W_tape 79 = .ok (.ireturn, 1) := by decide +kernel
abbrev b_W_cut : ByteArray := prog_1_method_43_code
abbrev y_W_cut : MethodName := ⟨"WhoRules", "cut", "(JI)J"⟩
theorem d_W_cut_0 : decode b_W_cut 0 = .ok (.iload_n 2, 1) := by decide +kernel
theorem d_W_cut_1 : decode b_W_cut 1 = .ok (.tableswitch 47 0 3 #[31, 36, 41, 45], 31) := by decide +kernel
theorem d_W_cut_32 : decode b_W_cut 32 = .ok (.lload_n 0, 1) := by decide +kernel
theorem d_W_cut_33 : decode b_W_cut 33 = .ok (.l2i, 1) := by decide +kernel
theorem d_W_cut_34 : decode b_W_cut 34 = .ok (.i2b, 1) := by decide +kernel
theorem d_W_cut_35 : decode b_W_cut 35 = .ok (.i2l, 1) := by decide +kernel
theorem d_W_cut_36 : decode b_W_cut 36 = .ok (.lreturn, 1) := by decide +kernel
theorem d_W_cut_37 : decode b_W_cut 37 = .ok (.lload_n 0, 1) := by decide +kernel
theorem d_W_cut_38 : decode b_W_cut 38 = .ok (.l2i, 1) := by decide +kernel
theorem d_W_cut_39 : decode b_W_cut 39 = .ok (.i2s, 1) := by decide +kernel
theorem d_W_cut_40 : decode b_W_cut 40 = .ok (.i2l, 1) := by decide +kernel
theorem d_W_cut_41 : decode b_W_cut 41 = .ok (.lreturn, 1) := by decide +kernel
theorem d_W_cut_42 : decode b_W_cut 42 = .ok (.lload_n 0, 1) := by decide +kernel
theorem d_W_cut_43 : decode b_W_cut 43 = .ok (.l2i, 1) := by decide +kernel
theorem d_W_cut_44 : decode b_W_cut 44 = .ok (.i2l, 1) := by decide +kernel
theorem d_W_cut_45 : decode b_W_cut 45 = .ok (.lreturn, 1) := by decide +kernel
theorem d_W_cut_46 : decode b_W_cut 46 = .ok (.lload_n 0, 1) := by decide +kernel
theorem d_W_cut_47 : decode b_W_cut 47 = .ok (.lreturn, 1) := by decide +kernel
theorem d_W_cut_48 : decode b_W_cut 48 = .ok (.lload_n 0, 1) := by decide +kernel
theorem d_W_cut_49 : decode b_W_cut 49 = .ok (.lconst 0, 1) := by decide +kernel
theorem d_W_cut_50 : decode b_W_cut 50 = .ok (.lcmp, 1) := by decide +kernel
theorem d_W_cut_51 : decode b_W_cut 51 = .ok (.ifCond .eq 7, 3) := by decide +kernel
theorem d_W_cut_54 : decode b_W_cut 54 = .ok (.lconst 1, 1) := by decide +kernel
theorem d_W_cut_55 : decode b_W_cut 55 = .ok (.goto 4, 3) := by decide +kernel
theorem d_W_cut_58 : decode b_W_cut 58 = .ok (.lconst 0, 1) := by decide +kernel
theorem d_W_cut_59 : decode b_W_cut 59 = .ok (.lreturn, 1) := by decide +kernel
abbrev b_W_item : ByteArray := prog_1_method_36_code
abbrev y_W_item : MethodName := ⟨"WhoRules", "item", "(IIJ)I"⟩
theorem d_W_item_0 : decode b_W_item 0 = .ok (.iload_n 1, 1) := by decide +kernel
theorem d_W_item_1 : decode b_W_item 1 = .ok (.invokestatic 208, 3) := by decide +kernel
theorem d_W_item_4 : decode b_W_item 4 = .ok (.ifCond .ne 5, 3) := by decide +kernel
theorem d_W_item_7 : decode b_W_item 7 = .ok (.iconst (-1), 1) := by decide +kernel
theorem d_W_item_8 : decode b_W_item 8 = .ok (.ireturn, 1) := by decide +kernel
theorem d_W_item_9 : decode b_W_item 9 = .ok (.aload_n 0, 1) := by decide +kernel
theorem d_W_item_10 : decode b_W_item 10 = .ok (.getfield 62, 3) := by decide +kernel
theorem d_W_item_13 : decode b_W_item 13 = .ok (.iload_n 1, 1) := by decide +kernel
theorem d_W_item_14 : decode b_W_item 14 = .ok (.iaload, 1) := by decide +kernel
theorem d_W_item_15 : decode b_W_item 15 = .ok (.iconst (-1), 1) := by decide +kernel
theorem d_W_item_16 : decode b_W_item 16 = .ok (.if_icmp .ne 6, 3) := by decide +kernel
theorem d_W_item_19 : decode b_W_item 19 = .ok (.bipush (-11), 2) := by decide +kernel
theorem d_W_item_21 : decode b_W_item 21 = .ok (.ireturn, 1) := by decide +kernel
theorem d_W_item_22 : decode b_W_item 22 = .ok (.aload_n 0, 1) := by decide +kernel
theorem d_W_item_23 : decode b_W_item 23 = .ok (.iload_n 1, 1) := by decide +kernel
theorem d_W_item_24 : decode b_W_item 24 = .ok (.iload_n 2, 1) := by decide +kernel
theorem d_W_item_25 : decode b_W_item 25 = .ok (.iconst 1, 1) := by decide +kernel
theorem d_W_item_26 : decode b_W_item 26 = .ok (.invokevirtual 214, 3) := by decide +kernel
theorem d_W_item_29 : decode b_W_item 29 = .ok (.ifCond .ne 6, 3) := by decide +kernel
theorem d_W_item_32 : decode b_W_item 32 = .ok (.bipush (-13), 2) := by decide +kernel
theorem d_W_item_34 : decode b_W_item 34 = .ok (.ireturn, 1) := by decide +kernel
theorem d_W_item_35 : decode b_W_item 35 = .ok (.aload_n 0, 1) := by decide +kernel
theorem d_W_item_36 : decode b_W_item 36 = .ok (.getfield 70, 3) := by decide +kernel
theorem d_W_item_39 : decode b_W_item 39 = .ok (.iload_n 1, 1) := by decide +kernel
theorem d_W_item_40 : decode b_W_item 40 = .ok (.aaload, 1) := by decide +kernel
theorem d_W_item_41 : decode b_W_item 41 = .ok (.iload_n 2, 1) := by decide +kernel
theorem d_W_item_42 : decode b_W_item 42 = .ok (.lload_n 3, 1) := by decide +kernel
theorem d_W_item_43 : decode b_W_item 43 = .ok (.aload_n 0, 1) := by decide +kernel
theorem d_W_item_44 : decode b_W_item 44 = .ok (.getfield 62, 3) := by decide +kernel
theorem d_W_item_47 : decode b_W_item 47 = .ok (.iload_n 1, 1) := by decide +kernel
theorem d_W_item_48 : decode b_W_item 48 = .ok (.iaload, 1) := by decide +kernel
theorem d_W_item_49 : decode b_W_item 49 = .ok (.invokestatic 318, 3) := by decide +kernel
theorem d_W_item_52 : decode b_W_item 52 = .ok (.lastore, 1) := by decide +kernel
theorem d_W_item_53 : decode b_W_item 53 = .ok (.iconst 1, 1) := by decide +kernel
theorem d_W_item_54 : decode b_W_item 54 = .ok (.ireturn, 1) := by decide +kernel
abbrev b_W_read : ByteArray := prog_1_method_37_code
abbrev y_W_read : MethodName := ⟨"WhoRules", "read", "(II)J"⟩
theorem d_W_read_0 : decode b_W_read 0 = .ok (.iload_n 1, 1) := by decide +kernel
theorem d_W_read_1 : decode b_W_read 1 = .ok (.invokestatic 208, 3) := by decide +kernel
theorem d_W_read_4 : decode b_W_read 4 = .ok (.ifCond .eq 24, 3) := by decide +kernel
theorem d_W_read_7 : decode b_W_read 7 = .ok (.aload_n 0, 1) := by decide +kernel
theorem d_W_read_8 : decode b_W_read 8 = .ok (.iload_n 1, 1) := by decide +kernel
theorem d_W_read_9 : decode b_W_read 9 = .ok (.iload_n 2, 1) := by decide +kernel
theorem d_W_read_10 : decode b_W_read 10 = .ok (.iconst 1, 1) := by decide +kernel
theorem d_W_read_11 : decode b_W_read 11 = .ok (.invokevirtual 214, 3) := by decide +kernel
theorem d_W_read_14 : decode b_W_read 14 = .ok (.ifCond .eq 14, 3) := by decide +kernel
theorem d_W_read_17 : decode b_W_read 17 = .ok (.aload_n 0, 1) := by decide +kernel
theorem d_W_read_18 : decode b_W_read 18 = .ok (.getfield 70, 3) := by decide +kernel
theorem d_W_read_21 : decode b_W_read 21 = .ok (.iload_n 1, 1) := by decide +kernel
theorem d_W_read_22 : decode b_W_read 22 = .ok (.aaload, 1) := by decide +kernel
theorem d_W_read_23 : decode b_W_read 23 = .ok (.iload_n 2, 1) := by decide +kernel
theorem d_W_read_24 : decode b_W_read 24 = .ok (.laload, 1) := by decide +kernel
theorem d_W_read_25 : decode b_W_read 25 = .ok (.goto 6, 3) := by decide +kernel
theorem d_W_read_28 : decode b_W_read 28 = .ok (.ldc2_w 218, 3) := by decide +kernel
theorem d_W_read_31 : decode b_W_read 31 = .ok (.lreturn, 1) := by decide +kernel
abbrev b_W_shift : ByteArray := prog_1_method_38_code
abbrev y_W_shift : MethodName := ⟨"WhoRules", "shift", "(IIIII)I"⟩
theorem d_W_shift_0 : decode b_W_shift 0 = .ok (.iload_n 1, 1) := by decide +kernel
theorem d_W_shift_1 : decode b_W_shift 1 = .ok (.invokestatic 208, 3) := by decide +kernel
theorem d_W_shift_4 : decode b_W_shift 4 = .ok (.ifCond .eq 10, 3) := by decide +kernel
theorem d_W_shift_7 : decode b_W_shift 7 = .ok (.iload_n 3, 1) := by decide +kernel
theorem d_W_shift_8 : decode b_W_shift 8 = .ok (.invokestatic 208, 3) := by decide +kernel
theorem d_W_shift_11 : decode b_W_shift 11 = .ok (.ifCond .ne 5, 3) := by decide +kernel
theorem d_W_shift_14 : decode b_W_shift 14 = .ok (.iconst (-1), 1) := by decide +kernel
theorem d_W_shift_15 : decode b_W_shift 15 = .ok (.ireturn, 1) := by decide +kernel
theorem d_W_shift_16 : decode b_W_shift 16 = .ok (.aload_n 0, 1) := by decide +kernel
theorem d_W_shift_17 : decode b_W_shift 17 = .ok (.getfield 62, 3) := by decide +kernel
theorem d_W_shift_20 : decode b_W_shift 20 = .ok (.iload_n 1, 1) := by decide +kernel
theorem d_W_shift_21 : decode b_W_shift 21 = .ok (.iaload, 1) := by decide +kernel
theorem d_W_shift_22 : decode b_W_shift 22 = .ok (.iconst (-1), 1) := by decide +kernel
theorem d_W_shift_23 : decode b_W_shift 23 = .ok (.if_icmp .eq 13, 3) := by decide +kernel
theorem d_W_shift_26 : decode b_W_shift 26 = .ok (.aload_n 0, 1) := by decide +kernel
theorem d_W_shift_27 : decode b_W_shift 27 = .ok (.getfield 62, 3) := by decide +kernel
theorem d_W_shift_30 : decode b_W_shift 30 = .ok (.iload_n 3, 1) := by decide +kernel
theorem d_W_shift_31 : decode b_W_shift 31 = .ok (.iaload, 1) := by decide +kernel
theorem d_W_shift_32 : decode b_W_shift 32 = .ok (.iconst (-1), 1) := by decide +kernel
theorem d_W_shift_33 : decode b_W_shift 33 = .ok (.if_icmp .ne 6, 3) := by decide +kernel
theorem d_W_shift_36 : decode b_W_shift 36 = .ok (.bipush (-11), 2) := by decide +kernel
theorem d_W_shift_38 : decode b_W_shift 38 = .ok (.ireturn, 1) := by decide +kernel
theorem d_W_shift_39 : decode b_W_shift 39 = .ok (.aload_n 0, 1) := by decide +kernel
theorem d_W_shift_40 : decode b_W_shift 40 = .ok (.getfield 62, 3) := by decide +kernel
theorem d_W_shift_43 : decode b_W_shift 43 = .ok (.iload_n 1, 1) := by decide +kernel
theorem d_W_shift_44 : decode b_W_shift 44 = .ok (.iaload, 1) := by decide +kernel
theorem d_W_shift_45 : decode b_W_shift 45 = .ok (.aload_n 0, 1) := by decide +kernel
theorem d_W_shift_46 : decode b_W_shift 46 = .ok (.getfield 62, 3) := by decide +kernel
theorem d_W_shift_49 : decode b_W_shift 49 = .ok (.iload_n 3, 1) := by decide +kernel
theorem d_W_shift_50 : decode b_W_shift 50 = .ok (.iaload, 1) := by decide +kernel
theorem d_W_shift_51 : decode b_W_shift 51 = .ok (.if_icmp .eq 6, 3) := by decide +kernel
theorem d_W_shift_54 : decode b_W_shift 54 = .ok (.bipush (-12), 2) := by decide +kernel
theorem d_W_shift_56 : decode b_W_shift 56 = .ok (.ireturn, 1) := by decide +kernel
theorem d_W_shift_57 : decode b_W_shift 57 = .ok (.aload_n 0, 1) := by decide +kernel
theorem d_W_shift_58 : decode b_W_shift 58 = .ok (.iload_n 1, 1) := by decide +kernel
theorem d_W_shift_59 : decode b_W_shift 59 = .ok (.iload_n 2, 1) := by decide +kernel
theorem d_W_shift_60 : decode b_W_shift 60 = .ok (.iload 5, 2) := by decide +kernel
theorem d_W_shift_62 : decode b_W_shift 62 = .ok (.invokevirtual 214, 3) := by decide +kernel
theorem d_W_shift_65 : decode b_W_shift 65 = .ok (.ifCond .eq 15, 3) := by decide +kernel
theorem d_W_shift_68 : decode b_W_shift 68 = .ok (.aload_n 0, 1) := by decide +kernel
theorem d_W_shift_69 : decode b_W_shift 69 = .ok (.iload_n 3, 1) := by decide +kernel
theorem d_W_shift_70 : decode b_W_shift 70 = .ok (.iload 4, 2) := by decide +kernel
theorem d_W_shift_72 : decode b_W_shift 72 = .ok (.iload 5, 2) := by decide +kernel
theorem d_W_shift_74 : decode b_W_shift 74 = .ok (.invokevirtual 214, 3) := by decide +kernel
theorem d_W_shift_77 : decode b_W_shift 77 = .ok (.ifCond .ne 6, 3) := by decide +kernel
theorem d_W_shift_80 : decode b_W_shift 80 = .ok (.bipush (-13), 2) := by decide +kernel
theorem d_W_shift_82 : decode b_W_shift 82 = .ok (.ireturn, 1) := by decide +kernel
theorem d_W_shift_83 : decode b_W_shift 83 = .ok (.aload_n 0, 1) := by decide +kernel
theorem d_W_shift_84 : decode b_W_shift 84 = .ok (.getfield 70, 3) := by decide +kernel
theorem d_W_shift_87 : decode b_W_shift 87 = .ok (.iload_n 1, 1) := by decide +kernel
theorem d_W_shift_88 : decode b_W_shift 88 = .ok (.aaload, 1) := by decide +kernel
theorem d_W_shift_89 : decode b_W_shift 89 = .ok (.iload_n 2, 1) := by decide +kernel
theorem d_W_shift_90 : decode b_W_shift 90 = .ok (.aload_n 0, 1) := by decide +kernel
theorem d_W_shift_91 : decode b_W_shift 91 = .ok (.getfield 70, 3) := by decide +kernel
theorem d_W_shift_94 : decode b_W_shift 94 = .ok (.iload_n 3, 1) := by decide +kernel
theorem d_W_shift_95 : decode b_W_shift 95 = .ok (.aaload, 1) := by decide +kernel
theorem d_W_shift_96 : decode b_W_shift 96 = .ok (.iload 4, 2) := by decide +kernel
theorem d_W_shift_98 : decode b_W_shift 98 = .ok (.iload 5, 2) := by decide +kernel
theorem d_W_shift_100 : decode b_W_shift 100 = .ok (.invokestatic 322, 3) := by decide +kernel
theorem d_W_shift_103 : decode b_W_shift 103 = .ok (.iload 5, 2) := by decide +kernel
theorem d_W_shift_105 : decode b_W_shift 105 = .ok (.ireturn, 1) := by decide +kernel
