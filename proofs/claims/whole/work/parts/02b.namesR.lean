/-! Written by wip/whole/gen. Names, and what each instruction is. -/
abbrev b_m_in : ByteArray := prog_14_method_2_code
abbrev y_m_in : MethodName := ⟨"WhoRulesModel", "in", "(III)Z"⟩
theorem d_m_in_0 : decode b_m_in 0 = .ok (.iload_n 1, 1) := by decide +kernel
theorem d_m_in_1 : decode b_m_in 1 = .ok (.iload_n 2, 1) := by decide +kernel
theorem d_m_in_2 : decode b_m_in 2 = .ok (.if_icmp .lt 12, 3) := by decide +kernel
theorem d_m_in_5 : decode b_m_in 5 = .ok (.iload_n 1, 1) := by decide +kernel
theorem d_m_in_6 : decode b_m_in 6 = .ok (.iload_n 3, 1) := by decide +kernel
theorem d_m_in_7 : decode b_m_in 7 = .ok (.if_icmp .gt 7, 3) := by decide +kernel
theorem d_m_in_10 : decode b_m_in 10 = .ok (.iconst 1, 1) := by decide +kernel
theorem d_m_in_11 : decode b_m_in 11 = .ok (.goto 4, 3) := by decide +kernel
theorem d_m_in_14 : decode b_m_in 14 = .ok (.iconst 0, 1) := by decide +kernel
theorem d_m_in_15 : decode b_m_in 15 = .ok (.ireturn, 1) := by decide +kernel
abbrev b_m_isDay : ByteArray := prog_14_method_3_code
abbrev y_m_isDay : MethodName := ⟨"WhoRulesModel", "isDay", "(I)Z"⟩
theorem d_m_isDay_0 : decode b_m_isDay 0 = .ok (.aload_n 0, 1) := by decide +kernel
theorem d_m_isDay_1 : decode b_m_isDay 1 = .ok (.iload_n 1, 1) := by decide +kernel
theorem d_m_isDay_2 : decode b_m_isDay 2 = .ok (.iconst 0, 1) := by decide +kernel
theorem d_m_isDay_3 : decode b_m_isDay 3 = .ok (.sipush 999, 3) := by decide +kernel
theorem d_m_isDay_6 : decode b_m_isDay 6 = .ok (.invokevirtual 246, 3) := by decide +kernel
theorem d_m_isDay_9 : decode b_m_isDay 9 = .ok (.ireturn, 1) := by decide +kernel
abbrev b_m_ones : ByteArray := prog_14_method_4_code
abbrev y_m_ones : MethodName := ⟨"WhoRulesModel", "ones", "(J)I"⟩
theorem d_m_ones_0 : decode b_m_ones 0 = .ok (.iconst 0, 1) := by decide +kernel
theorem d_m_ones_1 : decode b_m_ones 1 = .ok (.istore_n 3, 1) := by decide +kernel
theorem d_m_ones_2 : decode b_m_ones 2 = .ok (.lload_n 1, 1) := by decide +kernel
theorem d_m_ones_3 : decode b_m_ones 3 = .ok (.lstore 4, 2) := by decide +kernel
theorem d_m_ones_5 : decode b_m_ones 5 = .ok (.lload 4, 2) := by decide +kernel
theorem d_m_ones_7 : decode b_m_ones 7 = .ok (.lconst 0, 1) := by decide +kernel
theorem d_m_ones_8 : decode b_m_ones 8 = .ok (.lcmp, 1) := by decide +kernel
theorem d_m_ones_9 : decode b_m_ones 9 = .ok (.ifCond .eq 18, 3) := by decide +kernel
theorem d_m_ones_12 : decode b_m_ones 12 = .ok (.iinc 3 1, 3) := by decide +kernel
theorem d_m_ones_15 : decode b_m_ones 15 = .ok (.lload 4, 2) := by decide +kernel
theorem d_m_ones_17 : decode b_m_ones 17 = .ok (.lload 4, 2) := by decide +kernel
theorem d_m_ones_19 : decode b_m_ones 19 = .ok (.lconst 1, 1) := by decide +kernel
theorem d_m_ones_20 : decode b_m_ones 20 = .ok (.lsub, 1) := by decide +kernel
theorem d_m_ones_21 : decode b_m_ones 21 = .ok (.land, 1) := by decide +kernel
theorem d_m_ones_22 : decode b_m_ones 22 = .ok (.lstore 4, 2) := by decide +kernel
theorem d_m_ones_24 : decode b_m_ones 24 = .ok (.goto (-19), 3) := by decide +kernel
theorem d_m_ones_27 : decode b_m_ones 27 = .ok (.iload_n 3, 1) := by decide +kernel
theorem d_m_ones_28 : decode b_m_ones 28 = .ok (.ireturn, 1) := by decide +kernel
abbrev b_m_isHolder : ByteArray := prog_14_method_5_code
abbrev y_m_isHolder : MethodName := ⟨"WhoRulesModel", "isHolder", "(I)Z"⟩
theorem d_m_isHolder_0 : decode b_m_isHolder 0 = .ok (.aload_n 0, 1) := by decide +kernel
theorem d_m_isHolder_1 : decode b_m_isHolder 1 = .ok (.iload_n 1, 1) := by decide +kernel
theorem d_m_isHolder_2 : decode b_m_isHolder 2 = .ok (.iconst 0, 1) := by decide +kernel
theorem d_m_isHolder_3 : decode b_m_isHolder 3 = .ok (.aload_n 0, 1) := by decide +kernel
theorem d_m_isHolder_4 : decode b_m_isHolder 4 = .ok (.getfield 13, 3) := by decide +kernel
theorem d_m_isHolder_7 : decode b_m_isHolder 7 = .ok (.iconst 1, 1) := by decide +kernel
theorem d_m_isHolder_8 : decode b_m_isHolder 8 = .ok (.isub, 1) := by decide +kernel
theorem d_m_isHolder_9 : decode b_m_isHolder 9 = .ok (.invokevirtual 246, 3) := by decide +kernel
theorem d_m_isHolder_12 : decode b_m_isHolder 12 = .ok (.ireturn, 1) := by decide +kernel
abbrev b_m_isFirm : ByteArray := prog_14_method_6_code
abbrev y_m_isFirm : MethodName := ⟨"WhoRulesModel", "isFirm", "(I)Z"⟩
theorem d_m_isFirm_0 : decode b_m_isFirm 0 = .ok (.aload_n 0, 1) := by decide +kernel
theorem d_m_isFirm_1 : decode b_m_isFirm 1 = .ok (.iload_n 1, 1) := by decide +kernel
theorem d_m_isFirm_2 : decode b_m_isFirm 2 = .ok (.invokevirtual 250, 3) := by decide +kernel
theorem d_m_isFirm_5 : decode b_m_isFirm 5 = .ok (.ifCond .eq 17, 3) := by decide +kernel
theorem d_m_isFirm_8 : decode b_m_isFirm 8 = .ok (.aload_n 0, 1) := by decide +kernel
theorem d_m_isFirm_9 : decode b_m_isFirm 9 = .ok (.getfield 25, 3) := by decide +kernel
theorem d_m_isFirm_12 : decode b_m_isFirm 12 = .ok (.iload_n 1, 1) := by decide +kernel
theorem d_m_isFirm_13 : decode b_m_isFirm 13 = .ok (.iaload, 1) := by decide +kernel
theorem d_m_isFirm_14 : decode b_m_isFirm 14 = .ok (.iconst 1, 1) := by decide +kernel
theorem d_m_isFirm_15 : decode b_m_isFirm 15 = .ok (.if_icmp .ne 7, 3) := by decide +kernel
theorem d_m_isFirm_18 : decode b_m_isFirm 18 = .ok (.iconst 1, 1) := by decide +kernel
theorem d_m_isFirm_19 : decode b_m_isFirm 19 = .ok (.goto 4, 3) := by decide +kernel
theorem d_m_isFirm_22 : decode b_m_isFirm 22 = .ok (.iconst 0, 1) := by decide +kernel
theorem d_m_isFirm_23 : decode b_m_isFirm 23 = .ok (.ireturn, 1) := by decide +kernel
abbrev b_m_isShare : ByteArray := prog_14_method_7_code
abbrev y_m_isShare : MethodName := ⟨"WhoRulesModel", "isShare", "(I)Z"⟩
theorem d_m_isShare_0 : decode b_m_isShare 0 = .ok (.aload_n 0, 1) := by decide +kernel
theorem d_m_isShare_1 : decode b_m_isShare 1 = .ok (.iload_n 1, 1) := by decide +kernel
theorem d_m_isShare_2 : decode b_m_isShare 2 = .ok (.iconst 0, 1) := by decide +kernel
theorem d_m_isShare_3 : decode b_m_isShare 3 = .ok (.aload_n 0, 1) := by decide +kernel
theorem d_m_isShare_4 : decode b_m_isShare 4 = .ok (.getfield 19, 3) := by decide +kernel
theorem d_m_isShare_7 : decode b_m_isShare 7 = .ok (.iconst 1, 1) := by decide +kernel
theorem d_m_isShare_8 : decode b_m_isShare 8 = .ok (.isub, 1) := by decide +kernel
theorem d_m_isShare_9 : decode b_m_isShare 9 = .ok (.invokevirtual 246, 3) := by decide +kernel
theorem d_m_isShare_12 : decode b_m_isShare 12 = .ok (.ireturn, 1) := by decide +kernel
abbrev b_m_pass : ByteArray := prog_14_method_8_code
abbrev y_m_pass : MethodName := ⟨"WhoRulesModel", "pass", "(I)I"⟩
theorem d_m_pass_0 : decode b_m_pass 0 = .ok (.aload_n 0, 1) := by decide +kernel
theorem d_m_pass_1 : decode b_m_pass 1 = .ok (.iload_n 1, 1) := by decide +kernel
theorem d_m_pass_2 : decode b_m_pass 2 = .ok (.iconst 1, 1) := by decide +kernel
theorem d_m_pass_3 : decode b_m_pass 3 = .ok (.bipush 99, 2) := by decide +kernel
theorem d_m_pass_5 : decode b_m_pass 5 = .ok (.invokevirtual 246, 3) := by decide +kernel
theorem d_m_pass_8 : decode b_m_pass 8 = .ok (.ifCond .eq 15, 3) := by decide +kernel
theorem d_m_pass_11 : decode b_m_pass 11 = .ok (.aload_n 0, 1) := by decide +kernel
theorem d_m_pass_12 : decode b_m_pass 12 = .ok (.getfield 7, 3) := by decide +kernel
theorem d_m_pass_15 : decode b_m_pass 15 = .ok (.iload_n 1, 1) := by decide +kernel
theorem d_m_pass_16 : decode b_m_pass 16 = .ok (.iadd, 1) := by decide +kernel
theorem d_m_pass_17 : decode b_m_pass 17 = .ok (.sipush 999, 3) := by decide +kernel
theorem d_m_pass_20 : decode b_m_pass 20 = .ok (.if_icmp .le 6, 3) := by decide +kernel
theorem d_m_pass_23 : decode b_m_pass 23 = .ok (.bipush (-2), 2) := by decide +kernel
theorem d_m_pass_25 : decode b_m_pass 25 = .ok (.ireturn, 1) := by decide +kernel
theorem d_m_pass_26 : decode b_m_pass 26 = .ok (.aload_n 0, 1) := by decide +kernel
theorem d_m_pass_27 : decode b_m_pass 27 = .ok (.dup, 1) := by decide +kernel
theorem d_m_pass_28 : decode b_m_pass 28 = .ok (.getfield 7, 3) := by decide +kernel
theorem d_m_pass_31 : decode b_m_pass 31 = .ok (.iload_n 1, 1) := by decide +kernel
theorem d_m_pass_32 : decode b_m_pass 32 = .ok (.iadd, 1) := by decide +kernel
theorem d_m_pass_33 : decode b_m_pass 33 = .ok (.putfield 7, 3) := by decide +kernel
theorem d_m_pass_36 : decode b_m_pass 36 = .ok (.aload_n 0, 1) := by decide +kernel
theorem d_m_pass_37 : decode b_m_pass 37 = .ok (.getfield 7, 3) := by decide +kernel
theorem d_m_pass_40 : decode b_m_pass 40 = .ok (.ireturn, 1) := by decide +kernel
abbrev b_m_holder : ByteArray := prog_14_method_9_code
abbrev y_m_holder : MethodName := ⟨"WhoRulesModel", "holder", "(II)I"⟩
theorem d_m_holder_0 : decode b_m_holder 0 = .ok (.aload_n 0, 1) := by decide +kernel
theorem d_m_holder_1 : decode b_m_holder 1 = .ok (.iload_n 1, 1) := by decide +kernel
theorem d_m_holder_2 : decode b_m_holder 2 = .ok (.iconst 0, 1) := by decide +kernel
theorem d_m_holder_3 : decode b_m_holder 3 = .ok (.iconst 5, 1) := by decide +kernel
theorem d_m_holder_4 : decode b_m_holder 4 = .ok (.invokevirtual 246, 3) := by decide +kernel
theorem d_m_holder_7 : decode b_m_holder 7 = .ok (.ifCond .eq 18, 3) := by decide +kernel
theorem d_m_holder_10 : decode b_m_holder 10 = .ok (.iload_n 1, 1) := by decide +kernel
theorem d_m_holder_11 : decode b_m_holder 11 = .ok (.iconst 3, 1) := by decide +kernel
theorem d_m_holder_12 : decode b_m_holder 12 = .ok (.if_icmp .ne 15, 3) := by decide +kernel
theorem d_m_holder_15 : decode b_m_holder 15 = .ok (.aload_n 0, 1) := by decide +kernel
theorem d_m_holder_16 : decode b_m_holder 16 = .ok (.iload_n 2, 1) := by decide +kernel
theorem d_m_holder_17 : decode b_m_holder 17 = .ok (.iconst 0, 1) := by decide +kernel
theorem d_m_holder_18 : decode b_m_holder 18 = .ok (.iconst 3, 1) := by decide +kernel
theorem d_m_holder_19 : decode b_m_holder 19 = .ok (.invokevirtual 246, 3) := by decide +kernel
theorem d_m_holder_22 : decode b_m_holder 22 = .ok (.ifCond .ne 5, 3) := by decide +kernel
theorem d_m_holder_25 : decode b_m_holder 25 = .ok (.iconst (-1), 1) := by decide +kernel
theorem d_m_holder_26 : decode b_m_holder 26 = .ok (.ireturn, 1) := by decide +kernel
theorem d_m_holder_27 : decode b_m_holder 27 = .ok (.aload_n 0, 1) := by decide +kernel
theorem d_m_holder_28 : decode b_m_holder 28 = .ok (.getfield 13, 3) := by decide +kernel
theorem d_m_holder_31 : decode b_m_holder 31 = .ok (.bipush 16, 2) := by decide +kernel
theorem d_m_holder_33 : decode b_m_holder 33 = .ok (.if_icmp .eq 17, 3) := by decide +kernel
theorem d_m_holder_36 : decode b_m_holder 36 = .ok (.iload_n 1, 1) := by decide +kernel
theorem d_m_holder_37 : decode b_m_holder 37 = .ok (.iconst 1, 1) := by decide +kernel
theorem d_m_holder_38 : decode b_m_holder 38 = .ok (.if_icmp .ne 15, 3) := by decide +kernel
theorem d_m_holder_41 : decode b_m_holder 41 = .ok (.aload_n 0, 1) := by decide +kernel
theorem d_m_holder_42 : decode b_m_holder 42 = .ok (.getfield 16, 3) := by decide +kernel
theorem d_m_holder_45 : decode b_m_holder 45 = .ok (.bipush 7, 2) := by decide +kernel
theorem d_m_holder_47 : decode b_m_holder 47 = .ok (.if_icmp .ne 6, 3) := by decide +kernel
theorem d_m_holder_50 : decode b_m_holder 50 = .ok (.bipush (-4), 2) := by decide +kernel
theorem d_m_holder_52 : decode b_m_holder 52 = .ok (.ireturn, 1) := by decide +kernel
theorem d_m_holder_53 : decode b_m_holder 53 = .ok (.aload_n 0, 1) := by decide +kernel
theorem d_m_holder_54 : decode b_m_holder 54 = .ok (.getfield 25, 3) := by decide +kernel
theorem d_m_holder_57 : decode b_m_holder 57 = .ok (.aload_n 0, 1) := by decide +kernel
theorem d_m_holder_58 : decode b_m_holder 58 = .ok (.getfield 13, 3) := by decide +kernel
theorem d_m_holder_61 : decode b_m_holder 61 = .ok (.iload_n 1, 1) := by decide +kernel
theorem d_m_holder_62 : decode b_m_holder 62 = .ok (.iastore, 1) := by decide +kernel
theorem d_m_holder_63 : decode b_m_holder 63 = .ok (.aload_n 0, 1) := by decide +kernel
theorem d_m_holder_64 : decode b_m_holder 64 = .ok (.getfield 29, 3) := by decide +kernel
theorem d_m_holder_67 : decode b_m_holder 67 = .ok (.aload_n 0, 1) := by decide +kernel
theorem d_m_holder_68 : decode b_m_holder 68 = .ok (.getfield 13, 3) := by decide +kernel
theorem d_m_holder_71 : decode b_m_holder 71 = .ok (.iload_n 1, 1) := by decide +kernel
theorem d_m_holder_72 : decode b_m_holder 72 = .ok (.iconst 3, 1) := by decide +kernel
theorem d_m_holder_73 : decode b_m_holder 73 = .ok (.if_icmp .ne 7, 3) := by decide +kernel
theorem d_m_holder_76 : decode b_m_holder 76 = .ok (.iload_n 2, 1) := by decide +kernel
theorem d_m_holder_77 : decode b_m_holder 77 = .ok (.goto 4, 3) := by decide +kernel
theorem d_m_holder_80 : decode b_m_holder 80 = .ok (.iconst 0, 1) := by decide +kernel
theorem d_m_holder_81 : decode b_m_holder 81 = .ok (.iastore, 1) := by decide +kernel
theorem d_m_holder_82 : decode b_m_holder 82 = .ok (.aload_n 0, 1) := by decide +kernel
theorem d_m_holder_83 : decode b_m_holder 83 = .ok (.dup, 1) := by decide +kernel
theorem d_m_holder_84 : decode b_m_holder 84 = .ok (.getfield 16, 3) := by decide +kernel
theorem d_m_holder_87 : decode b_m_holder 87 = .ok (.iload_n 1, 1) := by decide +kernel
theorem d_m_holder_88 : decode b_m_holder 88 = .ok (.iconst 1, 1) := by decide +kernel
theorem d_m_holder_89 : decode b_m_holder 89 = .ok (.if_icmp .ne 7, 3) := by decide +kernel
theorem d_m_holder_92 : decode b_m_holder 92 = .ok (.iconst 1, 1) := by decide +kernel
theorem d_m_holder_93 : decode b_m_holder 93 = .ok (.goto 4, 3) := by decide +kernel
theorem d_m_holder_96 : decode b_m_holder 96 = .ok (.iconst 0, 1) := by decide +kernel
theorem d_m_holder_97 : decode b_m_holder 97 = .ok (.iadd, 1) := by decide +kernel
theorem d_m_holder_98 : decode b_m_holder 98 = .ok (.putfield 16, 3) := by decide +kernel
theorem d_m_holder_101 : decode b_m_holder 101 = .ok (.aload_n 0, 1) := by decide +kernel
theorem d_m_holder_102 : decode b_m_holder 102 = .ok (.dup, 1) := by decide +kernel
theorem d_m_holder_103 : decode b_m_holder 103 = .ok (.getfield 13, 3) := by decide +kernel
theorem d_m_holder_106 : decode b_m_holder 106 = .ok (.iconst 1, 1) := by decide +kernel
theorem d_m_holder_107 : decode b_m_holder 107 = .ok (.iadd, 1) := by decide +kernel
theorem d_m_holder_108 : decode b_m_holder 108 = .ok (.putfield 13, 3) := by decide +kernel
theorem d_m_holder_111 : decode b_m_holder 111 = .ok (.aload_n 0, 1) := by decide +kernel
theorem d_m_holder_112 : decode b_m_holder 112 = .ok (.getfield 13, 3) := by decide +kernel
theorem d_m_holder_115 : decode b_m_holder 115 = .ok (.iconst 1, 1) := by decide +kernel
theorem d_m_holder_116 : decode b_m_holder 116 = .ok (.isub, 1) := by decide +kernel
theorem d_m_holder_117 : decode b_m_holder 117 = .ok (.ireturn, 1) := by decide +kernel
abbrev b_m_share : ByteArray := prog_14_method_10_code
abbrev y_m_share : MethodName := ⟨"WhoRulesModel", "share", "(IIII)I"⟩
theorem d_m_share_0 : decode b_m_share 0 = .ok (.aload_n 0, 1) := by decide +kernel
theorem d_m_share_1 : decode b_m_share 1 = .ok (.iload_n 1, 1) := by decide +kernel
theorem d_m_share_2 : decode b_m_share 2 = .ok (.invokevirtual 254, 3) := by decide +kernel
theorem d_m_share_5 : decode b_m_share 5 = .ok (.ifCond .eq 11, 3) := by decide +kernel
theorem d_m_share_8 : decode b_m_share 8 = .ok (.aload_n 0, 1) := by decide +kernel
theorem d_m_share_9 : decode b_m_share 9 = .ok (.iload_n 2, 1) := by decide +kernel
theorem d_m_share_10 : decode b_m_share 10 = .ok (.invokevirtual 250, 3) := by decide +kernel
theorem d_m_share_13 : decode b_m_share 13 = .ok (.ifCond .ne 5, 3) := by decide +kernel
theorem d_m_share_16 : decode b_m_share 16 = .ok (.iconst (-1), 1) := by decide +kernel
theorem d_m_share_17 : decode b_m_share 17 = .ok (.ireturn, 1) := by decide +kernel
theorem d_m_share_18 : decode b_m_share 18 = .ok (.aload_n 0, 1) := by decide +kernel
theorem d_m_share_19 : decode b_m_share 19 = .ok (.iload_n 3, 1) := by decide +kernel
theorem d_m_share_20 : decode b_m_share 20 = .ok (.iconst 0, 1) := by decide +kernel
theorem d_m_share_21 : decode b_m_share 21 = .ok (.bipush 12, 2) := by decide +kernel
theorem d_m_share_23 : decode b_m_share 23 = .ok (.invokevirtual 246, 3) := by decide +kernel
theorem d_m_share_26 : decode b_m_share 26 = .ok (.ifCond .eq 15, 3) := by decide +kernel
theorem d_m_share_29 : decode b_m_share 29 = .ok (.aload_n 0, 1) := by decide +kernel
theorem d_m_share_30 : decode b_m_share 30 = .ok (.iload 4, 2) := by decide +kernel
theorem d_m_share_32 : decode b_m_share 32 = .ok (.iconst 0, 1) := by decide +kernel
theorem d_m_share_33 : decode b_m_share 33 = .ok (.bipush 99, 2) := by decide +kernel
theorem d_m_share_35 : decode b_m_share 35 = .ok (.invokevirtual 246, 3) := by decide +kernel
theorem d_m_share_38 : decode b_m_share 38 = .ok (.ifCond .ne 6, 3) := by decide +kernel
theorem d_m_share_41 : decode b_m_share 41 = .ok (.bipush (-2), 2) := by decide +kernel
theorem d_m_share_43 : decode b_m_share 43 = .ok (.ireturn, 1) := by decide +kernel
theorem d_m_share_44 : decode b_m_share 44 = .ok (.iload_n 3, 1) := by decide +kernel
theorem d_m_share_45 : decode b_m_share 45 = .ok (.istore 5, 2) := by decide +kernel
theorem d_m_share_47 : decode b_m_share 47 = .ok (.iconst 0, 1) := by decide +kernel
theorem d_m_share_48 : decode b_m_share 48 = .ok (.istore 6, 2) := by decide +kernel
theorem d_m_share_50 : decode b_m_share 50 = .ok (.iload 6, 2) := by decide +kernel
theorem d_m_share_52 : decode b_m_share 52 = .ok (.aload_n 0, 1) := by decide +kernel
theorem d_m_share_53 : decode b_m_share 53 = .ok (.getfield 19, 3) := by decide +kernel
theorem d_m_share_56 : decode b_m_share 56 = .ok (.if_icmp .ge 36, 3) := by decide +kernel
theorem d_m_share_59 : decode b_m_share 59 = .ok (.iload 5, 2) := by decide +kernel
theorem d_m_share_61 : decode b_m_share 61 = .ok (.aload_n 0, 1) := by decide +kernel
theorem d_m_share_62 : decode b_m_share 62 = .ok (.getfield 32, 3) := by decide +kernel
theorem d_m_share_65 : decode b_m_share 65 = .ok (.iload 6, 2) := by decide +kernel
theorem d_m_share_67 : decode b_m_share 67 = .ok (.iaload, 1) := by decide +kernel
theorem d_m_share_68 : decode b_m_share 68 = .ok (.iload_n 1, 1) := by decide +kernel
theorem d_m_share_69 : decode b_m_share 69 = .ok (.if_icmp .ne 13, 3) := by decide +kernel
theorem d_m_share_72 : decode b_m_share 72 = .ok (.aload_n 0, 1) := by decide +kernel
theorem d_m_share_73 : decode b_m_share 73 = .ok (.getfield 38, 3) := by decide +kernel
theorem d_m_share_76 : decode b_m_share 76 = .ok (.iload 6, 2) := by decide +kernel
theorem d_m_share_78 : decode b_m_share 78 = .ok (.iaload, 1) := by decide +kernel
theorem d_m_share_79 : decode b_m_share 79 = .ok (.goto 4, 3) := by decide +kernel
theorem d_m_share_82 : decode b_m_share 82 = .ok (.iconst 0, 1) := by decide +kernel
theorem d_m_share_83 : decode b_m_share 83 = .ok (.iadd, 1) := by decide +kernel
theorem d_m_share_84 : decode b_m_share 84 = .ok (.istore 5, 2) := by decide +kernel
theorem d_m_share_86 : decode b_m_share 86 = .ok (.iinc 6 1, 3) := by decide +kernel
theorem d_m_share_89 : decode b_m_share 89 = .ok (.goto (-39), 3) := by decide +kernel
theorem d_m_share_92 : decode b_m_share 92 = .ok (.iload 5, 2) := by decide +kernel
theorem d_m_share_94 : decode b_m_share 94 = .ok (.bipush 12, 2) := by decide +kernel
theorem d_m_share_96 : decode b_m_share 96 = .ok (.if_icmp .le 6, 3) := by decide +kernel
theorem d_m_share_99 : decode b_m_share 99 = .ok (.bipush (-3), 2) := by decide +kernel
theorem d_m_share_101 : decode b_m_share 101 = .ok (.ireturn, 1) := by decide +kernel
theorem d_m_share_102 : decode b_m_share 102 = .ok (.aload_n 0, 1) := by decide +kernel
theorem d_m_share_103 : decode b_m_share 103 = .ok (.getfield 19, 3) := by decide +kernel
theorem d_m_share_106 : decode b_m_share 106 = .ok (.bipush 40, 2) := by decide +kernel
theorem d_m_share_108 : decode b_m_share 108 = .ok (.if_icmp .ne 6, 3) := by decide +kernel
theorem d_m_share_111 : decode b_m_share 111 = .ok (.bipush (-4), 2) := by decide +kernel
theorem d_m_share_113 : decode b_m_share 113 = .ok (.ireturn, 1) := by decide +kernel
theorem d_m_share_114 : decode b_m_share 114 = .ok (.aload_n 0, 1) := by decide +kernel
theorem d_m_share_115 : decode b_m_share 115 = .ok (.getfield 32, 3) := by decide +kernel
theorem d_m_share_118 : decode b_m_share 118 = .ok (.aload_n 0, 1) := by decide +kernel
theorem d_m_share_119 : decode b_m_share 119 = .ok (.getfield 19, 3) := by decide +kernel
theorem d_m_share_122 : decode b_m_share 122 = .ok (.iload_n 1, 1) := by decide +kernel
theorem d_m_share_123 : decode b_m_share 123 = .ok (.iastore, 1) := by decide +kernel
theorem d_m_share_124 : decode b_m_share 124 = .ok (.aload_n 0, 1) := by decide +kernel
theorem d_m_share_125 : decode b_m_share 125 = .ok (.getfield 35, 3) := by decide +kernel
theorem d_m_share_128 : decode b_m_share 128 = .ok (.aload_n 0, 1) := by decide +kernel
theorem d_m_share_129 : decode b_m_share 129 = .ok (.getfield 19, 3) := by decide +kernel
theorem d_m_share_132 : decode b_m_share 132 = .ok (.iload_n 2, 1) := by decide +kernel
theorem d_m_share_133 : decode b_m_share 133 = .ok (.iastore, 1) := by decide +kernel
theorem d_m_share_134 : decode b_m_share 134 = .ok (.aload_n 0, 1) := by decide +kernel
theorem d_m_share_135 : decode b_m_share 135 = .ok (.getfield 38, 3) := by decide +kernel
theorem d_m_share_138 : decode b_m_share 138 = .ok (.aload_n 0, 1) := by decide +kernel
theorem d_m_share_139 : decode b_m_share 139 = .ok (.getfield 19, 3) := by decide +kernel
theorem d_m_share_142 : decode b_m_share 142 = .ok (.iload_n 3, 1) := by decide +kernel
theorem d_m_share_143 : decode b_m_share 143 = .ok (.iastore, 1) := by decide +kernel
theorem d_m_share_144 : decode b_m_share 144 = .ok (.aload_n 0, 1) := by decide +kernel
theorem d_m_share_145 : decode b_m_share 145 = .ok (.getfield 41, 3) := by decide +kernel
theorem d_m_share_148 : decode b_m_share 148 = .ok (.aload_n 0, 1) := by decide +kernel
theorem d_m_share_149 : decode b_m_share 149 = .ok (.getfield 19, 3) := by decide +kernel
theorem d_m_share_152 : decode b_m_share 152 = .ok (.iload 4, 2) := by decide +kernel
theorem d_m_share_154 : decode b_m_share 154 = .ok (.iastore, 1) := by decide +kernel
theorem d_m_share_155 : decode b_m_share 155 = .ok (.aload_n 0, 1) := by decide +kernel
theorem d_m_share_156 : decode b_m_share 156 = .ok (.getfield 47, 3) := by decide +kernel
theorem d_m_share_159 : decode b_m_share 159 = .ok (.aload_n 0, 1) := by decide +kernel
theorem d_m_share_160 : decode b_m_share 160 = .ok (.getfield 19, 3) := by decide +kernel
theorem d_m_share_163 : decode b_m_share 163 = .ok (.aload_n 0, 1) := by decide +kernel
theorem d_m_share_164 : decode b_m_share 164 = .ok (.getfield 7, 3) := by decide +kernel
theorem d_m_share_167 : decode b_m_share 167 = .ok (.iastore, 1) := by decide +kernel
theorem d_m_share_168 : decode b_m_share 168 = .ok (.aload_n 0, 1) := by decide +kernel
theorem d_m_share_169 : decode b_m_share 169 = .ok (.dup, 1) := by decide +kernel
theorem d_m_share_170 : decode b_m_share 170 = .ok (.getfield 19, 3) := by decide +kernel
theorem d_m_share_173 : decode b_m_share 173 = .ok (.iconst 1, 1) := by decide +kernel
theorem d_m_share_174 : decode b_m_share 174 = .ok (.iadd, 1) := by decide +kernel
theorem d_m_share_175 : decode b_m_share 175 = .ok (.putfield 19, 3) := by decide +kernel
theorem d_m_share_178 : decode b_m_share 178 = .ok (.aload_n 0, 1) := by decide +kernel
theorem d_m_share_179 : decode b_m_share 179 = .ok (.getfield 19, 3) := by decide +kernel
theorem d_m_share_182 : decode b_m_share 182 = .ok (.iconst 1, 1) := by decide +kernel
theorem d_m_share_183 : decode b_m_share 183 = .ok (.isub, 1) := by decide +kernel
theorem d_m_share_184 : decode b_m_share 184 = .ok (.ireturn, 1) := by decide +kernel
abbrev b_m_price : ByteArray := prog_14_method_11_code
abbrev y_m_price : MethodName := ⟨"WhoRulesModel", "price", "(II)I"⟩
theorem d_m_price_0 : decode b_m_price 0 = .ok (.aload_n 0, 1) := by decide +kernel
theorem d_m_price_1 : decode b_m_price 1 = .ok (.iload_n 1, 1) := by decide +kernel
theorem d_m_price_2 : decode b_m_price 2 = .ok (.invokevirtual 257, 3) := by decide +kernel
theorem d_m_price_5 : decode b_m_price 5 = .ok (.ifCond .ne 5, 3) := by decide +kernel
theorem d_m_price_8 : decode b_m_price 8 = .ok (.iconst (-1), 1) := by decide +kernel
theorem d_m_price_9 : decode b_m_price 9 = .ok (.ireturn, 1) := by decide +kernel
theorem d_m_price_10 : decode b_m_price 10 = .ok (.aload_n 0, 1) := by decide +kernel
theorem d_m_price_11 : decode b_m_price 11 = .ok (.iload_n 2, 1) := by decide +kernel
theorem d_m_price_12 : decode b_m_price 12 = .ok (.iconst 0, 1) := by decide +kernel
theorem d_m_price_13 : decode b_m_price 13 = .ok (.sipush 999, 3) := by decide +kernel
theorem d_m_price_16 : decode b_m_price 16 = .ok (.invokevirtual 246, 3) := by decide +kernel
theorem d_m_price_19 : decode b_m_price 19 = .ok (.ifCond .ne 6, 3) := by decide +kernel
theorem d_m_price_22 : decode b_m_price 22 = .ok (.bipush (-2), 2) := by decide +kernel
theorem d_m_price_24 : decode b_m_price 24 = .ok (.ireturn, 1) := by decide +kernel
theorem d_m_price_25 : decode b_m_price 25 = .ok (.aload_n 0, 1) := by decide +kernel
theorem d_m_price_26 : decode b_m_price 26 = .ok (.getfield 44, 3) := by decide +kernel
theorem d_m_price_29 : decode b_m_price 29 = .ok (.iload_n 1, 1) := by decide +kernel
theorem d_m_price_30 : decode b_m_price 30 = .ok (.iaload, 1) := by decide +kernel
theorem d_m_price_31 : decode b_m_price 31 = .ok (.istore_n 3, 1) := by decide +kernel
theorem d_m_price_32 : decode b_m_price 32 = .ok (.aload_n 0, 1) := by decide +kernel
theorem d_m_price_33 : decode b_m_price 33 = .ok (.getfield 44, 3) := by decide +kernel
theorem d_m_price_36 : decode b_m_price 36 = .ok (.iload_n 1, 1) := by decide +kernel
theorem d_m_price_37 : decode b_m_price 37 = .ok (.iload_n 2, 1) := by decide +kernel
theorem d_m_price_38 : decode b_m_price 38 = .ok (.iastore, 1) := by decide +kernel
theorem d_m_price_39 : decode b_m_price 39 = .ok (.iload_n 3, 1) := by decide +kernel
theorem d_m_price_40 : decode b_m_price 40 = .ok (.ireturn, 1) := by decide +kernel
abbrev b_m_findWhose : ByteArray := prog_14_method_12_code
abbrev y_m_findWhose : MethodName := ⟨"WhoRulesModel", "findWhose", "(II)V"⟩
theorem d_m_findWhose_0 : decode b_m_findWhose 0 = .ok (.aload_n 0, 1) := by decide +kernel
theorem d_m_findWhose_1 : decode b_m_findWhose 1 = .ok (.iload_n 2, 1) := by decide +kernel
theorem d_m_findWhose_2 : decode b_m_findWhose 2 = .ok (.aload_n 0, 1) := by decide +kernel
theorem d_m_findWhose_3 : decode b_m_findWhose 3 = .ok (.getfield 47, 3) := by decide +kernel
theorem d_m_findWhose_6 : decode b_m_findWhose 6 = .ok (.iload_n 1, 1) := by decide +kernel
theorem d_m_findWhose_7 : decode b_m_findWhose 7 = .ok (.iaload, 1) := by decide +kernel
theorem d_m_findWhose_8 : decode b_m_findWhose 8 = .ok (.if_icmp .ge 7, 3) := by decide +kernel
theorem d_m_findWhose_11 : decode b_m_findWhose 11 = .ok (.iconst (-1), 1) := by decide +kernel
theorem d_m_findWhose_12 : decode b_m_findWhose 12 = .ok (.goto 9, 3) := by decide +kernel
theorem d_m_findWhose_15 : decode b_m_findWhose 15 = .ok (.aload_n 0, 1) := by decide +kernel
theorem d_m_findWhose_16 : decode b_m_findWhose 16 = .ok (.getfield 35, 3) := by decide +kernel
theorem d_m_findWhose_19 : decode b_m_findWhose 19 = .ok (.iload_n 1, 1) := by decide +kernel
theorem d_m_findWhose_20 : decode b_m_findWhose 20 = .ok (.iaload, 1) := by decide +kernel
theorem d_m_findWhose_21 : decode b_m_findWhose 21 = .ok (.putfield 59, 3) := by decide +kernel
theorem d_m_findWhose_24 : decode b_m_findWhose 24 = .ok (.aload_n 0, 1) := by decide +kernel
theorem d_m_findWhose_25 : decode b_m_findWhose 25 = .ok (.aload_n 0, 1) := by decide +kernel
theorem d_m_findWhose_26 : decode b_m_findWhose 26 = .ok (.getfield 47, 3) := by decide +kernel
theorem d_m_findWhose_29 : decode b_m_findWhose 29 = .ok (.iload_n 1, 1) := by decide +kernel
theorem d_m_findWhose_30 : decode b_m_findWhose 30 = .ok (.iaload, 1) := by decide +kernel
theorem d_m_findWhose_31 : decode b_m_findWhose 31 = .ok (.putfield 62, 3) := by decide +kernel
theorem d_m_findWhose_34 : decode b_m_findWhose 34 = .ok (.iconst 0, 1) := by decide +kernel
theorem d_m_findWhose_35 : decode b_m_findWhose 35 = .ok (.istore_n 3, 1) := by decide +kernel
theorem d_m_findWhose_36 : decode b_m_findWhose 36 = .ok (.iload_n 3, 1) := by decide +kernel
theorem d_m_findWhose_37 : decode b_m_findWhose 37 = .ok (.aload_n 0, 1) := by decide +kernel
theorem d_m_findWhose_38 : decode b_m_findWhose 38 = .ok (.getfield 22, 3) := by decide +kernel
theorem d_m_findWhose_41 : decode b_m_findWhose 41 = .ok (.if_icmp .ge 52, 3) := by decide +kernel
theorem d_m_findWhose_44 : decode b_m_findWhose 44 = .ok (.aload_n 0, 1) := by decide +kernel
theorem d_m_findWhose_45 : decode b_m_findWhose 45 = .ok (.getfield 50, 3) := by decide +kernel
theorem d_m_findWhose_48 : decode b_m_findWhose 48 = .ok (.iload_n 3, 1) := by decide +kernel
theorem d_m_findWhose_49 : decode b_m_findWhose 49 = .ok (.iaload, 1) := by decide +kernel
theorem d_m_findWhose_50 : decode b_m_findWhose 50 = .ok (.iload_n 1, 1) := by decide +kernel
theorem d_m_findWhose_51 : decode b_m_findWhose 51 = .ok (.if_icmp .ne 36, 3) := by decide +kernel
theorem d_m_findWhose_54 : decode b_m_findWhose 54 = .ok (.aload_n 0, 1) := by decide +kernel
theorem d_m_findWhose_55 : decode b_m_findWhose 55 = .ok (.getfield 56, 3) := by decide +kernel
theorem d_m_findWhose_58 : decode b_m_findWhose 58 = .ok (.iload_n 3, 1) := by decide +kernel
theorem d_m_findWhose_59 : decode b_m_findWhose 59 = .ok (.iaload, 1) := by decide +kernel
theorem d_m_findWhose_60 : decode b_m_findWhose 60 = .ok (.iload_n 2, 1) := by decide +kernel
theorem d_m_findWhose_61 : decode b_m_findWhose 61 = .ok (.if_icmp .le 6, 3) := by decide +kernel
theorem d_m_findWhose_64 : decode b_m_findWhose 64 = .ok (.goto 23, 3) := by decide +kernel
theorem d_m_findWhose_67 : decode b_m_findWhose 67 = .ok (.aload_n 0, 1) := by decide +kernel
theorem d_m_findWhose_68 : decode b_m_findWhose 68 = .ok (.aload_n 0, 1) := by decide +kernel
theorem d_m_findWhose_69 : decode b_m_findWhose 69 = .ok (.getfield 53, 3) := by decide +kernel
theorem d_m_findWhose_72 : decode b_m_findWhose 72 = .ok (.iload_n 3, 1) := by decide +kernel
theorem d_m_findWhose_73 : decode b_m_findWhose 73 = .ok (.iaload, 1) := by decide +kernel
theorem d_m_findWhose_74 : decode b_m_findWhose 74 = .ok (.putfield 59, 3) := by decide +kernel
theorem d_m_findWhose_77 : decode b_m_findWhose 77 = .ok (.aload_n 0, 1) := by decide +kernel
theorem d_m_findWhose_78 : decode b_m_findWhose 78 = .ok (.aload_n 0, 1) := by decide +kernel
theorem d_m_findWhose_79 : decode b_m_findWhose 79 = .ok (.getfield 56, 3) := by decide +kernel
theorem d_m_findWhose_82 : decode b_m_findWhose 82 = .ok (.iload_n 3, 1) := by decide +kernel
theorem d_m_findWhose_83 : decode b_m_findWhose 83 = .ok (.iaload, 1) := by decide +kernel
theorem d_m_findWhose_84 : decode b_m_findWhose 84 = .ok (.putfield 62, 3) := by decide +kernel
theorem d_m_findWhose_87 : decode b_m_findWhose 87 = .ok (.iinc 3 1, 3) := by decide +kernel
theorem d_m_findWhose_90 : decode b_m_findWhose 90 = .ok (.goto (-54), 3) := by decide +kernel
theorem d_m_findWhose_93 : decode b_m_findWhose 93 = .ok (.return_, 1) := by decide +kernel
abbrev b_m_sale : ByteArray := prog_14_method_13_code
abbrev y_m_sale : MethodName := ⟨"WhoRulesModel", "sale", "(II)I"⟩
theorem d_m_sale_0 : decode b_m_sale 0 = .ok (.aload_n 0, 1) := by decide +kernel
theorem d_m_sale_1 : decode b_m_sale 1 = .ok (.iload_n 1, 1) := by decide +kernel
theorem d_m_sale_2 : decode b_m_sale 2 = .ok (.invokevirtual 257, 3) := by decide +kernel
theorem d_m_sale_5 : decode b_m_sale 5 = .ok (.ifCond .eq 11, 3) := by decide +kernel
theorem d_m_sale_8 : decode b_m_sale 8 = .ok (.aload_n 0, 1) := by decide +kernel
theorem d_m_sale_9 : decode b_m_sale 9 = .ok (.iload_n 2, 1) := by decide +kernel
theorem d_m_sale_10 : decode b_m_sale 10 = .ok (.invokevirtual 250, 3) := by decide +kernel
theorem d_m_sale_13 : decode b_m_sale 13 = .ok (.ifCond .ne 5, 3) := by decide +kernel
theorem d_m_sale_16 : decode b_m_sale 16 = .ok (.iconst (-1), 1) := by decide +kernel
theorem d_m_sale_17 : decode b_m_sale 17 = .ok (.ireturn, 1) := by decide +kernel
theorem d_m_sale_18 : decode b_m_sale 18 = .ok (.aload_n 0, 1) := by decide +kernel
theorem d_m_sale_19 : decode b_m_sale 19 = .ok (.iload_n 1, 1) := by decide +kernel
theorem d_m_sale_20 : decode b_m_sale 20 = .ok (.aload_n 0, 1) := by decide +kernel
theorem d_m_sale_21 : decode b_m_sale 21 = .ok (.getfield 7, 3) := by decide +kernel
theorem d_m_sale_24 : decode b_m_sale 24 = .ok (.invokevirtual 260, 3) := by decide +kernel
theorem d_m_sale_27 : decode b_m_sale 27 = .ok (.aload_n 0, 1) := by decide +kernel
theorem d_m_sale_28 : decode b_m_sale 28 = .ok (.getfield 59, 3) := by decide +kernel
theorem d_m_sale_31 : decode b_m_sale 31 = .ok (.iload_n 2, 1) := by decide +kernel
theorem d_m_sale_32 : decode b_m_sale 32 = .ok (.if_icmp .ne 6, 3) := by decide +kernel
theorem d_m_sale_35 : decode b_m_sale 35 = .ok (.bipush (-3), 2) := by decide +kernel
theorem d_m_sale_37 : decode b_m_sale 37 = .ok (.ireturn, 1) := by decide +kernel
theorem d_m_sale_38 : decode b_m_sale 38 = .ok (.aload_n 0, 1) := by decide +kernel
theorem d_m_sale_39 : decode b_m_sale 39 = .ok (.getfield 22, 3) := by decide +kernel
theorem d_m_sale_42 : decode b_m_sale 42 = .ok (.bipush 120, 2) := by decide +kernel
theorem d_m_sale_44 : decode b_m_sale 44 = .ok (.if_icmp .ne 6, 3) := by decide +kernel
theorem d_m_sale_47 : decode b_m_sale 47 = .ok (.bipush (-4), 2) := by decide +kernel
theorem d_m_sale_49 : decode b_m_sale 49 = .ok (.ireturn, 1) := by decide +kernel
theorem d_m_sale_50 : decode b_m_sale 50 = .ok (.aload_n 0, 1) := by decide +kernel
theorem d_m_sale_51 : decode b_m_sale 51 = .ok (.getfield 50, 3) := by decide +kernel
theorem d_m_sale_54 : decode b_m_sale 54 = .ok (.aload_n 0, 1) := by decide +kernel
theorem d_m_sale_55 : decode b_m_sale 55 = .ok (.getfield 22, 3) := by decide +kernel
theorem d_m_sale_58 : decode b_m_sale 58 = .ok (.iload_n 1, 1) := by decide +kernel
theorem d_m_sale_59 : decode b_m_sale 59 = .ok (.iastore, 1) := by decide +kernel
theorem d_m_sale_60 : decode b_m_sale 60 = .ok (.aload_n 0, 1) := by decide +kernel
theorem d_m_sale_61 : decode b_m_sale 61 = .ok (.getfield 53, 3) := by decide +kernel
theorem d_m_sale_64 : decode b_m_sale 64 = .ok (.aload_n 0, 1) := by decide +kernel
theorem d_m_sale_65 : decode b_m_sale 65 = .ok (.getfield 22, 3) := by decide +kernel
theorem d_m_sale_68 : decode b_m_sale 68 = .ok (.iload_n 2, 1) := by decide +kernel
theorem d_m_sale_69 : decode b_m_sale 69 = .ok (.iastore, 1) := by decide +kernel
theorem d_m_sale_70 : decode b_m_sale 70 = .ok (.aload_n 0, 1) := by decide +kernel
theorem d_m_sale_71 : decode b_m_sale 71 = .ok (.getfield 56, 3) := by decide +kernel
theorem d_m_sale_74 : decode b_m_sale 74 = .ok (.aload_n 0, 1) := by decide +kernel
theorem d_m_sale_75 : decode b_m_sale 75 = .ok (.getfield 22, 3) := by decide +kernel
theorem d_m_sale_78 : decode b_m_sale 78 = .ok (.aload_n 0, 1) := by decide +kernel
theorem d_m_sale_79 : decode b_m_sale 79 = .ok (.getfield 7, 3) := by decide +kernel
theorem d_m_sale_82 : decode b_m_sale 82 = .ok (.iastore, 1) := by decide +kernel
theorem d_m_sale_83 : decode b_m_sale 83 = .ok (.aload_n 0, 1) := by decide +kernel
theorem d_m_sale_84 : decode b_m_sale 84 = .ok (.dup, 1) := by decide +kernel
theorem d_m_sale_85 : decode b_m_sale 85 = .ok (.getfield 22, 3) := by decide +kernel
theorem d_m_sale_88 : decode b_m_sale 88 = .ok (.iconst 1, 1) := by decide +kernel
theorem d_m_sale_89 : decode b_m_sale 89 = .ok (.iadd, 1) := by decide +kernel
theorem d_m_sale_90 : decode b_m_sale 90 = .ok (.putfield 22, 3) := by decide +kernel
theorem d_m_sale_93 : decode b_m_sale 93 = .ok (.aload_n 0, 1) := by decide +kernel
theorem d_m_sale_94 : decode b_m_sale 94 = .ok (.getfield 22, 3) := by decide +kernel
theorem d_m_sale_97 : decode b_m_sale 97 = .ok (.ireturn, 1) := by decide +kernel
abbrev b_m_of : ByteArray := prog_14_method_14_code
abbrev y_m_of : MethodName := ⟨"WhoRulesModel", "of", "(II)I"⟩
theorem d_m_of_0 : decode b_m_of 0 = .ok (.aload_n 0, 1) := by decide +kernel
theorem d_m_of_1 : decode b_m_of 1 = .ok (.iload_n 1, 1) := by decide +kernel
theorem d_m_of_2 : decode b_m_of 2 = .ok (.invokevirtual 257, 3) := by decide +kernel
theorem d_m_of_5 : decode b_m_of 5 = .ok (.ifCond .ne 5, 3) := by decide +kernel
theorem d_m_of_8 : decode b_m_of 8 = .ok (.iconst (-1), 1) := by decide +kernel
theorem d_m_of_9 : decode b_m_of 9 = .ok (.ireturn, 1) := by decide +kernel
theorem d_m_of_10 : decode b_m_of 10 = .ok (.iload_n 2, 1) := by decide +kernel
theorem d_m_of_11 : decode b_m_of 11 = .ok (.tableswitch 57 0 3 #[29, 36, 43, 50], 29) := by decide +kernel
theorem d_m_of_40 : decode b_m_of 40 = .ok (.aload_n 0, 1) := by decide +kernel
theorem d_m_of_41 : decode b_m_of 41 = .ok (.getfield 32, 3) := by decide +kernel
theorem d_m_of_44 : decode b_m_of 44 = .ok (.iload_n 1, 1) := by decide +kernel
theorem d_m_of_45 : decode b_m_of 45 = .ok (.iaload, 1) := by decide +kernel
theorem d_m_of_46 : decode b_m_of 46 = .ok (.ireturn, 1) := by decide +kernel
theorem d_m_of_47 : decode b_m_of 47 = .ok (.aload_n 0, 1) := by decide +kernel
theorem d_m_of_48 : decode b_m_of 48 = .ok (.getfield 38, 3) := by decide +kernel
theorem d_m_of_51 : decode b_m_of 51 = .ok (.iload_n 1, 1) := by decide +kernel
theorem d_m_of_52 : decode b_m_of 52 = .ok (.iaload, 1) := by decide +kernel
theorem d_m_of_53 : decode b_m_of 53 = .ok (.ireturn, 1) := by decide +kernel
theorem d_m_of_54 : decode b_m_of 54 = .ok (.aload_n 0, 1) := by decide +kernel
theorem d_m_of_55 : decode b_m_of 55 = .ok (.getfield 41, 3) := by decide +kernel
theorem d_m_of_58 : decode b_m_of 58 = .ok (.iload_n 1, 1) := by decide +kernel
theorem d_m_of_59 : decode b_m_of 59 = .ok (.iaload, 1) := by decide +kernel
theorem d_m_of_60 : decode b_m_of 60 = .ok (.ireturn, 1) := by decide +kernel
theorem d_m_of_61 : decode b_m_of 61 = .ok (.aload_n 0, 1) := by decide +kernel
theorem d_m_of_62 : decode b_m_of 62 = .ok (.getfield 44, 3) := by decide +kernel
theorem d_m_of_65 : decode b_m_of 65 = .ok (.iload_n 1, 1) := by decide +kernel
theorem d_m_of_66 : decode b_m_of 66 = .ok (.iaload, 1) := by decide +kernel
theorem d_m_of_67 : decode b_m_of 67 = .ok (.ireturn, 1) := by decide +kernel
theorem d_m_of_68 : decode b_m_of 68 = .ok (.iconst (-1), 1) := by decide +kernel
theorem d_m_of_69 : decode b_m_of 69 = .ok (.ireturn, 1) := by decide +kernel
abbrev b_m_held : ByteArray := prog_14_method_15_code
abbrev y_m_held : MethodName := ⟨"WhoRulesModel", "held", "(III)I"⟩
theorem d_m_held_0 : decode b_m_held 0 = .ok (.aload_n 0, 1) := by decide +kernel
theorem d_m_held_1 : decode b_m_held 1 = .ok (.iload_n 1, 1) := by decide +kernel
theorem d_m_held_2 : decode b_m_held 2 = .ok (.invokevirtual 257, 3) := by decide +kernel
theorem d_m_held_5 : decode b_m_held 5 = .ok (.ifCond .eq 21, 3) := by decide +kernel
theorem d_m_held_8 : decode b_m_held 8 = .ok (.aload_n 0, 1) := by decide +kernel
theorem d_m_held_9 : decode b_m_held 9 = .ok (.iload_n 2, 1) := by decide +kernel
theorem d_m_held_10 : decode b_m_held 10 = .ok (.invokevirtual 264, 3) := by decide +kernel
theorem d_m_held_13 : decode b_m_held 13 = .ok (.ifCond .eq 13, 3) := by decide +kernel
theorem d_m_held_16 : decode b_m_held 16 = .ok (.aload_n 0, 1) := by decide +kernel
theorem d_m_held_17 : decode b_m_held 17 = .ok (.iload_n 3, 1) := by decide +kernel
theorem d_m_held_18 : decode b_m_held 18 = .ok (.iconst 0, 1) := by decide +kernel
theorem d_m_held_19 : decode b_m_held 19 = .ok (.iconst 1, 1) := by decide +kernel
theorem d_m_held_20 : decode b_m_held 20 = .ok (.invokevirtual 246, 3) := by decide +kernel
theorem d_m_held_23 : decode b_m_held 23 = .ok (.ifCond .ne 5, 3) := by decide +kernel
theorem d_m_held_26 : decode b_m_held 26 = .ok (.iconst (-1), 1) := by decide +kernel
theorem d_m_held_27 : decode b_m_held 27 = .ok (.ireturn, 1) := by decide +kernel
theorem d_m_held_28 : decode b_m_held 28 = .ok (.aload_n 0, 1) := by decide +kernel
theorem d_m_held_29 : decode b_m_held 29 = .ok (.iload_n 1, 1) := by decide +kernel
theorem d_m_held_30 : decode b_m_held 30 = .ok (.iload_n 2, 1) := by decide +kernel
theorem d_m_held_31 : decode b_m_held 31 = .ok (.invokevirtual 260, 3) := by decide +kernel
theorem d_m_held_34 : decode b_m_held 34 = .ok (.aload_n 0, 1) := by decide +kernel
theorem d_m_held_35 : decode b_m_held 35 = .ok (.getfield 59, 3) := by decide +kernel
theorem d_m_held_38 : decode b_m_held 38 = .ok (.ifCond .ge 8, 3) := by decide +kernel
theorem d_m_held_41 : decode b_m_held 41 = .ok (.bipush (-5), 2) := by decide +kernel
theorem d_m_held_43 : decode b_m_held 43 = .ok (.goto 18, 3) := by decide +kernel
theorem d_m_held_46 : decode b_m_held 46 = .ok (.iload_n 3, 1) := by decide +kernel
theorem d_m_held_47 : decode b_m_held 47 = .ok (.ifCond .ne 10, 3) := by decide +kernel
theorem d_m_held_50 : decode b_m_held 50 = .ok (.aload_n 0, 1) := by decide +kernel
theorem d_m_held_51 : decode b_m_held 51 = .ok (.getfield 59, 3) := by decide +kernel
theorem d_m_held_54 : decode b_m_held 54 = .ok (.goto 7, 3) := by decide +kernel
theorem d_m_held_57 : decode b_m_held 57 = .ok (.aload_n 0, 1) := by decide +kernel
theorem d_m_held_58 : decode b_m_held 58 = .ok (.getfield 62, 3) := by decide +kernel
theorem d_m_held_61 : decode b_m_held 61 = .ok (.ireturn, 1) := by decide +kernel
abbrev b_m_feed : ByteArray := prog_14_method_16_code
abbrev y_m_feed : MethodName := ⟨"WhoRulesModel", "feed", "(II)I"⟩
theorem d_m_feed_0 : decode b_m_feed 0 = .ok (.aload_n 0, 1) := by decide +kernel
theorem d_m_feed_1 : decode b_m_feed 1 = .ok (.iload_n 2, 1) := by decide +kernel
theorem d_m_feed_2 : decode b_m_feed 2 = .ok (.iconst 0, 1) := by decide +kernel
theorem d_m_feed_3 : decode b_m_feed 3 = .ok (.iconst 4, 1) := by decide +kernel
theorem d_m_feed_4 : decode b_m_feed 4 = .ok (.invokevirtual 246, 3) := by decide +kernel
theorem d_m_feed_7 : decode b_m_feed 7 = .ok (.ifCond .ne 6, 3) := by decide +kernel
theorem d_m_feed_10 : decode b_m_feed 10 = .ok (.bipush (-2), 2) := by decide +kernel
theorem d_m_feed_12 : decode b_m_feed 12 = .ok (.ireturn, 1) := by decide +kernel
theorem d_m_feed_13 : decode b_m_feed 13 = .ok (.aload_n 0, 1) := by decide +kernel
theorem d_m_feed_14 : decode b_m_feed 14 = .ok (.getfield 68, 3) := by decide +kernel
theorem d_m_feed_17 : decode b_m_feed 17 = .ok (.iload_n 2, 1) := by decide +kernel
theorem d_m_feed_18 : decode b_m_feed 18 = .ok (.iadd, 1) := by decide +kernel
theorem d_m_feed_19 : decode b_m_feed 19 = .ok (.bipush 100, 2) := by decide +kernel
theorem d_m_feed_21 : decode b_m_feed 21 = .ok (.if_icmp .le 6, 3) := by decide +kernel
theorem d_m_feed_24 : decode b_m_feed 24 = .ok (.bipush (-4), 2) := by decide +kernel
theorem d_m_feed_26 : decode b_m_feed 26 = .ok (.ireturn, 1) := by decide +kernel
theorem d_m_feed_27 : decode b_m_feed 27 = .ok (.iload_n 2, 1) := by decide +kernel
theorem d_m_feed_28 : decode b_m_feed 28 = .ok (.iconst 1, 1) := by decide +kernel
theorem d_m_feed_29 : decode b_m_feed 29 = .ok (.isub, 1) := by decide +kernel
theorem d_m_feed_30 : decode b_m_feed 30 = .ok (.istore_n 3, 1) := by decide +kernel
theorem d_m_feed_31 : decode b_m_feed 31 = .ok (.iload_n 3, 1) := by decide +kernel
theorem d_m_feed_32 : decode b_m_feed 32 = .ok (.ifCond .lt 39, 3) := by decide +kernel
theorem d_m_feed_35 : decode b_m_feed 35 = .ok (.aload_n 0, 1) := by decide +kernel
theorem d_m_feed_36 : decode b_m_feed 36 = .ok (.getfield 77, 3) := by decide +kernel
theorem d_m_feed_39 : decode b_m_feed 39 = .ok (.sipush 2000, 3) := by decide +kernel
theorem d_m_feed_42 : decode b_m_feed 42 = .ok (.aload_n 0, 1) := by decide +kernel
theorem d_m_feed_43 : decode b_m_feed 43 = .ok (.getfield 68, 3) := by decide +kernel
theorem d_m_feed_46 : decode b_m_feed 46 = .ok (.iadd, 1) := by decide +kernel
theorem d_m_feed_47 : decode b_m_feed 47 = .ok (.iload_n 1, 1) := by decide +kernel
theorem d_m_feed_48 : decode b_m_feed 48 = .ok (.bipush 8, 2) := by decide +kernel
theorem d_m_feed_50 : decode b_m_feed 50 = .ok (.iload_n 3, 1) := by decide +kernel
theorem d_m_feed_51 : decode b_m_feed 51 = .ok (.imul, 1) := by decide +kernel
theorem d_m_feed_52 : decode b_m_feed 52 = .ok (.ishr, 1) := by decide +kernel
theorem d_m_feed_53 : decode b_m_feed 53 = .ok (.i2b, 1) := by decide +kernel
theorem d_m_feed_54 : decode b_m_feed 54 = .ok (.iastore, 1) := by decide +kernel
theorem d_m_feed_55 : decode b_m_feed 55 = .ok (.aload_n 0, 1) := by decide +kernel
theorem d_m_feed_56 : decode b_m_feed 56 = .ok (.dup, 1) := by decide +kernel
theorem d_m_feed_57 : decode b_m_feed 57 = .ok (.getfield 68, 3) := by decide +kernel
theorem d_m_feed_60 : decode b_m_feed 60 = .ok (.iconst 1, 1) := by decide +kernel
theorem d_m_feed_61 : decode b_m_feed 61 = .ok (.iadd, 1) := by decide +kernel
theorem d_m_feed_62 : decode b_m_feed 62 = .ok (.putfield 68, 3) := by decide +kernel
theorem d_m_feed_65 : decode b_m_feed 65 = .ok (.iinc 3 (-1), 3) := by decide +kernel
theorem d_m_feed_68 : decode b_m_feed 68 = .ok (.goto (-37), 3) := by decide +kernel
theorem d_m_feed_71 : decode b_m_feed 71 = .ok (.aload_n 0, 1) := by decide +kernel
theorem d_m_feed_72 : decode b_m_feed 72 = .ok (.getfield 68, 3) := by decide +kernel
theorem d_m_feed_75 : decode b_m_feed 75 = .ok (.ireturn, 1) := by decide +kernel
abbrev b_m_next : ByteArray := prog_14_method_17_code
abbrev y_m_next : MethodName := ⟨"WhoRulesModel", "next", "()I"⟩
theorem d_m_next_0 : decode b_m_next 0 = .ok (.aload_n 0, 1) := by decide +kernel
theorem d_m_next_1 : decode b_m_next 1 = .ok (.getfield 105, 3) := by decide +kernel
theorem d_m_next_4 : decode b_m_next 4 = .ok (.aload_n 0, 1) := by decide +kernel
theorem d_m_next_5 : decode b_m_next 5 = .ok (.getfield 102, 3) := by decide +kernel
theorem d_m_next_8 : decode b_m_next 8 = .ok (.if_icmp .ge 20, 3) := by decide +kernel
theorem d_m_next_11 : decode b_m_next 11 = .ok (.aload_n 0, 1) := by decide +kernel
theorem d_m_next_12 : decode b_m_next 12 = .ok (.getfield 77, 3) := by decide +kernel
theorem d_m_next_15 : decode b_m_next 15 = .ok (.aload_n 0, 1) := by decide +kernel
theorem d_m_next_16 : decode b_m_next 16 = .ok (.getfield 99, 3) := by decide +kernel
theorem d_m_next_19 : decode b_m_next 19 = .ok (.aload_n 0, 1) := by decide +kernel
theorem d_m_next_20 : decode b_m_next 20 = .ok (.getfield 105, 3) := by decide +kernel
theorem d_m_next_23 : decode b_m_next 23 = .ok (.iadd, 1) := by decide +kernel
theorem d_m_next_24 : decode b_m_next 24 = .ok (.iaload, 1) := by decide +kernel
theorem d_m_next_25 : decode b_m_next 25 = .ok (.goto 4, 3) := by decide +kernel
theorem d_m_next_28 : decode b_m_next 28 = .ok (.iconst (-1), 1) := by decide +kernel
theorem d_m_next_29 : decode b_m_next 29 = .ok (.ireturn, 1) := by decide +kernel
abbrev b_m_isDigit : ByteArray := prog_14_method_18_code
abbrev y_m_isDigit : MethodName := ⟨"WhoRulesModel", "isDigit", "()Z"⟩
theorem d_m_isDigit_0 : decode b_m_isDigit 0 = .ok (.aload_n 0, 1) := by decide +kernel
theorem d_m_isDigit_1 : decode b_m_isDigit 1 = .ok (.aload_n 0, 1) := by decide +kernel
theorem d_m_isDigit_2 : decode b_m_isDigit 2 = .ok (.invokevirtual 267, 3) := by decide +kernel
theorem d_m_isDigit_5 : decode b_m_isDigit 5 = .ok (.bipush 48, 2) := by decide +kernel
theorem d_m_isDigit_7 : decode b_m_isDigit 7 = .ok (.bipush 57, 2) := by decide +kernel
theorem d_m_isDigit_9 : decode b_m_isDigit 9 = .ok (.invokevirtual 246, 3) := by decide +kernel
theorem d_m_isDigit_12 : decode b_m_isDigit 12 = .ok (.ireturn, 1) := by decide +kernel
abbrev b_m_takes : ByteArray := prog_14_method_19_code
abbrev y_m_takes : MethodName := ⟨"WhoRulesModel", "takes", "(I)Z"⟩
theorem d_m_takes_0 : decode b_m_takes 0 = .ok (.aload_n 0, 1) := by decide +kernel
theorem d_m_takes_1 : decode b_m_takes 1 = .ok (.invokevirtual 267, 3) := by decide +kernel
theorem d_m_takes_4 : decode b_m_takes 4 = .ok (.iload_n 1, 1) := by decide +kernel
theorem d_m_takes_5 : decode b_m_takes 5 = .ok (.if_icmp .eq 5, 3) := by decide +kernel
theorem d_m_takes_8 : decode b_m_takes 8 = .ok (.iconst 0, 1) := by decide +kernel
theorem d_m_takes_9 : decode b_m_takes 9 = .ok (.ireturn, 1) := by decide +kernel
theorem d_m_takes_10 : decode b_m_takes 10 = .ok (.aload_n 0, 1) := by decide +kernel
theorem d_m_takes_11 : decode b_m_takes 11 = .ok (.dup, 1) := by decide +kernel
theorem d_m_takes_12 : decode b_m_takes 12 = .ok (.getfield 105, 3) := by decide +kernel
theorem d_m_takes_15 : decode b_m_takes 15 = .ok (.iconst 1, 1) := by decide +kernel
theorem d_m_takes_16 : decode b_m_takes 16 = .ok (.iadd, 1) := by decide +kernel
theorem d_m_takes_17 : decode b_m_takes 17 = .ok (.putfield 105, 3) := by decide +kernel
theorem d_m_takes_20 : decode b_m_takes 20 = .ok (.iconst 1, 1) := by decide +kernel
theorem d_m_takes_21 : decode b_m_takes 21 = .ok (.ireturn, 1) := by decide +kernel
abbrev b_m_takesWord : ByteArray := prog_14_method_20_code
abbrev y_m_takesWord : MethodName := ⟨"WhoRulesModel", "takesWord", "(II)Z"⟩
theorem d_m_takesWord_0 : decode b_m_takesWord 0 = .ok (.iload_n 2, 1) := by decide +kernel
theorem d_m_takesWord_1 : decode b_m_takesWord 1 = .ok (.iconst 1, 1) := by decide +kernel
theorem d_m_takesWord_2 : decode b_m_takesWord 2 = .ok (.isub, 1) := by decide +kernel
theorem d_m_takesWord_3 : decode b_m_takesWord 3 = .ok (.istore_n 3, 1) := by decide +kernel
theorem d_m_takesWord_4 : decode b_m_takesWord 4 = .ok (.iload_n 3, 1) := by decide +kernel
theorem d_m_takesWord_5 : decode b_m_takesWord 5 = .ok (.ifCond .lt 29, 3) := by decide +kernel
theorem d_m_takesWord_8 : decode b_m_takesWord 8 = .ok (.aload_n 0, 1) := by decide +kernel
theorem d_m_takesWord_9 : decode b_m_takesWord 9 = .ok (.bipush 96, 2) := by decide +kernel
theorem d_m_takesWord_11 : decode b_m_takesWord 11 = .ok (.iload_n 1, 1) := by decide +kernel
theorem d_m_takesWord_12 : decode b_m_takesWord 12 = .ok (.iconst 5, 1) := by decide +kernel
theorem d_m_takesWord_13 : decode b_m_takesWord 13 = .ok (.iload_n 3, 1) := by decide +kernel
theorem d_m_takesWord_14 : decode b_m_takesWord 14 = .ok (.imul, 1) := by decide +kernel
theorem d_m_takesWord_15 : decode b_m_takesWord 15 = .ok (.ishr, 1) := by decide +kernel
theorem d_m_takesWord_16 : decode b_m_takesWord 16 = .ok (.bipush 31, 2) := by decide +kernel
theorem d_m_takesWord_18 : decode b_m_takesWord 18 = .ok (.iand, 1) := by decide +kernel
theorem d_m_takesWord_19 : decode b_m_takesWord 19 = .ok (.iadd, 1) := by decide +kernel
theorem d_m_takesWord_20 : decode b_m_takesWord 20 = .ok (.invokevirtual 271, 3) := by decide +kernel
theorem d_m_takesWord_23 : decode b_m_takesWord 23 = .ok (.ifCond .ne 5, 3) := by decide +kernel
theorem d_m_takesWord_26 : decode b_m_takesWord 26 = .ok (.iconst 0, 1) := by decide +kernel
theorem d_m_takesWord_27 : decode b_m_takesWord 27 = .ok (.ireturn, 1) := by decide +kernel
theorem d_m_takesWord_28 : decode b_m_takesWord 28 = .ok (.iinc 3 (-1), 3) := by decide +kernel
theorem d_m_takesWord_31 : decode b_m_takesWord 31 = .ok (.goto (-27), 3) := by decide +kernel
theorem d_m_takesWord_34 : decode b_m_takesWord 34 = .ok (.aload_n 0, 1) := by decide +kernel
theorem d_m_takesWord_35 : decode b_m_takesWord 35 = .ok (.bipush 32, 2) := by decide +kernel
theorem d_m_takesWord_37 : decode b_m_takesWord 37 = .ok (.invokevirtual 271, 3) := by decide +kernel
theorem d_m_takesWord_40 : decode b_m_takesWord 40 = .ok (.ireturn, 1) := by decide +kernel
abbrev b_m_takesNumber : ByteArray := prog_14_method_21_code
abbrev y_m_takesNumber : MethodName := ⟨"WhoRulesModel", "takesNumber", "(Z)Z"⟩
theorem d_m_takesNumber_0 : decode b_m_takesNumber 0 = .ok (.aload_n 0, 1) := by decide +kernel
theorem d_m_takesNumber_1 : decode b_m_takesNumber 1 = .ok (.invokevirtual 274, 3) := by decide +kernel
theorem d_m_takesNumber_4 : decode b_m_takesNumber 4 = .ok (.ifCond .ne 5, 3) := by decide +kernel
theorem d_m_takesNumber_7 : decode b_m_takesNumber 7 = .ok (.iconst 0, 1) := by decide +kernel
theorem d_m_takesNumber_8 : decode b_m_takesNumber 8 = .ok (.ireturn, 1) := by decide +kernel
theorem d_m_takesNumber_9 : decode b_m_takesNumber 9 = .ok (.aload_n 0, 1) := by decide +kernel
theorem d_m_takesNumber_10 : decode b_m_takesNumber 10 = .ok (.iconst 0, 1) := by decide +kernel
theorem d_m_takesNumber_11 : decode b_m_takesNumber 11 = .ok (.putfield 111, 3) := by decide +kernel
theorem d_m_takesNumber_14 : decode b_m_takesNumber 14 = .ok (.iconst 0, 1) := by decide +kernel
theorem d_m_takesNumber_15 : decode b_m_takesNumber 15 = .ok (.istore_n 2, 1) := by decide +kernel
theorem d_m_takesNumber_16 : decode b_m_takesNumber 16 = .ok (.iload_n 2, 1) := by decide +kernel
theorem d_m_takesNumber_17 : decode b_m_takesNumber 17 = .ok (.iconst 3, 1) := by decide +kernel
theorem d_m_takesNumber_18 : decode b_m_takesNumber 18 = .ok (.if_icmp .ge 72, 3) := by decide +kernel
theorem d_m_takesNumber_21 : decode b_m_takesNumber 21 = .ok (.aload_n 0, 1) := by decide +kernel
theorem d_m_takesNumber_22 : decode b_m_takesNumber 22 = .ok (.invokevirtual 274, 3) := by decide +kernel
theorem d_m_takesNumber_25 : decode b_m_takesNumber 25 = .ok (.ifCond .eq 65, 3) := by decide +kernel
theorem d_m_takesNumber_28 : decode b_m_takesNumber 28 = .ok (.iload_n 1, 1) := by decide +kernel
theorem d_m_takesNumber_29 : decode b_m_takesNumber 29 = .ok (.ifCond .eq 26, 3) := by decide +kernel
theorem d_m_takesNumber_32 : decode b_m_takesNumber 32 = .ok (.iload_n 2, 1) := by decide +kernel
theorem d_m_takesNumber_33 : decode b_m_takesNumber 33 = .ok (.iconst 2, 1) := by decide +kernel
theorem d_m_takesNumber_34 : decode b_m_takesNumber 34 = .ok (.if_icmp .ne 21, 3) := by decide +kernel
theorem d_m_takesNumber_37 : decode b_m_takesNumber 37 = .ok (.aload_n 0, 1) := by decide +kernel
theorem d_m_takesNumber_38 : decode b_m_takesNumber 38 = .ok (.getfield 111, 3) := by decide +kernel
theorem d_m_takesNumber_41 : decode b_m_takesNumber 41 = .ok (.ifCond .ne 14, 3) := by decide +kernel
theorem d_m_takesNumber_44 : decode b_m_takesNumber 44 = .ok (.aload_n 0, 1) := by decide +kernel
theorem d_m_takesNumber_45 : decode b_m_takesNumber 45 = .ok (.invokevirtual 267, 3) := by decide +kernel
theorem d_m_takesNumber_48 : decode b_m_takesNumber 48 = .ok (.bipush 48, 2) := by decide +kernel
theorem d_m_takesNumber_50 : decode b_m_takesNumber 50 = .ok (.if_icmp .ne 5, 3) := by decide +kernel
theorem d_m_takesNumber_53 : decode b_m_takesNumber 53 = .ok (.iconst 0, 1) := by decide +kernel
theorem d_m_takesNumber_54 : decode b_m_takesNumber 54 = .ok (.ireturn, 1) := by decide +kernel
theorem d_m_takesNumber_55 : decode b_m_takesNumber 55 = .ok (.aload_n 0, 1) := by decide +kernel
theorem d_m_takesNumber_56 : decode b_m_takesNumber 56 = .ok (.bipush 10, 2) := by decide +kernel
theorem d_m_takesNumber_58 : decode b_m_takesNumber 58 = .ok (.aload_n 0, 1) := by decide +kernel
theorem d_m_takesNumber_59 : decode b_m_takesNumber 59 = .ok (.getfield 111, 3) := by decide +kernel
theorem d_m_takesNumber_62 : decode b_m_takesNumber 62 = .ok (.imul, 1) := by decide +kernel
theorem d_m_takesNumber_63 : decode b_m_takesNumber 63 = .ok (.aload_n 0, 1) := by decide +kernel
theorem d_m_takesNumber_64 : decode b_m_takesNumber 64 = .ok (.invokevirtual 267, 3) := by decide +kernel
theorem d_m_takesNumber_67 : decode b_m_takesNumber 67 = .ok (.iadd, 1) := by decide +kernel
theorem d_m_takesNumber_68 : decode b_m_takesNumber 68 = .ok (.bipush 48, 2) := by decide +kernel
theorem d_m_takesNumber_70 : decode b_m_takesNumber 70 = .ok (.isub, 1) := by decide +kernel
theorem d_m_takesNumber_71 : decode b_m_takesNumber 71 = .ok (.putfield 111, 3) := by decide +kernel
theorem d_m_takesNumber_74 : decode b_m_takesNumber 74 = .ok (.aload_n 0, 1) := by decide +kernel
theorem d_m_takesNumber_75 : decode b_m_takesNumber 75 = .ok (.dup, 1) := by decide +kernel
theorem d_m_takesNumber_76 : decode b_m_takesNumber 76 = .ok (.getfield 105, 3) := by decide +kernel
theorem d_m_takesNumber_79 : decode b_m_takesNumber 79 = .ok (.iconst 1, 1) := by decide +kernel
theorem d_m_takesNumber_80 : decode b_m_takesNumber 80 = .ok (.iadd, 1) := by decide +kernel
theorem d_m_takesNumber_81 : decode b_m_takesNumber 81 = .ok (.putfield 105, 3) := by decide +kernel
theorem d_m_takesNumber_84 : decode b_m_takesNumber 84 = .ok (.iinc 2 1, 3) := by decide +kernel
theorem d_m_takesNumber_87 : decode b_m_takesNumber 87 = .ok (.goto (-71), 3) := by decide +kernel
theorem d_m_takesNumber_90 : decode b_m_takesNumber 90 = .ok (.iload_n 1, 1) := by decide +kernel
theorem d_m_takesNumber_91 : decode b_m_takesNumber 91 = .ok (.ifCond .eq 10, 3) := by decide +kernel
theorem d_m_takesNumber_94 : decode b_m_takesNumber 94 = .ok (.aload_n 0, 1) := by decide +kernel
theorem d_m_takesNumber_95 : decode b_m_takesNumber 95 = .ok (.getfield 111, 3) := by decide +kernel
theorem d_m_takesNumber_98 : decode b_m_takesNumber 98 = .ok (.ifCond .le 7, 3) := by decide +kernel
theorem d_m_takesNumber_101 : decode b_m_takesNumber 101 = .ok (.iconst 1, 1) := by decide +kernel
theorem d_m_takesNumber_102 : decode b_m_takesNumber 102 = .ok (.goto 4, 3) := by decide +kernel
theorem d_m_takesNumber_105 : decode b_m_takesNumber 105 = .ok (.iconst 0, 1) := by decide +kernel
theorem d_m_takesNumber_106 : decode b_m_takesNumber 106 = .ok (.ireturn, 1) := by decide +kernel
abbrev b_m_push : ByteArray := prog_14_method_22_code
abbrev y_m_push : MethodName := ⟨"WhoRulesModel", "push", "(Z)V"⟩
theorem d_m_push_0 : decode b_m_push 0 = .ok (.iload_n 1, 1) := by decide +kernel
theorem d_m_push_1 : decode b_m_push 1 = .ok (.istore_n 2, 1) := by decide +kernel
theorem d_m_push_2 : decode b_m_push 2 = .ok (.aload_n 0, 1) := by decide +kernel
theorem d_m_push_3 : decode b_m_push 3 = .ok (.getfield 121, 3) := by decide +kernel
theorem d_m_push_6 : decode b_m_push 6 = .ok (.ifCond .le 52, 3) := by decide +kernel
theorem d_m_push_9 : decode b_m_push 9 = .ok (.aload_n 0, 1) := by decide +kernel
theorem d_m_push_10 : decode b_m_push 10 = .ok (.getfield 114, 3) := by decide +kernel
theorem d_m_push_13 : decode b_m_push 13 = .ok (.aload_n 0, 1) := by decide +kernel
theorem d_m_push_14 : decode b_m_push 14 = .ok (.getfield 121, 3) := by decide +kernel
theorem d_m_push_17 : decode b_m_push 17 = .ok (.iconst 1, 1) := by decide +kernel
theorem d_m_push_18 : decode b_m_push 18 = .ok (.isub, 1) := by decide +kernel
theorem d_m_push_19 : decode b_m_push 19 = .ok (.iaload, 1) := by decide +kernel
theorem d_m_push_20 : decode b_m_push 20 = .ok (.bipush 33, 2) := by decide +kernel
theorem d_m_push_22 : decode b_m_push 22 = .ok (.if_icmp .ne 36, 3) := by decide +kernel
theorem d_m_push_25 : decode b_m_push 25 = .ok (.iload_n 2, 1) := by decide +kernel
theorem d_m_push_26 : decode b_m_push 26 = .ok (.ifCond .ne 7, 3) := by decide +kernel
theorem d_m_push_29 : decode b_m_push 29 = .ok (.iconst 1, 1) := by decide +kernel
theorem d_m_push_30 : decode b_m_push 30 = .ok (.goto 4, 3) := by decide +kernel
theorem d_m_push_33 : decode b_m_push 33 = .ok (.iconst 0, 1) := by decide +kernel
theorem d_m_push_34 : decode b_m_push 34 = .ok (.istore_n 2, 1) := by decide +kernel
theorem d_m_push_35 : decode b_m_push 35 = .ok (.aload_n 0, 1) := by decide +kernel
theorem d_m_push_36 : decode b_m_push 36 = .ok (.dup, 1) := by decide +kernel
theorem d_m_push_37 : decode b_m_push 37 = .ok (.getfield 121, 3) := by decide +kernel
theorem d_m_push_40 : decode b_m_push 40 = .ok (.iconst 1, 1) := by decide +kernel
theorem d_m_push_41 : decode b_m_push 41 = .ok (.isub, 1) := by decide +kernel
theorem d_m_push_42 : decode b_m_push 42 = .ok (.putfield 121, 3) := by decide +kernel
theorem d_m_push_45 : decode b_m_push 45 = .ok (.aload_n 0, 1) := by decide +kernel
theorem d_m_push_46 : decode b_m_push 46 = .ok (.dup, 1) := by decide +kernel
theorem d_m_push_47 : decode b_m_push 47 = .ok (.getfield 127, 3) := by decide +kernel
theorem d_m_push_50 : decode b_m_push 50 = .ok (.iconst 1, 1) := by decide +kernel
theorem d_m_push_51 : decode b_m_push 51 = .ok (.isub, 1) := by decide +kernel
theorem d_m_push_52 : decode b_m_push 52 = .ok (.putfield 127, 3) := by decide +kernel
theorem d_m_push_55 : decode b_m_push 55 = .ok (.goto (-53), 3) := by decide +kernel
theorem d_m_push_58 : decode b_m_push 58 = .ok (.aload_n 0, 1) := by decide +kernel
theorem d_m_push_59 : decode b_m_push 59 = .ok (.getfield 117, 3) := by decide +kernel
theorem d_m_push_62 : decode b_m_push 62 = .ok (.aload_n 0, 1) := by decide +kernel
theorem d_m_push_63 : decode b_m_push 63 = .ok (.getfield 124, 3) := by decide +kernel
theorem d_m_push_66 : decode b_m_push 66 = .ok (.iload_n 2, 1) := by decide +kernel
theorem d_m_push_67 : decode b_m_push 67 = .ok (.bastore, 1) := by decide +kernel
theorem d_m_push_68 : decode b_m_push 68 = .ok (.aload_n 0, 1) := by decide +kernel
theorem d_m_push_69 : decode b_m_push 69 = .ok (.dup, 1) := by decide +kernel
theorem d_m_push_70 : decode b_m_push 70 = .ok (.getfield 124, 3) := by decide +kernel
theorem d_m_push_73 : decode b_m_push 73 = .ok (.iconst 1, 1) := by decide +kernel
theorem d_m_push_74 : decode b_m_push 74 = .ok (.iadd, 1) := by decide +kernel
theorem d_m_push_75 : decode b_m_push 75 = .ok (.putfield 124, 3) := by decide +kernel
theorem d_m_push_78 : decode b_m_push 78 = .ok (.return_, 1) := by decide +kernel
abbrev b_m_settle : ByteArray := prog_14_method_23_code
abbrev y_m_settle : MethodName := ⟨"WhoRulesModel", "settle", "(I)V"⟩
theorem d_m_settle_0 : decode b_m_settle 0 = .ok (.aload_n 0, 1) := by decide +kernel
theorem d_m_settle_1 : decode b_m_settle 1 = .ok (.getfield 121, 3) := by decide +kernel
theorem d_m_settle_4 : decode b_m_settle 4 = .ok (.ifCond .le 154, 3) := by decide +kernel
theorem d_m_settle_7 : decode b_m_settle 7 = .ok (.aload_n 0, 1) := by decide +kernel
theorem d_m_settle_8 : decode b_m_settle 8 = .ok (.getfield 114, 3) := by decide +kernel
theorem d_m_settle_11 : decode b_m_settle 11 = .ok (.aload_n 0, 1) := by decide +kernel
theorem d_m_settle_12 : decode b_m_settle 12 = .ok (.getfield 121, 3) := by decide +kernel
theorem d_m_settle_15 : decode b_m_settle 15 = .ok (.iconst 1, 1) := by decide +kernel
theorem d_m_settle_16 : decode b_m_settle 16 = .ok (.isub, 1) := by decide +kernel
theorem d_m_settle_17 : decode b_m_settle 17 = .ok (.iaload, 1) := by decide +kernel
theorem d_m_settle_18 : decode b_m_settle 18 = .ok (.bipush 38, 2) := by decide +kernel
theorem d_m_settle_20 : decode b_m_settle 20 = .ok (.if_icmp .eq 25, 3) := by decide +kernel
theorem d_m_settle_23 : decode b_m_settle 23 = .ok (.aload_n 0, 1) := by decide +kernel
theorem d_m_settle_24 : decode b_m_settle 24 = .ok (.getfield 114, 3) := by decide +kernel
theorem d_m_settle_27 : decode b_m_settle 27 = .ok (.aload_n 0, 1) := by decide +kernel
theorem d_m_settle_28 : decode b_m_settle 28 = .ok (.getfield 121, 3) := by decide +kernel
theorem d_m_settle_31 : decode b_m_settle 31 = .ok (.iconst 1, 1) := by decide +kernel
theorem d_m_settle_32 : decode b_m_settle 32 = .ok (.isub, 1) := by decide +kernel
theorem d_m_settle_33 : decode b_m_settle 33 = .ok (.iaload, 1) := by decide +kernel
theorem d_m_settle_34 : decode b_m_settle 34 = .ok (.bipush 124, 2) := by decide +kernel
theorem d_m_settle_36 : decode b_m_settle 36 = .ok (.if_icmp .ne 122, 3) := by decide +kernel
theorem d_m_settle_39 : decode b_m_settle 39 = .ok (.iload_n 1, 1) := by decide +kernel
theorem d_m_settle_40 : decode b_m_settle 40 = .ok (.bipush 38, 2) := by decide +kernel
theorem d_m_settle_42 : decode b_m_settle 42 = .ok (.if_icmp .eq 116, 3) := by decide +kernel
theorem d_m_settle_45 : decode b_m_settle 45 = .ok (.aload_n 0, 1) := by decide +kernel
theorem d_m_settle_46 : decode b_m_settle 46 = .ok (.dup, 1) := by decide +kernel
theorem d_m_settle_47 : decode b_m_settle 47 = .ok (.getfield 121, 3) := by decide +kernel
theorem d_m_settle_50 : decode b_m_settle 50 = .ok (.iconst 1, 1) := by decide +kernel
theorem d_m_settle_51 : decode b_m_settle 51 = .ok (.isub, 1) := by decide +kernel
theorem d_m_settle_52 : decode b_m_settle 52 = .ok (.putfield 121, 3) := by decide +kernel
theorem d_m_settle_55 : decode b_m_settle 55 = .ok (.aload_n 0, 1) := by decide +kernel
theorem d_m_settle_56 : decode b_m_settle 56 = .ok (.dup, 1) := by decide +kernel
theorem d_m_settle_57 : decode b_m_settle 57 = .ok (.getfield 124, 3) := by decide +kernel
theorem d_m_settle_60 : decode b_m_settle 60 = .ok (.iconst 1, 1) := by decide +kernel
theorem d_m_settle_61 : decode b_m_settle 61 = .ok (.isub, 1) := by decide +kernel
theorem d_m_settle_62 : decode b_m_settle 62 = .ok (.putfield 124, 3) := by decide +kernel
theorem d_m_settle_65 : decode b_m_settle 65 = .ok (.aload_n 0, 1) := by decide +kernel
theorem d_m_settle_66 : decode b_m_settle 66 = .ok (.getfield 117, 3) := by decide +kernel
theorem d_m_settle_69 : decode b_m_settle 69 = .ok (.aload_n 0, 1) := by decide +kernel
theorem d_m_settle_70 : decode b_m_settle 70 = .ok (.getfield 124, 3) := by decide +kernel
theorem d_m_settle_73 : decode b_m_settle 73 = .ok (.iconst 1, 1) := by decide +kernel
theorem d_m_settle_74 : decode b_m_settle 74 = .ok (.isub, 1) := by decide +kernel
theorem d_m_settle_75 : decode b_m_settle 75 = .ok (.aload_n 0, 1) := by decide +kernel
theorem d_m_settle_76 : decode b_m_settle 76 = .ok (.getfield 114, 3) := by decide +kernel
theorem d_m_settle_79 : decode b_m_settle 79 = .ok (.aload_n 0, 1) := by decide +kernel
theorem d_m_settle_80 : decode b_m_settle 80 = .ok (.getfield 121, 3) := by decide +kernel
theorem d_m_settle_83 : decode b_m_settle 83 = .ok (.iaload, 1) := by decide +kernel
theorem d_m_settle_84 : decode b_m_settle 84 = .ok (.bipush 38, 2) := by decide +kernel
theorem d_m_settle_86 : decode b_m_settle 86 = .ok (.if_icmp .ne 37, 3) := by decide +kernel
theorem d_m_settle_89 : decode b_m_settle 89 = .ok (.aload_n 0, 1) := by decide +kernel
theorem d_m_settle_90 : decode b_m_settle 90 = .ok (.getfield 117, 3) := by decide +kernel
theorem d_m_settle_93 : decode b_m_settle 93 = .ok (.aload_n 0, 1) := by decide +kernel
theorem d_m_settle_94 : decode b_m_settle 94 = .ok (.getfield 124, 3) := by decide +kernel
theorem d_m_settle_97 : decode b_m_settle 97 = .ok (.iconst 1, 1) := by decide +kernel
theorem d_m_settle_98 : decode b_m_settle 98 = .ok (.isub, 1) := by decide +kernel
theorem d_m_settle_99 : decode b_m_settle 99 = .ok (.baload, 1) := by decide +kernel
theorem d_m_settle_100 : decode b_m_settle 100 = .ok (.ifCond .eq 19, 3) := by decide +kernel
theorem d_m_settle_103 : decode b_m_settle 103 = .ok (.aload_n 0, 1) := by decide +kernel
theorem d_m_settle_104 : decode b_m_settle 104 = .ok (.getfield 117, 3) := by decide +kernel
theorem d_m_settle_107 : decode b_m_settle 107 = .ok (.aload_n 0, 1) := by decide +kernel
theorem d_m_settle_108 : decode b_m_settle 108 = .ok (.getfield 124, 3) := by decide +kernel
theorem d_m_settle_111 : decode b_m_settle 111 = .ok (.baload, 1) := by decide +kernel
theorem d_m_settle_112 : decode b_m_settle 112 = .ok (.ifCond .eq 7, 3) := by decide +kernel
theorem d_m_settle_115 : decode b_m_settle 115 = .ok (.iconst 1, 1) := by decide +kernel
theorem d_m_settle_116 : decode b_m_settle 116 = .ok (.goto 38, 3) := by decide +kernel
theorem d_m_settle_119 : decode b_m_settle 119 = .ok (.iconst 0, 1) := by decide +kernel
theorem d_m_settle_120 : decode b_m_settle 120 = .ok (.goto 34, 3) := by decide +kernel
theorem d_m_settle_123 : decode b_m_settle 123 = .ok (.aload_n 0, 1) := by decide +kernel
theorem d_m_settle_124 : decode b_m_settle 124 = .ok (.getfield 117, 3) := by decide +kernel
theorem d_m_settle_127 : decode b_m_settle 127 = .ok (.aload_n 0, 1) := by decide +kernel
theorem d_m_settle_128 : decode b_m_settle 128 = .ok (.getfield 124, 3) := by decide +kernel
theorem d_m_settle_131 : decode b_m_settle 131 = .ok (.iconst 1, 1) := by decide +kernel
theorem d_m_settle_132 : decode b_m_settle 132 = .ok (.isub, 1) := by decide +kernel
theorem d_m_settle_133 : decode b_m_settle 133 = .ok (.baload, 1) := by decide +kernel
theorem d_m_settle_134 : decode b_m_settle 134 = .ok (.ifCond .ne 15, 3) := by decide +kernel
theorem d_m_settle_137 : decode b_m_settle 137 = .ok (.aload_n 0, 1) := by decide +kernel
theorem d_m_settle_138 : decode b_m_settle 138 = .ok (.getfield 117, 3) := by decide +kernel
theorem d_m_settle_141 : decode b_m_settle 141 = .ok (.aload_n 0, 1) := by decide +kernel
theorem d_m_settle_142 : decode b_m_settle 142 = .ok (.getfield 124, 3) := by decide +kernel
theorem d_m_settle_145 : decode b_m_settle 145 = .ok (.baload, 1) := by decide +kernel
theorem d_m_settle_146 : decode b_m_settle 146 = .ok (.ifCond .eq 7, 3) := by decide +kernel
theorem d_m_settle_149 : decode b_m_settle 149 = .ok (.iconst 1, 1) := by decide +kernel
theorem d_m_settle_150 : decode b_m_settle 150 = .ok (.goto 4, 3) := by decide +kernel
theorem d_m_settle_153 : decode b_m_settle 153 = .ok (.iconst 0, 1) := by decide +kernel
theorem d_m_settle_154 : decode b_m_settle 154 = .ok (.bastore, 1) := by decide +kernel
theorem d_m_settle_155 : decode b_m_settle 155 = .ok (.goto (-155), 3) := by decide +kernel
theorem d_m_settle_158 : decode b_m_settle 158 = .ok (.return_, 1) := by decide +kernel
abbrev b_m_takesTest : ByteArray := prog_14_method_24_code
abbrev y_m_takesTest : MethodName := ⟨"WhoRulesModel", "takesTest", "()Z"⟩
theorem d_m_takesTest_0 : decode b_m_takesTest 0 = .ok (.aload_n 0, 1) := by decide +kernel
theorem d_m_takesTest_1 : decode b_m_takesTest 1 = .ok (.invokevirtual 267, 3) := by decide +kernel
theorem d_m_takesTest_4 : decode b_m_takesTest 4 = .ok (.istore_n 1, 1) := by decide +kernel
theorem d_m_takesTest_5 : decode b_m_takesTest 5 = .ok (.iload_n 1, 1) := by decide +kernel
theorem d_m_takesTest_6 : decode b_m_takesTest 6 = .ok (.bipush 107, 2) := by decide +kernel
theorem d_m_takesTest_8 : decode b_m_takesTest 8 = .ok (.if_icmp .ne 7, 3) := by decide +kernel
theorem d_m_takesTest_11 : decode b_m_takesTest 11 = .ok (.iconst 0, 1) := by decide +kernel
theorem d_m_takesTest_12 : decode b_m_takesTest 12 = .ok (.goto 44, 3) := by decide +kernel
theorem d_m_takesTest_15 : decode b_m_takesTest 15 = .ok (.iload_n 1, 1) := by decide +kernel
theorem d_m_takesTest_16 : decode b_m_takesTest 16 = .ok (.bipush 104, 2) := by decide +kernel
theorem d_m_takesTest_18 : decode b_m_takesTest 18 = .ok (.if_icmp .ne 7, 3) := by decide +kernel
theorem d_m_takesTest_21 : decode b_m_takesTest 21 = .ok (.iconst 1, 1) := by decide +kernel
theorem d_m_takesTest_22 : decode b_m_takesTest 22 = .ok (.goto 34, 3) := by decide +kernel
theorem d_m_takesTest_25 : decode b_m_takesTest 25 = .ok (.iload_n 1, 1) := by decide +kernel
theorem d_m_takesTest_26 : decode b_m_takesTest 26 = .ok (.bipush 100, 2) := by decide +kernel
theorem d_m_takesTest_28 : decode b_m_takesTest 28 = .ok (.if_icmp .ne 7, 3) := by decide +kernel
theorem d_m_takesTest_31 : decode b_m_takesTest 31 = .ok (.iconst 2, 1) := by decide +kernel
theorem d_m_takesTest_32 : decode b_m_takesTest 32 = .ok (.goto 24, 3) := by decide +kernel
theorem d_m_takesTest_35 : decode b_m_takesTest 35 = .ok (.iload_n 1, 1) := by decide +kernel
theorem d_m_takesTest_36 : decode b_m_takesTest 36 = .ok (.bipush 112, 2) := by decide +kernel
theorem d_m_takesTest_38 : decode b_m_takesTest 38 = .ok (.if_icmp .ne 7, 3) := by decide +kernel
theorem d_m_takesTest_41 : decode b_m_takesTest 41 = .ok (.iconst 3, 1) := by decide +kernel
theorem d_m_takesTest_42 : decode b_m_takesTest 42 = .ok (.goto 14, 3) := by decide +kernel
theorem d_m_takesTest_45 : decode b_m_takesTest 45 = .ok (.iload_n 1, 1) := by decide +kernel
theorem d_m_takesTest_46 : decode b_m_takesTest 46 = .ok (.bipush 118, 2) := by decide +kernel
theorem d_m_takesTest_48 : decode b_m_takesTest 48 = .ok (.if_icmp .ne 7, 3) := by decide +kernel
theorem d_m_takesTest_51 : decode b_m_takesTest 51 = .ok (.iconst 4, 1) := by decide +kernel
theorem d_m_takesTest_52 : decode b_m_takesTest 52 = .ok (.goto 4, 3) := by decide +kernel
theorem d_m_takesTest_55 : decode b_m_takesTest 55 = .ok (.iconst (-1), 1) := by decide +kernel
theorem d_m_takesTest_56 : decode b_m_takesTest 56 = .ok (.istore_n 2, 1) := by decide +kernel
theorem d_m_takesTest_57 : decode b_m_takesTest 57 = .ok (.iload_n 2, 1) := by decide +kernel
theorem d_m_takesTest_58 : decode b_m_takesTest 58 = .ok (.ifCond .ge 5, 3) := by decide +kernel
theorem d_m_takesTest_61 : decode b_m_takesTest 61 = .ok (.iconst 0, 1) := by decide +kernel
theorem d_m_takesTest_62 : decode b_m_takesTest 62 = .ok (.ireturn, 1) := by decide +kernel
theorem d_m_takesTest_63 : decode b_m_takesTest 63 = .ok (.aload_n 0, 1) := by decide +kernel
theorem d_m_takesTest_64 : decode b_m_takesTest 64 = .ok (.dup, 1) := by decide +kernel
theorem d_m_takesTest_65 : decode b_m_takesTest 65 = .ok (.getfield 105, 3) := by decide +kernel
theorem d_m_takesTest_68 : decode b_m_takesTest 68 = .ok (.iconst 1, 1) := by decide +kernel
theorem d_m_takesTest_69 : decode b_m_takesTest 69 = .ok (.iadd, 1) := by decide +kernel
theorem d_m_takesTest_70 : decode b_m_takesTest 70 = .ok (.putfield 105, 3) := by decide +kernel
theorem d_m_takesTest_73 : decode b_m_takesTest 73 = .ok (.aload_n 0, 1) := by decide +kernel
theorem d_m_takesTest_74 : decode b_m_takesTest 74 = .ok (.invokevirtual 267, 3) := by decide +kernel
theorem d_m_takesTest_77 : decode b_m_takesTest 77 = .ok (.istore_n 3, 1) := by decide +kernel
theorem d_m_takesTest_78 : decode b_m_takesTest 78 = .ok (.aload_n 0, 1) := by decide +kernel
theorem d_m_takesTest_79 : decode b_m_takesTest 79 = .ok (.iload_n 3, 1) := by decide +kernel
theorem d_m_takesTest_80 : decode b_m_takesTest 80 = .ok (.bipush 60, 2) := by decide +kernel
theorem d_m_takesTest_82 : decode b_m_takesTest 82 = .ok (.bipush 62, 2) := by decide +kernel
theorem d_m_takesTest_84 : decode b_m_takesTest 84 = .ok (.invokevirtual 246, 3) := by decide +kernel
theorem d_m_takesTest_87 : decode b_m_takesTest 87 = .ok (.ifCond .ne 5, 3) := by decide +kernel
theorem d_m_takesTest_90 : decode b_m_takesTest 90 = .ok (.iconst 0, 1) := by decide +kernel
theorem d_m_takesTest_91 : decode b_m_takesTest 91 = .ok (.ireturn, 1) := by decide +kernel
theorem d_m_takesTest_92 : decode b_m_takesTest 92 = .ok (.aload_n 0, 1) := by decide +kernel
theorem d_m_takesTest_93 : decode b_m_takesTest 93 = .ok (.dup, 1) := by decide +kernel
theorem d_m_takesTest_94 : decode b_m_takesTest 94 = .ok (.getfield 105, 3) := by decide +kernel
theorem d_m_takesTest_97 : decode b_m_takesTest 97 = .ok (.iconst 1, 1) := by decide +kernel
theorem d_m_takesTest_98 : decode b_m_takesTest 98 = .ok (.iadd, 1) := by decide +kernel
theorem d_m_takesTest_99 : decode b_m_takesTest 99 = .ok (.putfield 105, 3) := by decide +kernel
theorem d_m_takesTest_102 : decode b_m_takesTest 102 = .ok (.aload_n 0, 1) := by decide +kernel
theorem d_m_takesTest_103 : decode b_m_takesTest 103 = .ok (.iconst 0, 1) := by decide +kernel
theorem d_m_takesTest_104 : decode b_m_takesTest 104 = .ok (.invokevirtual 278, 3) := by decide +kernel
theorem d_m_takesTest_107 : decode b_m_takesTest 107 = .ok (.ifCond .ne 5, 3) := by decide +kernel
theorem d_m_takesTest_110 : decode b_m_takesTest 110 = .ok (.iconst 0, 1) := by decide +kernel
theorem d_m_takesTest_111 : decode b_m_takesTest 111 = .ok (.ireturn, 1) := by decide +kernel
theorem d_m_takesTest_112 : decode b_m_takesTest 112 = .ok (.aload_n 0, 1) := by decide +kernel
theorem d_m_takesTest_113 : decode b_m_takesTest 113 = .ok (.iload_n 3, 1) := by decide +kernel
theorem d_m_takesTest_114 : decode b_m_takesTest 114 = .ok (.bipush 60, 2) := by decide +kernel
theorem d_m_takesTest_116 : decode b_m_takesTest 116 = .ok (.if_icmp .ne 24, 3) := by decide +kernel
theorem d_m_takesTest_119 : decode b_m_takesTest 119 = .ok (.aload_n 0, 1) := by decide +kernel
theorem d_m_takesTest_120 : decode b_m_takesTest 120 = .ok (.getfield 83, 3) := by decide +kernel
theorem d_m_takesTest_123 : decode b_m_takesTest 123 = .ok (.iload_n 2, 1) := by decide +kernel
theorem d_m_takesTest_124 : decode b_m_takesTest 124 = .ok (.iaload, 1) := by decide +kernel
theorem d_m_takesTest_125 : decode b_m_takesTest 125 = .ok (.aload_n 0, 1) := by decide +kernel
theorem d_m_takesTest_126 : decode b_m_takesTest 126 = .ok (.getfield 111, 3) := by decide +kernel
theorem d_m_takesTest_129 : decode b_m_takesTest 129 = .ok (.if_icmp .ge 7, 3) := by decide +kernel
theorem d_m_takesTest_132 : decode b_m_takesTest 132 = .ok (.iconst 1, 1) := by decide +kernel
theorem d_m_takesTest_133 : decode b_m_takesTest 133 = .ok (.goto 52, 3) := by decide +kernel
theorem d_m_takesTest_136 : decode b_m_takesTest 136 = .ok (.iconst 0, 1) := by decide +kernel
theorem d_m_takesTest_137 : decode b_m_takesTest 137 = .ok (.goto 48, 3) := by decide +kernel
theorem d_m_takesTest_140 : decode b_m_takesTest 140 = .ok (.iload_n 3, 1) := by decide +kernel
theorem d_m_takesTest_141 : decode b_m_takesTest 141 = .ok (.bipush 61, 2) := by decide +kernel
theorem d_m_takesTest_143 : decode b_m_takesTest 143 = .ok (.if_icmp .ne 24, 3) := by decide +kernel
theorem d_m_takesTest_146 : decode b_m_takesTest 146 = .ok (.aload_n 0, 1) := by decide +kernel
theorem d_m_takesTest_147 : decode b_m_takesTest 147 = .ok (.getfield 83, 3) := by decide +kernel
theorem d_m_takesTest_150 : decode b_m_takesTest 150 = .ok (.iload_n 2, 1) := by decide +kernel
theorem d_m_takesTest_151 : decode b_m_takesTest 151 = .ok (.iaload, 1) := by decide +kernel
theorem d_m_takesTest_152 : decode b_m_takesTest 152 = .ok (.aload_n 0, 1) := by decide +kernel
theorem d_m_takesTest_153 : decode b_m_takesTest 153 = .ok (.getfield 111, 3) := by decide +kernel
theorem d_m_takesTest_156 : decode b_m_takesTest 156 = .ok (.if_icmp .ne 7, 3) := by decide +kernel
theorem d_m_takesTest_159 : decode b_m_takesTest 159 = .ok (.iconst 1, 1) := by decide +kernel
theorem d_m_takesTest_160 : decode b_m_takesTest 160 = .ok (.goto 25, 3) := by decide +kernel
theorem d_m_takesTest_163 : decode b_m_takesTest 163 = .ok (.iconst 0, 1) := by decide +kernel
theorem d_m_takesTest_164 : decode b_m_takesTest 164 = .ok (.goto 21, 3) := by decide +kernel
theorem d_m_takesTest_167 : decode b_m_takesTest 167 = .ok (.aload_n 0, 1) := by decide +kernel
theorem d_m_takesTest_168 : decode b_m_takesTest 168 = .ok (.getfield 83, 3) := by decide +kernel
theorem d_m_takesTest_171 : decode b_m_takesTest 171 = .ok (.iload_n 2, 1) := by decide +kernel
theorem d_m_takesTest_172 : decode b_m_takesTest 172 = .ok (.iaload, 1) := by decide +kernel
theorem d_m_takesTest_173 : decode b_m_takesTest 173 = .ok (.aload_n 0, 1) := by decide +kernel
theorem d_m_takesTest_174 : decode b_m_takesTest 174 = .ok (.getfield 111, 3) := by decide +kernel
theorem d_m_takesTest_177 : decode b_m_takesTest 177 = .ok (.if_icmp .le 7, 3) := by decide +kernel
theorem d_m_takesTest_180 : decode b_m_takesTest 180 = .ok (.iconst 1, 1) := by decide +kernel
theorem d_m_takesTest_181 : decode b_m_takesTest 181 = .ok (.goto 4, 3) := by decide +kernel
theorem d_m_takesTest_184 : decode b_m_takesTest 184 = .ok (.iconst 0, 1) := by decide +kernel
theorem d_m_takesTest_185 : decode b_m_takesTest 185 = .ok (.invokevirtual 282, 3) := by decide +kernel
theorem d_m_takesTest_188 : decode b_m_takesTest 188 = .ok (.iconst 1, 1) := by decide +kernel
theorem d_m_takesTest_189 : decode b_m_takesTest 189 = .ok (.ireturn, 1) := by decide +kernel
abbrev b_m_takesE : ByteArray := prog_14_method_25_code
abbrev y_m_takesE : MethodName := ⟨"WhoRulesModel", "takesE", "()Z"⟩
theorem d_m_takesE_0 : decode b_m_takesE 0 = .ok (.aload_n 0, 1) := by decide +kernel
theorem d_m_takesE_1 : decode b_m_takesE 1 = .ok (.iconst 0, 1) := by decide +kernel
theorem d_m_takesE_2 : decode b_m_takesE 2 = .ok (.putfield 121, 3) := by decide +kernel
theorem d_m_takesE_5 : decode b_m_takesE 5 = .ok (.aload_n 0, 1) := by decide +kernel
theorem d_m_takesE_6 : decode b_m_takesE 6 = .ok (.iconst 0, 1) := by decide +kernel
theorem d_m_takesE_7 : decode b_m_takesE 7 = .ok (.putfield 124, 3) := by decide +kernel
theorem d_m_takesE_10 : decode b_m_takesE 10 = .ok (.aload_n 0, 1) := by decide +kernel
theorem d_m_takesE_11 : decode b_m_takesE 11 = .ok (.iconst 0, 1) := by decide +kernel
theorem d_m_takesE_12 : decode b_m_takesE 12 = .ok (.putfield 127, 3) := by decide +kernel
theorem d_m_takesE_15 : decode b_m_takesE 15 = .ok (.iconst 1, 1) := by decide +kernel
theorem d_m_takesE_16 : decode b_m_takesE 16 = .ok (.istore_n 1, 1) := by decide +kernel
theorem d_m_takesE_17 : decode b_m_takesE 17 = .ok (.aload_n 0, 1) := by decide +kernel
theorem d_m_takesE_18 : decode b_m_takesE 18 = .ok (.invokevirtual 267, 3) := by decide +kernel
theorem d_m_takesE_21 : decode b_m_takesE 21 = .ok (.istore_n 2, 1) := by decide +kernel
theorem d_m_takesE_22 : decode b_m_takesE 22 = .ok (.iload_n 1, 1) := by decide +kernel
theorem d_m_takesE_23 : decode b_m_takesE 23 = .ok (.ifCond .eq 82, 3) := by decide +kernel
theorem d_m_takesE_26 : decode b_m_takesE 26 = .ok (.iload_n 2, 1) := by decide +kernel
theorem d_m_takesE_27 : decode b_m_takesE 27 = .ok (.bipush 33, 2) := by decide +kernel
theorem d_m_takesE_29 : decode b_m_takesE 29 = .ok (.if_icmp .eq 9, 3) := by decide +kernel
theorem d_m_takesE_32 : decode b_m_takesE 32 = .ok (.iload_n 2, 1) := by decide +kernel
theorem d_m_takesE_33 : decode b_m_takesE 33 = .ok (.bipush 40, 2) := by decide +kernel
theorem d_m_takesE_35 : decode b_m_takesE 35 = .ok (.if_icmp .ne 56, 3) := by decide +kernel
theorem d_m_takesE_38 : decode b_m_takesE 38 = .ok (.aload_n 0, 1) := by decide +kernel
theorem d_m_takesE_39 : decode b_m_takesE 39 = .ok (.getfield 127, 3) := by decide +kernel
theorem d_m_takesE_42 : decode b_m_takesE 42 = .ok (.iconst 4, 1) := by decide +kernel
theorem d_m_takesE_43 : decode b_m_takesE 43 = .ok (.if_icmp .ne 5, 3) := by decide +kernel
theorem d_m_takesE_46 : decode b_m_takesE 46 = .ok (.iconst 0, 1) := by decide +kernel
theorem d_m_takesE_47 : decode b_m_takesE 47 = .ok (.ireturn, 1) := by decide +kernel
theorem d_m_takesE_48 : decode b_m_takesE 48 = .ok (.aload_n 0, 1) := by decide +kernel
theorem d_m_takesE_49 : decode b_m_takesE 49 = .ok (.dup, 1) := by decide +kernel
theorem d_m_takesE_50 : decode b_m_takesE 50 = .ok (.getfield 127, 3) := by decide +kernel
theorem d_m_takesE_53 : decode b_m_takesE 53 = .ok (.iconst 1, 1) := by decide +kernel
theorem d_m_takesE_54 : decode b_m_takesE 54 = .ok (.iadd, 1) := by decide +kernel
theorem d_m_takesE_55 : decode b_m_takesE 55 = .ok (.putfield 127, 3) := by decide +kernel
theorem d_m_takesE_58 : decode b_m_takesE 58 = .ok (.aload_n 0, 1) := by decide +kernel
theorem d_m_takesE_59 : decode b_m_takesE 59 = .ok (.getfield 114, 3) := by decide +kernel
theorem d_m_takesE_62 : decode b_m_takesE 62 = .ok (.aload_n 0, 1) := by decide +kernel
theorem d_m_takesE_63 : decode b_m_takesE 63 = .ok (.getfield 121, 3) := by decide +kernel
theorem d_m_takesE_66 : decode b_m_takesE 66 = .ok (.iload_n 2, 1) := by decide +kernel
theorem d_m_takesE_67 : decode b_m_takesE 67 = .ok (.iastore, 1) := by decide +kernel
theorem d_m_takesE_68 : decode b_m_takesE 68 = .ok (.aload_n 0, 1) := by decide +kernel
theorem d_m_takesE_69 : decode b_m_takesE 69 = .ok (.dup, 1) := by decide +kernel
theorem d_m_takesE_70 : decode b_m_takesE 70 = .ok (.getfield 121, 3) := by decide +kernel
theorem d_m_takesE_73 : decode b_m_takesE 73 = .ok (.iconst 1, 1) := by decide +kernel
theorem d_m_takesE_74 : decode b_m_takesE 74 = .ok (.iadd, 1) := by decide +kernel
theorem d_m_takesE_75 : decode b_m_takesE 75 = .ok (.putfield 121, 3) := by decide +kernel
theorem d_m_takesE_78 : decode b_m_takesE 78 = .ok (.aload_n 0, 1) := by decide +kernel
theorem d_m_takesE_79 : decode b_m_takesE 79 = .ok (.dup, 1) := by decide +kernel
theorem d_m_takesE_80 : decode b_m_takesE 80 = .ok (.getfield 105, 3) := by decide +kernel
theorem d_m_takesE_83 : decode b_m_takesE 83 = .ok (.iconst 1, 1) := by decide +kernel
theorem d_m_takesE_84 : decode b_m_takesE 84 = .ok (.iadd, 1) := by decide +kernel
theorem d_m_takesE_85 : decode b_m_takesE 85 = .ok (.putfield 105, 3) := by decide +kernel
theorem d_m_takesE_88 : decode b_m_takesE 88 = .ok (.goto (-71), 3) := by decide +kernel
theorem d_m_takesE_91 : decode b_m_takesE 91 = .ok (.aload_n 0, 1) := by decide +kernel
theorem d_m_takesE_92 : decode b_m_takesE 92 = .ok (.invokevirtual 286, 3) := by decide +kernel
theorem d_m_takesE_95 : decode b_m_takesE 95 = .ok (.ifCond .eq 8, 3) := by decide +kernel
theorem d_m_takesE_98 : decode b_m_takesE 98 = .ok (.iconst 0, 1) := by decide +kernel
theorem d_m_takesE_99 : decode b_m_takesE 99 = .ok (.istore_n 1, 1) := by decide +kernel
theorem d_m_takesE_100 : decode b_m_takesE 100 = .ok (.goto (-83), 3) := by decide +kernel
theorem d_m_takesE_103 : decode b_m_takesE 103 = .ok (.iconst 0, 1) := by decide +kernel
theorem d_m_takesE_104 : decode b_m_takesE 104 = .ok (.ireturn, 1) := by decide +kernel
theorem d_m_takesE_105 : decode b_m_takesE 105 = .ok (.iload_n 2, 1) := by decide +kernel
theorem d_m_takesE_106 : decode b_m_takesE 106 = .ok (.bipush 38, 2) := by decide +kernel
theorem d_m_takesE_108 : decode b_m_takesE 108 = .ok (.if_icmp .eq 9, 3) := by decide +kernel
theorem d_m_takesE_111 : decode b_m_takesE 111 = .ok (.iload_n 2, 1) := by decide +kernel
theorem d_m_takesE_112 : decode b_m_takesE 112 = .ok (.bipush 124, 2) := by decide +kernel
theorem d_m_takesE_114 : decode b_m_takesE 114 = .ok (.if_icmp .ne 43, 3) := by decide +kernel
theorem d_m_takesE_117 : decode b_m_takesE 117 = .ok (.aload_n 0, 1) := by decide +kernel
theorem d_m_takesE_118 : decode b_m_takesE 118 = .ok (.iload_n 2, 1) := by decide +kernel
theorem d_m_takesE_119 : decode b_m_takesE 119 = .ok (.invokevirtual 289, 3) := by decide +kernel
theorem d_m_takesE_122 : decode b_m_takesE 122 = .ok (.aload_n 0, 1) := by decide +kernel
theorem d_m_takesE_123 : decode b_m_takesE 123 = .ok (.getfield 114, 3) := by decide +kernel
theorem d_m_takesE_126 : decode b_m_takesE 126 = .ok (.aload_n 0, 1) := by decide +kernel
theorem d_m_takesE_127 : decode b_m_takesE 127 = .ok (.getfield 121, 3) := by decide +kernel
theorem d_m_takesE_130 : decode b_m_takesE 130 = .ok (.iload_n 2, 1) := by decide +kernel
theorem d_m_takesE_131 : decode b_m_takesE 131 = .ok (.iastore, 1) := by decide +kernel
theorem d_m_takesE_132 : decode b_m_takesE 132 = .ok (.aload_n 0, 1) := by decide +kernel
theorem d_m_takesE_133 : decode b_m_takesE 133 = .ok (.dup, 1) := by decide +kernel
theorem d_m_takesE_134 : decode b_m_takesE 134 = .ok (.getfield 121, 3) := by decide +kernel
theorem d_m_takesE_137 : decode b_m_takesE 137 = .ok (.iconst 1, 1) := by decide +kernel
theorem d_m_takesE_138 : decode b_m_takesE 138 = .ok (.iadd, 1) := by decide +kernel
theorem d_m_takesE_139 : decode b_m_takesE 139 = .ok (.putfield 121, 3) := by decide +kernel
theorem d_m_takesE_142 : decode b_m_takesE 142 = .ok (.iconst 1, 1) := by decide +kernel
theorem d_m_takesE_143 : decode b_m_takesE 143 = .ok (.istore_n 1, 1) := by decide +kernel
theorem d_m_takesE_144 : decode b_m_takesE 144 = .ok (.aload_n 0, 1) := by decide +kernel
theorem d_m_takesE_145 : decode b_m_takesE 145 = .ok (.dup, 1) := by decide +kernel
theorem d_m_takesE_146 : decode b_m_takesE 146 = .ok (.getfield 105, 3) := by decide +kernel
theorem d_m_takesE_149 : decode b_m_takesE 149 = .ok (.iconst 1, 1) := by decide +kernel
theorem d_m_takesE_150 : decode b_m_takesE 150 = .ok (.iadd, 1) := by decide +kernel
theorem d_m_takesE_151 : decode b_m_takesE 151 = .ok (.putfield 105, 3) := by decide +kernel
theorem d_m_takesE_154 : decode b_m_takesE 154 = .ok (.goto (-137), 3) := by decide +kernel
theorem d_m_takesE_157 : decode b_m_takesE 157 = .ok (.aload_n 0, 1) := by decide +kernel
theorem d_m_takesE_158 : decode b_m_takesE 158 = .ok (.bipush 124, 2) := by decide +kernel
theorem d_m_takesE_160 : decode b_m_takesE 160 = .ok (.invokevirtual 289, 3) := by decide +kernel
theorem d_m_takesE_163 : decode b_m_takesE 163 = .ok (.aload_n 0, 1) := by decide +kernel
theorem d_m_takesE_164 : decode b_m_takesE 164 = .ok (.getfield 121, 3) := by decide +kernel
theorem d_m_takesE_167 : decode b_m_takesE 167 = .ok (.ifCond .ne 5, 3) := by decide +kernel
theorem d_m_takesE_170 : decode b_m_takesE 170 = .ok (.iconst 1, 1) := by decide +kernel
theorem d_m_takesE_171 : decode b_m_takesE 171 = .ok (.ireturn, 1) := by decide +kernel
theorem d_m_takesE_172 : decode b_m_takesE 172 = .ok (.iload_n 2, 1) := by decide +kernel
theorem d_m_takesE_173 : decode b_m_takesE 173 = .ok (.bipush 41, 2) := by decide +kernel
theorem d_m_takesE_175 : decode b_m_takesE 175 = .ok (.if_icmp .eq 5, 3) := by decide +kernel
theorem d_m_takesE_178 : decode b_m_takesE 178 = .ok (.iconst 0, 1) := by decide +kernel
theorem d_m_takesE_179 : decode b_m_takesE 179 = .ok (.ireturn, 1) := by decide +kernel
theorem d_m_takesE_180 : decode b_m_takesE 180 = .ok (.aload_n 0, 1) := by decide +kernel
theorem d_m_takesE_181 : decode b_m_takesE 181 = .ok (.dup, 1) := by decide +kernel
theorem d_m_takesE_182 : decode b_m_takesE 182 = .ok (.getfield 121, 3) := by decide +kernel
theorem d_m_takesE_185 : decode b_m_takesE 185 = .ok (.iconst 1, 1) := by decide +kernel
theorem d_m_takesE_186 : decode b_m_takesE 186 = .ok (.isub, 1) := by decide +kernel
theorem d_m_takesE_187 : decode b_m_takesE 187 = .ok (.putfield 121, 3) := by decide +kernel
theorem d_m_takesE_190 : decode b_m_takesE 190 = .ok (.aload_n 0, 1) := by decide +kernel
theorem d_m_takesE_191 : decode b_m_takesE 191 = .ok (.dup, 1) := by decide +kernel
theorem d_m_takesE_192 : decode b_m_takesE 192 = .ok (.getfield 127, 3) := by decide +kernel
theorem d_m_takesE_195 : decode b_m_takesE 195 = .ok (.iconst 1, 1) := by decide +kernel
theorem d_m_takesE_196 : decode b_m_takesE 196 = .ok (.isub, 1) := by decide +kernel
theorem d_m_takesE_197 : decode b_m_takesE 197 = .ok (.putfield 127, 3) := by decide +kernel
theorem d_m_takesE_200 : decode b_m_takesE 200 = .ok (.aload_n 0, 1) := by decide +kernel
theorem d_m_takesE_201 : decode b_m_takesE 201 = .ok (.dup, 1) := by decide +kernel
theorem d_m_takesE_202 : decode b_m_takesE 202 = .ok (.getfield 124, 3) := by decide +kernel
theorem d_m_takesE_205 : decode b_m_takesE 205 = .ok (.iconst 1, 1) := by decide +kernel
theorem d_m_takesE_206 : decode b_m_takesE 206 = .ok (.isub, 1) := by decide +kernel
theorem d_m_takesE_207 : decode b_m_takesE 207 = .ok (.putfield 124, 3) := by decide +kernel
theorem d_m_takesE_210 : decode b_m_takesE 210 = .ok (.aload_n 0, 1) := by decide +kernel
theorem d_m_takesE_211 : decode b_m_takesE 211 = .ok (.dup, 1) := by decide +kernel
theorem d_m_takesE_212 : decode b_m_takesE 212 = .ok (.getfield 105, 3) := by decide +kernel
theorem d_m_takesE_215 : decode b_m_takesE 215 = .ok (.iconst 1, 1) := by decide +kernel
theorem d_m_takesE_216 : decode b_m_takesE 216 = .ok (.iadd, 1) := by decide +kernel
theorem d_m_takesE_217 : decode b_m_takesE 217 = .ok (.putfield 105, 3) := by decide +kernel
theorem d_m_takesE_220 : decode b_m_takesE 220 = .ok (.aload_n 0, 1) := by decide +kernel
theorem d_m_takesE_221 : decode b_m_takesE 221 = .ok (.aload_n 0, 1) := by decide +kernel
theorem d_m_takesE_222 : decode b_m_takesE 222 = .ok (.getfield 117, 3) := by decide +kernel
theorem d_m_takesE_225 : decode b_m_takesE 225 = .ok (.aload_n 0, 1) := by decide +kernel
theorem d_m_takesE_226 : decode b_m_takesE 226 = .ok (.getfield 124, 3) := by decide +kernel
theorem d_m_takesE_229 : decode b_m_takesE 229 = .ok (.baload, 1) := by decide +kernel
theorem d_m_takesE_230 : decode b_m_takesE 230 = .ok (.invokevirtual 282, 3) := by decide +kernel
theorem d_m_takesE_233 : decode b_m_takesE 233 = .ok (.goto (-216), 3) := by decide +kernel
abbrev b_m_says : ByteArray := prog_14_method_26_code
abbrev y_m_says : MethodName := ⟨"WhoRulesModel", "says", "(I)Z"⟩
theorem d_m_says_0 : decode b_m_says 0 = .ok (.aload_n 0, 1) := by decide +kernel
theorem d_m_says_1 : decode b_m_says 1 = .ok (.getfield 111, 3) := by decide +kernel
theorem d_m_says_4 : decode b_m_says 4 = .ok (.istore_n 2, 1) := by decide +kernel
theorem d_m_says_5 : decode b_m_says 5 = .ok (.iload_n 1, 1) := by decide +kernel
theorem d_m_says_6 : decode b_m_says 6 = .ok (.ifCond .eq 8, 3) := by decide +kernel
theorem d_m_says_9 : decode b_m_says 9 = .ok (.iload_n 1, 1) := by decide +kernel
theorem d_m_says_10 : decode b_m_says 10 = .ok (.iconst 2, 1) := by decide +kernel
theorem d_m_says_11 : decode b_m_says 11 = .ok (.if_icmp .ne 30, 3) := by decide +kernel
theorem d_m_says_14 : decode b_m_says 14 = .ok (.aload_n 0, 1) := by decide +kernel
theorem d_m_says_15 : decode b_m_says 15 = .ok (.bipush 32, 2) := by decide +kernel
theorem d_m_says_17 : decode b_m_says 17 = .ok (.invokevirtual 271, 3) := by decide +kernel
theorem d_m_says_20 : decode b_m_says 20 = .ok (.ifCond .eq 19, 3) := by decide +kernel
theorem d_m_says_23 : decode b_m_says 23 = .ok (.aload_n 0, 1) := by decide +kernel
theorem d_m_says_24 : decode b_m_says 24 = .ok (.iload_n 1, 1) := by decide +kernel
theorem d_m_says_25 : decode b_m_says 25 = .ok (.ifCond .ne 7, 3) := by decide +kernel
theorem d_m_says_28 : decode b_m_says 28 = .ok (.iconst 1, 1) := by decide +kernel
theorem d_m_says_29 : decode b_m_says 29 = .ok (.goto 4, 3) := by decide +kernel
theorem d_m_says_32 : decode b_m_says 32 = .ok (.iconst 0, 1) := by decide +kernel
theorem d_m_says_33 : decode b_m_says 33 = .ok (.invokevirtual 278, 3) := by decide +kernel
theorem d_m_says_36 : decode b_m_says 36 = .ok (.ifCond .ne 5, 3) := by decide +kernel
theorem d_m_says_39 : decode b_m_says 39 = .ok (.iconst 0, 1) := by decide +kernel
theorem d_m_says_40 : decode b_m_says 40 = .ok (.ireturn, 1) := by decide +kernel
theorem d_m_says_41 : decode b_m_says 41 = .ok (.aload_n 0, 1) := by decide +kernel
theorem d_m_says_42 : decode b_m_says 42 = .ok (.getfield 86, 3) := by decide +kernel
theorem d_m_says_45 : decode b_m_says 45 = .ok (.iload_n 1, 1) := by decide +kernel
theorem d_m_says_46 : decode b_m_says 46 = .ok (.aload_n 0, 1) := by decide +kernel
theorem d_m_says_47 : decode b_m_says 47 = .ok (.getfield 108, 3) := by decide +kernel
theorem d_m_says_50 : decode b_m_says 50 = .ok (.iastore, 1) := by decide +kernel
theorem d_m_says_51 : decode b_m_says 51 = .ok (.aload_n 0, 1) := by decide +kernel
theorem d_m_says_52 : decode b_m_says 52 = .ok (.getfield 89, 3) := by decide +kernel
theorem d_m_says_55 : decode b_m_says 55 = .ok (.iload_n 1, 1) := by decide +kernel
theorem d_m_says_56 : decode b_m_says 56 = .ok (.iload_n 2, 1) := by decide +kernel
theorem d_m_says_57 : decode b_m_says 57 = .ok (.iastore, 1) := by decide +kernel
theorem d_m_says_58 : decode b_m_says 58 = .ok (.aload_n 0, 1) := by decide +kernel
theorem d_m_says_59 : decode b_m_says 59 = .ok (.getfield 92, 3) := by decide +kernel
theorem d_m_says_62 : decode b_m_says 62 = .ok (.iload_n 1, 1) := by decide +kernel
theorem d_m_says_63 : decode b_m_says 63 = .ok (.aload_n 0, 1) := by decide +kernel
theorem d_m_says_64 : decode b_m_says 64 = .ok (.getfield 111, 3) := by decide +kernel
theorem d_m_says_67 : decode b_m_says 67 = .ok (.iastore, 1) := by decide +kernel
theorem d_m_says_68 : decode b_m_says 68 = .ok (.iconst 1, 1) := by decide +kernel
theorem d_m_says_69 : decode b_m_says 69 = .ok (.ireturn, 1) := by decide +kernel
abbrev b_m_takesClause : ByteArray := prog_14_method_27_code
abbrev y_m_takesClause : MethodName := ⟨"WhoRulesModel", "takesClause", "()Z"⟩
theorem d_m_takesClause_0 : decode b_m_takesClause 0 = .ok (.aload_n 0, 1) := by decide +kernel
theorem d_m_takesClause_1 : decode b_m_takesClause 1 = .ok (.invokevirtual 267, 3) := by decide +kernel
theorem d_m_takesClause_4 : decode b_m_takesClause 4 = .ok (.tableswitch 184 103 111 #[151, 184, 184, 184, 184, 184, 85, 52, 118], 52) := by decide +kernel
theorem d_m_takesClause_56 : decode b_m_takesClause 56 = .ok (.aload_n 0, 1) := by decide +kernel
theorem d_m_takesClause_57 : decode b_m_takesClause 57 = .ok (.ldc_w 293, 3) := by decide +kernel
theorem d_m_takesClause_60 : decode b_m_takesClause 60 = .ok (.iconst 4, 1) := by decide +kernel
theorem d_m_takesClause_61 : decode b_m_takesClause 61 = .ok (.invokevirtual 294, 3) := by decide +kernel
theorem d_m_takesClause_64 : decode b_m_takesClause 64 = .ok (.ifCond .eq 23, 3) := by decide +kernel
theorem d_m_takesClause_67 : decode b_m_takesClause 67 = .ok (.aload_n 0, 1) := by decide +kernel
theorem d_m_takesClause_68 : decode b_m_takesClause 68 = .ok (.iconst 0, 1) := by decide +kernel
theorem d_m_takesClause_69 : decode b_m_takesClause 69 = .ok (.invokevirtual 278, 3) := by decide +kernel
theorem d_m_takesClause_72 : decode b_m_takesClause 72 = .ok (.ifCond .eq 15, 3) := by decide +kernel
theorem d_m_takesClause_75 : decode b_m_takesClause 75 = .ok (.aload_n 0, 1) := by decide +kernel
theorem d_m_takesClause_76 : decode b_m_takesClause 76 = .ok (.iconst 0, 1) := by decide +kernel
theorem d_m_takesClause_77 : decode b_m_takesClause 77 = .ok (.invokevirtual 298, 3) := by decide +kernel
theorem d_m_takesClause_80 : decode b_m_takesClause 80 = .ok (.ifCond .eq 7, 3) := by decide +kernel
theorem d_m_takesClause_83 : decode b_m_takesClause 83 = .ok (.iconst 1, 1) := by decide +kernel
theorem d_m_takesClause_84 : decode b_m_takesClause 84 = .ok (.goto 4, 3) := by decide +kernel
theorem d_m_takesClause_87 : decode b_m_takesClause 87 = .ok (.iconst 0, 1) := by decide +kernel
theorem d_m_takesClause_88 : decode b_m_takesClause 88 = .ok (.ireturn, 1) := by decide +kernel
theorem d_m_takesClause_89 : decode b_m_takesClause 89 = .ok (.aload_n 0, 1) := by decide +kernel
theorem d_m_takesClause_90 : decode b_m_takesClause 90 = .ok (.ldc_w 301, 3) := by decide +kernel
theorem d_m_takesClause_93 : decode b_m_takesClause 93 = .ok (.iconst 4, 1) := by decide +kernel
theorem d_m_takesClause_94 : decode b_m_takesClause 94 = .ok (.invokevirtual 294, 3) := by decide +kernel
theorem d_m_takesClause_97 : decode b_m_takesClause 97 = .ok (.ifCond .eq 23, 3) := by decide +kernel
theorem d_m_takesClause_100 : decode b_m_takesClause 100 = .ok (.aload_n 0, 1) := by decide +kernel
theorem d_m_takesClause_101 : decode b_m_takesClause 101 = .ok (.iconst 0, 1) := by decide +kernel
theorem d_m_takesClause_102 : decode b_m_takesClause 102 = .ok (.invokevirtual 278, 3) := by decide +kernel
theorem d_m_takesClause_105 : decode b_m_takesClause 105 = .ok (.ifCond .eq 15, 3) := by decide +kernel
theorem d_m_takesClause_108 : decode b_m_takesClause 108 = .ok (.aload_n 0, 1) := by decide +kernel
theorem d_m_takesClause_109 : decode b_m_takesClause 109 = .ok (.iconst 1, 1) := by decide +kernel
theorem d_m_takesClause_110 : decode b_m_takesClause 110 = .ok (.invokevirtual 298, 3) := by decide +kernel
theorem d_m_takesClause_113 : decode b_m_takesClause 113 = .ok (.ifCond .eq 7, 3) := by decide +kernel
theorem d_m_takesClause_116 : decode b_m_takesClause 116 = .ok (.iconst 1, 1) := by decide +kernel
theorem d_m_takesClause_117 : decode b_m_takesClause 117 = .ok (.goto 4, 3) := by decide +kernel
theorem d_m_takesClause_120 : decode b_m_takesClause 120 = .ok (.iconst 0, 1) := by decide +kernel
theorem d_m_takesClause_121 : decode b_m_takesClause 121 = .ok (.ireturn, 1) := by decide +kernel
theorem d_m_takesClause_122 : decode b_m_takesClause 122 = .ok (.aload_n 0, 1) := by decide +kernel
theorem d_m_takesClause_123 : decode b_m_takesClause 123 = .ok (.sipush 15748, 3) := by decide +kernel
theorem d_m_takesClause_126 : decode b_m_takesClause 126 = .ok (.iconst 3, 1) := by decide +kernel
theorem d_m_takesClause_127 : decode b_m_takesClause 127 = .ok (.invokevirtual 294, 3) := by decide +kernel
theorem d_m_takesClause_130 : decode b_m_takesClause 130 = .ok (.ifCond .eq 23, 3) := by decide +kernel
theorem d_m_takesClause_133 : decode b_m_takesClause 133 = .ok (.aload_n 0, 1) := by decide +kernel
theorem d_m_takesClause_134 : decode b_m_takesClause 134 = .ok (.iconst 0, 1) := by decide +kernel
theorem d_m_takesClause_135 : decode b_m_takesClause 135 = .ok (.invokevirtual 278, 3) := by decide +kernel
theorem d_m_takesClause_138 : decode b_m_takesClause 138 = .ok (.ifCond .eq 15, 3) := by decide +kernel
theorem d_m_takesClause_141 : decode b_m_takesClause 141 = .ok (.aload_n 0, 1) := by decide +kernel
theorem d_m_takesClause_142 : decode b_m_takesClause 142 = .ok (.iconst 2, 1) := by decide +kernel
theorem d_m_takesClause_143 : decode b_m_takesClause 143 = .ok (.invokevirtual 298, 3) := by decide +kernel
theorem d_m_takesClause_146 : decode b_m_takesClause 146 = .ok (.ifCond .eq 7, 3) := by decide +kernel
theorem d_m_takesClause_149 : decode b_m_takesClause 149 = .ok (.iconst 1, 1) := by decide +kernel
theorem d_m_takesClause_150 : decode b_m_takesClause 150 = .ok (.goto 4, 3) := by decide +kernel
theorem d_m_takesClause_153 : decode b_m_takesClause 153 = .ok (.iconst 0, 1) := by decide +kernel
theorem d_m_takesClause_154 : decode b_m_takesClause 154 = .ok (.ireturn, 1) := by decide +kernel
theorem d_m_takesClause_155 : decode b_m_takesClause 155 = .ok (.aload_n 0, 1) := by decide +kernel
theorem d_m_takesClause_156 : decode b_m_takesClause 156 = .ok (.ldc_w 302, 3) := by decide +kernel
theorem d_m_takesClause_159 : decode b_m_takesClause 159 = .ok (.iconst 4, 1) := by decide +kernel
theorem d_m_takesClause_160 : decode b_m_takesClause 160 = .ok (.invokevirtual 294, 3) := by decide +kernel
theorem d_m_takesClause_163 : decode b_m_takesClause 163 = .ok (.ifCond .eq 23, 3) := by decide +kernel
theorem d_m_takesClause_166 : decode b_m_takesClause 166 = .ok (.aload_n 0, 1) := by decide +kernel
theorem d_m_takesClause_167 : decode b_m_takesClause 167 = .ok (.iconst 0, 1) := by decide +kernel
theorem d_m_takesClause_168 : decode b_m_takesClause 168 = .ok (.invokevirtual 278, 3) := by decide +kernel
theorem d_m_takesClause_171 : decode b_m_takesClause 171 = .ok (.ifCond .eq 15, 3) := by decide +kernel
theorem d_m_takesClause_174 : decode b_m_takesClause 174 = .ok (.aload_n 0, 1) := by decide +kernel
theorem d_m_takesClause_175 : decode b_m_takesClause 175 = .ok (.iconst 3, 1) := by decide +kernel
theorem d_m_takesClause_176 : decode b_m_takesClause 176 = .ok (.invokevirtual 298, 3) := by decide +kernel
theorem d_m_takesClause_179 : decode b_m_takesClause 179 = .ok (.ifCond .eq 7, 3) := by decide +kernel
theorem d_m_takesClause_182 : decode b_m_takesClause 182 = .ok (.iconst 1, 1) := by decide +kernel
theorem d_m_takesClause_183 : decode b_m_takesClause 183 = .ok (.goto 4, 3) := by decide +kernel
theorem d_m_takesClause_186 : decode b_m_takesClause 186 = .ok (.iconst 0, 1) := by decide +kernel
theorem d_m_takesClause_187 : decode b_m_takesClause 187 = .ok (.ireturn, 1) := by decide +kernel
theorem d_m_takesClause_188 : decode b_m_takesClause 188 = .ok (.aload_n 0, 1) := by decide +kernel
theorem d_m_takesClause_189 : decode b_m_takesClause 189 = .ok (.ldc_w 303, 3) := by decide +kernel
theorem d_m_takesClause_192 : decode b_m_takesClause 192 = .ok (.iconst 5, 1) := by decide +kernel
theorem d_m_takesClause_193 : decode b_m_takesClause 193 = .ok (.invokevirtual 294, 3) := by decide +kernel
theorem d_m_takesClause_196 : decode b_m_takesClause 196 = .ok (.ifCond .eq 10, 3) := by decide +kernel
theorem d_m_takesClause_199 : decode b_m_takesClause 199 = .ok (.aload_n 0, 1) := by decide +kernel
theorem d_m_takesClause_200 : decode b_m_takesClause 200 = .ok (.invokevirtual 304, 3) := by decide +kernel
theorem d_m_takesClause_203 : decode b_m_takesClause 203 = .ok (.ifCond .ne 5, 3) := by decide +kernel
theorem d_m_takesClause_206 : decode b_m_takesClause 206 = .ok (.iconst 0, 1) := by decide +kernel
theorem d_m_takesClause_207 : decode b_m_takesClause 207 = .ok (.ireturn, 1) := by decide +kernel
theorem d_m_takesClause_208 : decode b_m_takesClause 208 = .ok (.aload_n 0, 1) := by decide +kernel
theorem d_m_takesClause_209 : decode b_m_takesClause 209 = .ok (.aload_n 0, 1) := by decide +kernel
theorem d_m_takesClause_210 : decode b_m_takesClause 210 = .ok (.getfield 117, 3) := by decide +kernel
theorem d_m_takesClause_213 : decode b_m_takesClause 213 = .ok (.iconst 0, 1) := by decide +kernel
theorem d_m_takesClause_214 : decode b_m_takesClause 214 = .ok (.baload, 1) := by decide +kernel
theorem d_m_takesClause_215 : decode b_m_takesClause 215 = .ok (.putfield 95, 3) := by decide +kernel
theorem d_m_takesClause_218 : decode b_m_takesClause 218 = .ok (.aload_n 0, 1) := by decide +kernel
theorem d_m_takesClause_219 : decode b_m_takesClause 219 = .ok (.iconst 4, 1) := by decide +kernel
theorem d_m_takesClause_220 : decode b_m_takesClause 220 = .ok (.invokevirtual 298, 3) := by decide +kernel
theorem d_m_takesClause_223 : decode b_m_takesClause 223 = .ok (.ireturn, 1) := by decide +kernel
abbrev b_m_goes : ByteArray := prog_14_method_28_code
abbrev y_m_goes : MethodName := ⟨"WhoRulesModel", "goes", "(I)Z"⟩
theorem d_m_goes_0 : decode b_m_goes 0 = .ok (.aload_n 0, 1) := by decide +kernel
theorem d_m_goes_1 : decode b_m_goes 1 = .ok (.bipush 100, 2) := by decide +kernel
theorem d_m_goes_3 : decode b_m_goes 3 = .ok (.iload_n 1, 1) := by decide +kernel
theorem d_m_goes_4 : decode b_m_goes 4 = .ok (.imul, 1) := by decide +kernel
theorem d_m_goes_5 : decode b_m_goes 5 = .ok (.putfield 99, 3) := by decide +kernel
theorem d_m_goes_8 : decode b_m_goes 8 = .ok (.aload_n 0, 1) := by decide +kernel
theorem d_m_goes_9 : decode b_m_goes 9 = .ok (.aload_n 0, 1) := by decide +kernel
theorem d_m_goes_10 : decode b_m_goes 10 = .ok (.getfield 80, 3) := by decide +kernel
theorem d_m_goes_13 : decode b_m_goes 13 = .ok (.iload_n 1, 1) := by decide +kernel
theorem d_m_goes_14 : decode b_m_goes 14 = .ok (.iaload, 1) := by decide +kernel
theorem d_m_goes_15 : decode b_m_goes 15 = .ok (.putfield 102, 3) := by decide +kernel
theorem d_m_goes_18 : decode b_m_goes 18 = .ok (.aload_n 0, 1) := by decide +kernel
theorem d_m_goes_19 : decode b_m_goes 19 = .ok (.iconst 0, 1) := by decide +kernel
theorem d_m_goes_20 : decode b_m_goes 20 = .ok (.putfield 105, 3) := by decide +kernel
theorem d_m_goes_23 : decode b_m_goes 23 = .ok (.aload_n 0, 1) := by decide +kernel
theorem d_m_goes_24 : decode b_m_goes 24 = .ok (.iconst 0, 1) := by decide +kernel
theorem d_m_goes_25 : decode b_m_goes 25 = .ok (.putfield 108, 3) := by decide +kernel
theorem d_m_goes_28 : decode b_m_goes 28 = .ok (.iconst 0, 1) := by decide +kernel
theorem d_m_goes_29 : decode b_m_goes 29 = .ok (.istore_n 2, 1) := by decide +kernel
theorem d_m_goes_30 : decode b_m_goes 30 = .ok (.iload_n 2, 1) := by decide +kernel
theorem d_m_goes_31 : decode b_m_goes 31 = .ok (.iconst 5, 1) := by decide +kernel
theorem d_m_goes_32 : decode b_m_goes 32 = .ok (.if_icmp .ge 16, 3) := by decide +kernel
theorem d_m_goes_35 : decode b_m_goes 35 = .ok (.aload_n 0, 1) := by decide +kernel
theorem d_m_goes_36 : decode b_m_goes 36 = .ok (.getfield 86, 3) := by decide +kernel
theorem d_m_goes_39 : decode b_m_goes 39 = .ok (.iload_n 2, 1) := by decide +kernel
theorem d_m_goes_40 : decode b_m_goes 40 = .ok (.iconst (-1), 1) := by decide +kernel
theorem d_m_goes_41 : decode b_m_goes 41 = .ok (.iastore, 1) := by decide +kernel
theorem d_m_goes_42 : decode b_m_goes 42 = .ok (.iinc 2 1, 3) := by decide +kernel
theorem d_m_goes_45 : decode b_m_goes 45 = .ok (.goto (-15), 3) := by decide +kernel
theorem d_m_goes_48 : decode b_m_goes 48 = .ok (.aload_n 0, 1) := by decide +kernel
theorem d_m_goes_49 : decode b_m_goes 49 = .ok (.invokevirtual 307, 3) := by decide +kernel
theorem d_m_goes_52 : decode b_m_goes 52 = .ok (.ifCond .ne 5, 3) := by decide +kernel
theorem d_m_goes_55 : decode b_m_goes 55 = .ok (.iconst 0, 1) := by decide +kernel
theorem d_m_goes_56 : decode b_m_goes 56 = .ok (.ireturn, 1) := by decide +kernel
theorem d_m_goes_57 : decode b_m_goes 57 = .ok (.aload_n 0, 1) := by decide +kernel
theorem d_m_goes_58 : decode b_m_goes 58 = .ok (.dup, 1) := by decide +kernel
theorem d_m_goes_59 : decode b_m_goes 59 = .ok (.getfield 108, 3) := by decide +kernel
theorem d_m_goes_62 : decode b_m_goes 62 = .ok (.iconst 1, 1) := by decide +kernel
theorem d_m_goes_63 : decode b_m_goes 63 = .ok (.iadd, 1) := by decide +kernel
theorem d_m_goes_64 : decode b_m_goes 64 = .ok (.putfield 108, 3) := by decide +kernel
theorem d_m_goes_67 : decode b_m_goes 67 = .ok (.aload_n 0, 1) := by decide +kernel
theorem d_m_goes_68 : decode b_m_goes 68 = .ok (.getfield 105, 3) := by decide +kernel
theorem d_m_goes_71 : decode b_m_goes 71 = .ok (.aload_n 0, 1) := by decide +kernel
theorem d_m_goes_72 : decode b_m_goes 72 = .ok (.getfield 102, 3) := by decide +kernel
theorem d_m_goes_75 : decode b_m_goes 75 = .ok (.if_icmp .ne 5, 3) := by decide +kernel
theorem d_m_goes_78 : decode b_m_goes 78 = .ok (.iconst 1, 1) := by decide +kernel
theorem d_m_goes_79 : decode b_m_goes 79 = .ok (.ireturn, 1) := by decide +kernel
theorem d_m_goes_80 : decode b_m_goes 80 = .ok (.aload_n 0, 1) := by decide +kernel
theorem d_m_goes_81 : decode b_m_goes 81 = .ok (.getfield 108, 3) := by decide +kernel
theorem d_m_goes_84 : decode b_m_goes 84 = .ok (.bipush 6, 2) := by decide +kernel
theorem d_m_goes_86 : decode b_m_goes 86 = .ok (.if_icmp .eq 12, 3) := by decide +kernel
theorem d_m_goes_89 : decode b_m_goes 89 = .ok (.aload_n 0, 1) := by decide +kernel
theorem d_m_goes_90 : decode b_m_goes 90 = .ok (.bipush 59, 2) := by decide +kernel
theorem d_m_goes_92 : decode b_m_goes 92 = .ok (.invokevirtual 271, 3) := by decide +kernel
theorem d_m_goes_95 : decode b_m_goes 95 = .ok (.ifCond .ne (-47), 3) := by decide +kernel
theorem d_m_goes_98 : decode b_m_goes 98 = .ok (.iconst 0, 1) := by decide +kernel
theorem d_m_goes_99 : decode b_m_goes 99 = .ok (.ireturn, 1) := by decide +kernel
abbrev b_m_charter : ByteArray := prog_14_method_29_code
abbrev y_m_charter : MethodName := ⟨"WhoRulesModel", "charter", "(II)I"⟩
theorem d_m_charter_0 : decode b_m_charter 0 = .ok (.aload_n 0, 1) := by decide +kernel
theorem d_m_charter_1 : decode b_m_charter 1 = .ok (.iload_n 1, 1) := by decide +kernel
theorem d_m_charter_2 : decode b_m_charter 2 = .ok (.invokevirtual 254, 3) := by decide +kernel
theorem d_m_charter_5 : decode b_m_charter 5 = .ok (.ifCond .ne 5, 3) := by decide +kernel
theorem d_m_charter_8 : decode b_m_charter 8 = .ok (.iconst (-1), 1) := by decide +kernel
theorem d_m_charter_9 : decode b_m_charter 9 = .ok (.ireturn, 1) := by decide +kernel
theorem d_m_charter_10 : decode b_m_charter 10 = .ok (.aload_n 0, 1) := by decide +kernel
theorem d_m_charter_11 : decode b_m_charter 11 = .ok (.iload_n 2, 1) := by decide +kernel
theorem d_m_charter_12 : decode b_m_charter 12 = .ok (.invokevirtual 264, 3) := by decide +kernel
theorem d_m_charter_15 : decode b_m_charter 15 = .ok (.ifCond .ne 6, 3) := by decide +kernel
theorem d_m_charter_18 : decode b_m_charter 18 = .ok (.bipush (-2), 2) := by decide +kernel
theorem d_m_charter_20 : decode b_m_charter 20 = .ok (.ireturn, 1) := by decide +kernel
theorem d_m_charter_21 : decode b_m_charter 21 = .ok (.aload_n 0, 1) := by decide +kernel
theorem d_m_charter_22 : decode b_m_charter 22 = .ok (.getfield 65, 3) := by decide +kernel
theorem d_m_charter_25 : decode b_m_charter 25 = .ok (.bipush 20, 2) := by decide +kernel
theorem d_m_charter_27 : decode b_m_charter 27 = .ok (.if_icmp .ne 6, 3) := by decide +kernel
theorem d_m_charter_30 : decode b_m_charter 30 = .ok (.bipush (-4), 2) := by decide +kernel
theorem d_m_charter_32 : decode b_m_charter 32 = .ok (.ireturn, 1) := by decide +kernel
theorem d_m_charter_33 : decode b_m_charter 33 = .ok (.aload_n 0, 1) := by decide +kernel
theorem d_m_charter_34 : decode b_m_charter 34 = .ok (.getfield 80, 3) := by decide +kernel
theorem d_m_charter_37 : decode b_m_charter 37 = .ok (.bipush 20, 2) := by decide +kernel
theorem d_m_charter_39 : decode b_m_charter 39 = .ok (.aload_n 0, 1) := by decide +kernel
theorem d_m_charter_40 : decode b_m_charter 40 = .ok (.getfield 68, 3) := by decide +kernel
theorem d_m_charter_43 : decode b_m_charter 43 = .ok (.iastore, 1) := by decide +kernel
theorem d_m_charter_44 : decode b_m_charter 44 = .ok (.aload_n 0, 1) := by decide +kernel
theorem d_m_charter_45 : decode b_m_charter 45 = .ok (.iconst 0, 1) := by decide +kernel
theorem d_m_charter_46 : decode b_m_charter 46 = .ok (.putfield 68, 3) := by decide +kernel
theorem d_m_charter_49 : decode b_m_charter 49 = .ok (.aload_n 0, 1) := by decide +kernel
theorem d_m_charter_50 : decode b_m_charter 50 = .ok (.bipush 20, 2) := by decide +kernel
theorem d_m_charter_52 : decode b_m_charter 52 = .ok (.invokevirtual 310, 3) := by decide +kernel
theorem d_m_charter_55 : decode b_m_charter 55 = .ok (.ifCond .ne 11, 3) := by decide +kernel
theorem d_m_charter_58 : decode b_m_charter 58 = .ok (.bipush (-10), 2) := by decide +kernel
theorem d_m_charter_60 : decode b_m_charter 60 = .ok (.aload_n 0, 1) := by decide +kernel
theorem d_m_charter_61 : decode b_m_charter 61 = .ok (.getfield 105, 3) := by decide +kernel
theorem d_m_charter_64 : decode b_m_charter 64 = .ok (.isub, 1) := by decide +kernel
theorem d_m_charter_65 : decode b_m_charter 65 = .ok (.ireturn, 1) := by decide +kernel
theorem d_m_charter_66 : decode b_m_charter 66 = .ok (.aload_n 0, 1) := by decide +kernel
theorem d_m_charter_67 : decode b_m_charter 67 = .ok (.getfield 80, 3) := by decide +kernel
theorem d_m_charter_70 : decode b_m_charter 70 = .ok (.aload_n 0, 1) := by decide +kernel
theorem d_m_charter_71 : decode b_m_charter 71 = .ok (.getfield 65, 3) := by decide +kernel
theorem d_m_charter_74 : decode b_m_charter 74 = .ok (.aload_n 0, 1) := by decide +kernel
theorem d_m_charter_75 : decode b_m_charter 75 = .ok (.getfield 80, 3) := by decide +kernel
theorem d_m_charter_78 : decode b_m_charter 78 = .ok (.bipush 20, 2) := by decide +kernel
theorem d_m_charter_80 : decode b_m_charter 80 = .ok (.iaload, 1) := by decide +kernel
theorem d_m_charter_81 : decode b_m_charter 81 = .ok (.iastore, 1) := by decide +kernel
theorem d_m_charter_82 : decode b_m_charter 82 = .ok (.iconst 0, 1) := by decide +kernel
theorem d_m_charter_83 : decode b_m_charter 83 = .ok (.istore_n 3, 1) := by decide +kernel
theorem d_m_charter_84 : decode b_m_charter 84 = .ok (.iload_n 3, 1) := by decide +kernel
theorem d_m_charter_85 : decode b_m_charter 85 = .ok (.aload_n 0, 1) := by decide +kernel
theorem d_m_charter_86 : decode b_m_charter 86 = .ok (.getfield 80, 3) := by decide +kernel
theorem d_m_charter_89 : decode b_m_charter 89 = .ok (.bipush 20, 2) := by decide +kernel
theorem d_m_charter_91 : decode b_m_charter 91 = .ok (.iaload, 1) := by decide +kernel
theorem d_m_charter_92 : decode b_m_charter 92 = .ok (.if_icmp .ge 33, 3) := by decide +kernel
theorem d_m_charter_95 : decode b_m_charter 95 = .ok (.aload_n 0, 1) := by decide +kernel
theorem d_m_charter_96 : decode b_m_charter 96 = .ok (.getfield 77, 3) := by decide +kernel
theorem d_m_charter_99 : decode b_m_charter 99 = .ok (.bipush 100, 2) := by decide +kernel
theorem d_m_charter_101 : decode b_m_charter 101 = .ok (.aload_n 0, 1) := by decide +kernel
theorem d_m_charter_102 : decode b_m_charter 102 = .ok (.getfield 65, 3) := by decide +kernel
theorem d_m_charter_105 : decode b_m_charter 105 = .ok (.imul, 1) := by decide +kernel
theorem d_m_charter_106 : decode b_m_charter 106 = .ok (.iload_n 3, 1) := by decide +kernel
theorem d_m_charter_107 : decode b_m_charter 107 = .ok (.iadd, 1) := by decide +kernel
theorem d_m_charter_108 : decode b_m_charter 108 = .ok (.aload_n 0, 1) := by decide +kernel
theorem d_m_charter_109 : decode b_m_charter 109 = .ok (.getfield 77, 3) := by decide +kernel
theorem d_m_charter_112 : decode b_m_charter 112 = .ok (.sipush 2000, 3) := by decide +kernel
theorem d_m_charter_115 : decode b_m_charter 115 = .ok (.iload_n 3, 1) := by decide +kernel
theorem d_m_charter_116 : decode b_m_charter 116 = .ok (.iadd, 1) := by decide +kernel
theorem d_m_charter_117 : decode b_m_charter 117 = .ok (.iaload, 1) := by decide +kernel
theorem d_m_charter_118 : decode b_m_charter 118 = .ok (.iastore, 1) := by decide +kernel
theorem d_m_charter_119 : decode b_m_charter 119 = .ok (.iinc 3 1, 3) := by decide +kernel
theorem d_m_charter_122 : decode b_m_charter 122 = .ok (.goto (-38), 3) := by decide +kernel
theorem d_m_charter_125 : decode b_m_charter 125 = .ok (.aload_n 0, 1) := by decide +kernel
theorem d_m_charter_126 : decode b_m_charter 126 = .ok (.getfield 71, 3) := by decide +kernel
theorem d_m_charter_129 : decode b_m_charter 129 = .ok (.aload_n 0, 1) := by decide +kernel
theorem d_m_charter_130 : decode b_m_charter 130 = .ok (.getfield 65, 3) := by decide +kernel
theorem d_m_charter_133 : decode b_m_charter 133 = .ok (.iload_n 1, 1) := by decide +kernel
theorem d_m_charter_134 : decode b_m_charter 134 = .ok (.iastore, 1) := by decide +kernel
theorem d_m_charter_135 : decode b_m_charter 135 = .ok (.aload_n 0, 1) := by decide +kernel
theorem d_m_charter_136 : decode b_m_charter 136 = .ok (.getfield 74, 3) := by decide +kernel
theorem d_m_charter_139 : decode b_m_charter 139 = .ok (.aload_n 0, 1) := by decide +kernel
theorem d_m_charter_140 : decode b_m_charter 140 = .ok (.getfield 65, 3) := by decide +kernel
theorem d_m_charter_143 : decode b_m_charter 143 = .ok (.iload_n 2, 1) := by decide +kernel
theorem d_m_charter_144 : decode b_m_charter 144 = .ok (.iastore, 1) := by decide +kernel
theorem d_m_charter_145 : decode b_m_charter 145 = .ok (.aload_n 0, 1) := by decide +kernel
theorem d_m_charter_146 : decode b_m_charter 146 = .ok (.dup, 1) := by decide +kernel
theorem d_m_charter_147 : decode b_m_charter 147 = .ok (.getfield 65, 3) := by decide +kernel
theorem d_m_charter_150 : decode b_m_charter 150 = .ok (.iconst 1, 1) := by decide +kernel
theorem d_m_charter_151 : decode b_m_charter 151 = .ok (.iadd, 1) := by decide +kernel
theorem d_m_charter_152 : decode b_m_charter 152 = .ok (.putfield 65, 3) := by decide +kernel
theorem d_m_charter_155 : decode b_m_charter 155 = .ok (.aload_n 0, 1) := by decide +kernel
theorem d_m_charter_156 : decode b_m_charter 156 = .ok (.getfield 65, 3) := by decide +kernel
theorem d_m_charter_159 : decode b_m_charter 159 = .ok (.iconst 1, 1) := by decide +kernel
theorem d_m_charter_160 : decode b_m_charter 160 = .ok (.isub, 1) := by decide +kernel
theorem d_m_charter_161 : decode b_m_charter 161 = .ok (.ireturn, 1) := by decide +kernel
abbrev b_m_ruled : ByteArray := prog_14_method_30_code
abbrev y_m_ruled : MethodName := ⟨"WhoRulesModel", "ruled", "(III)I"⟩
theorem d_m_ruled_0 : decode b_m_ruled 0 = .ok (.iconst (-1), 1) := by decide +kernel
theorem d_m_ruled_1 : decode b_m_ruled 1 = .ok (.istore 4, 2) := by decide +kernel
theorem d_m_ruled_3 : decode b_m_ruled 3 = .ok (.iconst 0, 1) := by decide +kernel
theorem d_m_ruled_4 : decode b_m_ruled 4 = .ok (.istore 5, 2) := by decide +kernel
theorem d_m_ruled_6 : decode b_m_ruled 6 = .ok (.iload 5, 2) := by decide +kernel
theorem d_m_ruled_8 : decode b_m_ruled 8 = .ok (.aload_n 0, 1) := by decide +kernel
theorem d_m_ruled_9 : decode b_m_ruled 9 = .ok (.getfield 65, 3) := by decide +kernel
theorem d_m_ruled_12 : decode b_m_ruled 12 = .ok (.if_icmp .ge 75, 3) := by decide +kernel
theorem d_m_ruled_15 : decode b_m_ruled 15 = .ok (.aload_n 0, 1) := by decide +kernel
theorem d_m_ruled_16 : decode b_m_ruled 16 = .ok (.getfield 71, 3) := by decide +kernel
theorem d_m_ruled_19 : decode b_m_ruled 19 = .ok (.iload 5, 2) := by decide +kernel
theorem d_m_ruled_21 : decode b_m_ruled 21 = .ok (.iaload, 1) := by decide +kernel
theorem d_m_ruled_22 : decode b_m_ruled 22 = .ok (.iload_n 1, 1) := by decide +kernel
theorem d_m_ruled_23 : decode b_m_ruled 23 = .ok (.if_icmp .ne 58, 3) := by decide +kernel
theorem d_m_ruled_26 : decode b_m_ruled 26 = .ok (.aload_n 0, 1) := by decide +kernel
theorem d_m_ruled_27 : decode b_m_ruled 27 = .ok (.getfield 74, 3) := by decide +kernel
theorem d_m_ruled_30 : decode b_m_ruled 30 = .ok (.iload 5, 2) := by decide +kernel
theorem d_m_ruled_32 : decode b_m_ruled 32 = .ok (.iaload, 1) := by decide +kernel
theorem d_m_ruled_33 : decode b_m_ruled 33 = .ok (.iload_n 3, 1) := by decide +kernel
theorem d_m_ruled_34 : decode b_m_ruled 34 = .ok (.if_icmp .gt 47, 3) := by decide +kernel
theorem d_m_ruled_37 : decode b_m_ruled 37 = .ok (.iload 4, 2) := by decide +kernel
theorem d_m_ruled_39 : decode b_m_ruled 39 = .ok (.ifCond .lt 20, 3) := by decide +kernel
theorem d_m_ruled_42 : decode b_m_ruled 42 = .ok (.aload_n 0, 1) := by decide +kernel
theorem d_m_ruled_43 : decode b_m_ruled 43 = .ok (.getfield 74, 3) := by decide +kernel
theorem d_m_ruled_46 : decode b_m_ruled 46 = .ok (.iload 5, 2) := by decide +kernel
theorem d_m_ruled_48 : decode b_m_ruled 48 = .ok (.iaload, 1) := by decide +kernel
theorem d_m_ruled_49 : decode b_m_ruled 49 = .ok (.aload_n 0, 1) := by decide +kernel
theorem d_m_ruled_50 : decode b_m_ruled 50 = .ok (.getfield 74, 3) := by decide +kernel
theorem d_m_ruled_53 : decode b_m_ruled 53 = .ok (.iload 4, 2) := by decide +kernel
theorem d_m_ruled_55 : decode b_m_ruled 55 = .ok (.iaload, 1) := by decide +kernel
theorem d_m_ruled_56 : decode b_m_ruled 56 = .ok (.if_icmp .lt 25, 3) := by decide +kernel
theorem d_m_ruled_59 : decode b_m_ruled 59 = .ok (.aload_n 0, 1) := by decide +kernel
theorem d_m_ruled_60 : decode b_m_ruled 60 = .ok (.iload 5, 2) := by decide +kernel
theorem d_m_ruled_62 : decode b_m_ruled 62 = .ok (.invokevirtual 310, 3) := by decide +kernel
theorem d_m_ruled_65 : decode b_m_ruled 65 = .ok (.ifCond .eq 16, 3) := by decide +kernel
theorem d_m_ruled_68 : decode b_m_ruled 68 = .ok (.aload_n 0, 1) := by decide +kernel
theorem d_m_ruled_69 : decode b_m_ruled 69 = .ok (.getfield 86, 3) := by decide +kernel
theorem d_m_ruled_72 : decode b_m_ruled 72 = .ok (.iload_n 2, 1) := by decide +kernel
theorem d_m_ruled_73 : decode b_m_ruled 73 = .ok (.iaload, 1) := by decide +kernel
theorem d_m_ruled_74 : decode b_m_ruled 74 = .ok (.ifCond .lt 7, 3) := by decide +kernel
theorem d_m_ruled_77 : decode b_m_ruled 77 = .ok (.iload 5, 2) := by decide +kernel
theorem d_m_ruled_79 : decode b_m_ruled 79 = .ok (.istore 4, 2) := by decide +kernel
theorem d_m_ruled_81 : decode b_m_ruled 81 = .ok (.iinc 5 1, 3) := by decide +kernel
theorem d_m_ruled_84 : decode b_m_ruled 84 = .ok (.goto (-78), 3) := by decide +kernel
theorem d_m_ruled_87 : decode b_m_ruled 87 = .ok (.iload 4, 2) := by decide +kernel
theorem d_m_ruled_89 : decode b_m_ruled 89 = .ok (.ifCond .lt 17, 3) := by decide +kernel
theorem d_m_ruled_92 : decode b_m_ruled 92 = .ok (.aload_n 0, 1) := by decide +kernel
theorem d_m_ruled_93 : decode b_m_ruled 93 = .ok (.iload 4, 2) := by decide +kernel
theorem d_m_ruled_95 : decode b_m_ruled 95 = .ok (.invokevirtual 310, 3) := by decide +kernel
theorem d_m_ruled_98 : decode b_m_ruled 98 = .ok (.ifCond .eq 8, 3) := by decide +kernel
theorem d_m_ruled_101 : decode b_m_ruled 101 = .ok (.iload 4, 2) := by decide +kernel
theorem d_m_ruled_103 : decode b_m_ruled 103 = .ok (.goto 4, 3) := by decide +kernel
theorem d_m_ruled_106 : decode b_m_ruled 106 = .ok (.iconst (-1), 1) := by decide +kernel
theorem d_m_ruled_107 : decode b_m_ruled 107 = .ok (.ireturn, 1) := by decide +kernel
abbrev b_m_putFacts : ByteArray := prog_14_method_31_code
abbrev y_m_putFacts : MethodName := ⟨"WhoRulesModel", "putFacts", "(III)V"⟩
theorem d_m_putFacts_0 : decode b_m_putFacts 0 = .ok (.aload_n 0, 1) := by decide +kernel
theorem d_m_putFacts_1 : decode b_m_putFacts 1 = .ok (.getfield 83, 3) := by decide +kernel
theorem d_m_putFacts_4 : decode b_m_putFacts 4 = .ok (.iconst 0, 1) := by decide +kernel
theorem d_m_putFacts_5 : decode b_m_putFacts 5 = .ok (.aload_n 0, 1) := by decide +kernel
theorem d_m_putFacts_6 : decode b_m_putFacts 6 = .ok (.getfield 25, 3) := by decide +kernel
theorem d_m_putFacts_9 : decode b_m_putFacts 9 = .ok (.iload_n 2, 1) := by decide +kernel
theorem d_m_putFacts_10 : decode b_m_putFacts 10 = .ok (.iaload, 1) := by decide +kernel
theorem d_m_putFacts_11 : decode b_m_putFacts 11 = .ok (.iastore, 1) := by decide +kernel
theorem d_m_putFacts_12 : decode b_m_putFacts 12 = .ok (.aload_n 0, 1) := by decide +kernel
theorem d_m_putFacts_13 : decode b_m_putFacts 13 = .ok (.getfield 83, 3) := by decide +kernel
theorem d_m_putFacts_16 : decode b_m_putFacts 16 = .ok (.iconst 1, 1) := by decide +kernel
theorem d_m_putFacts_17 : decode b_m_putFacts 17 = .ok (.iload_n 2, 1) := by decide +kernel
theorem d_m_putFacts_18 : decode b_m_putFacts 18 = .ok (.iastore, 1) := by decide +kernel
theorem d_m_putFacts_19 : decode b_m_putFacts 19 = .ok (.aload_n 0, 1) := by decide +kernel
theorem d_m_putFacts_20 : decode b_m_putFacts 20 = .ok (.getfield 83, 3) := by decide +kernel
theorem d_m_putFacts_23 : decode b_m_putFacts 23 = .ok (.iconst 2, 1) := by decide +kernel
theorem d_m_putFacts_24 : decode b_m_putFacts 24 = .ok (.iload_n 3, 1) := by decide +kernel
theorem d_m_putFacts_25 : decode b_m_putFacts 25 = .ok (.iastore, 1) := by decide +kernel
theorem d_m_putFacts_26 : decode b_m_putFacts 26 = .ok (.aload_n 0, 1) := by decide +kernel
theorem d_m_putFacts_27 : decode b_m_putFacts 27 = .ok (.getfield 83, 3) := by decide +kernel
theorem d_m_putFacts_30 : decode b_m_putFacts 30 = .ok (.iconst 3, 1) := by decide +kernel
theorem d_m_putFacts_31 : decode b_m_putFacts 31 = .ok (.aload_n 0, 1) := by decide +kernel
theorem d_m_putFacts_32 : decode b_m_putFacts 32 = .ok (.getfield 38, 3) := by decide +kernel
theorem d_m_putFacts_35 : decode b_m_putFacts 35 = .ok (.iload_n 1, 1) := by decide +kernel
theorem d_m_putFacts_36 : decode b_m_putFacts 36 = .ok (.iaload, 1) := by decide +kernel
theorem d_m_putFacts_37 : decode b_m_putFacts 37 = .ok (.iastore, 1) := by decide +kernel
theorem d_m_putFacts_38 : decode b_m_putFacts 38 = .ok (.aload_n 0, 1) := by decide +kernel
theorem d_m_putFacts_39 : decode b_m_putFacts 39 = .ok (.getfield 83, 3) := by decide +kernel
theorem d_m_putFacts_42 : decode b_m_putFacts 42 = .ok (.iconst 4, 1) := by decide +kernel
theorem d_m_putFacts_43 : decode b_m_putFacts 43 = .ok (.aload_n 0, 1) := by decide +kernel
theorem d_m_putFacts_44 : decode b_m_putFacts 44 = .ok (.getfield 41, 3) := by decide +kernel
theorem d_m_putFacts_47 : decode b_m_putFacts 47 = .ok (.iload_n 1, 1) := by decide +kernel
theorem d_m_putFacts_48 : decode b_m_putFacts 48 = .ok (.iaload, 1) := by decide +kernel
theorem d_m_putFacts_49 : decode b_m_putFacts 49 = .ok (.iastore, 1) := by decide +kernel
theorem d_m_putFacts_50 : decode b_m_putFacts 50 = .ok (.return_, 1) := by decide +kernel
abbrev b_m_force : ByteArray := prog_14_method_32_code
abbrev y_m_force : MethodName := ⟨"WhoRulesModel", "force", "(IIII)I"⟩
theorem d_m_force_0 : decode b_m_force 0 = .ok (.aload_n 0, 1) := by decide +kernel
theorem d_m_force_1 : decode b_m_force 1 = .ok (.iload_n 1, 1) := by decide +kernel
theorem d_m_force_2 : decode b_m_force 2 = .ok (.invokevirtual 254, 3) := by decide +kernel
theorem d_m_force_5 : decode b_m_force 5 = .ok (.ifCond .eq 27, 3) := by decide +kernel
theorem d_m_force_8 : decode b_m_force 8 = .ok (.aload_n 0, 1) := by decide +kernel
theorem d_m_force_9 : decode b_m_force 9 = .ok (.iload_n 2, 1) := by decide +kernel
theorem d_m_force_10 : decode b_m_force 10 = .ok (.iconst 0, 1) := by decide +kernel
theorem d_m_force_11 : decode b_m_force 11 = .ok (.iconst 4, 1) := by decide +kernel
theorem d_m_force_12 : decode b_m_force 12 = .ok (.invokevirtual 246, 3) := by decide +kernel
theorem d_m_force_15 : decode b_m_force 15 = .ok (.ifCond .eq 17, 3) := by decide +kernel
theorem d_m_force_18 : decode b_m_force 18 = .ok (.iload_n 2, 1) := by decide +kernel
theorem d_m_force_19 : decode b_m_force 19 = .ok (.iconst 4, 1) := by decide +kernel
theorem d_m_force_20 : decode b_m_force 20 = .ok (.if_icmp .ne 14, 3) := by decide +kernel
theorem d_m_force_23 : decode b_m_force 23 = .ok (.aload_n 0, 1) := by decide +kernel
theorem d_m_force_24 : decode b_m_force 24 = .ok (.iload 4, 2) := by decide +kernel
theorem d_m_force_26 : decode b_m_force 26 = .ok (.invokevirtual 257, 3) := by decide +kernel
theorem d_m_force_29 : decode b_m_force 29 = .ok (.ifCond .ne 5, 3) := by decide +kernel
theorem d_m_force_32 : decode b_m_force 32 = .ok (.iconst (-1), 1) := by decide +kernel
theorem d_m_force_33 : decode b_m_force 33 = .ok (.ireturn, 1) := by decide +kernel
theorem d_m_force_34 : decode b_m_force 34 = .ok (.aload_n 0, 1) := by decide +kernel
theorem d_m_force_35 : decode b_m_force 35 = .ok (.iload_n 3, 1) := by decide +kernel
theorem d_m_force_36 : decode b_m_force 36 = .ok (.invokevirtual 264, 3) := by decide +kernel
theorem d_m_force_39 : decode b_m_force 39 = .ok (.ifCond .ne 6, 3) := by decide +kernel
theorem d_m_force_42 : decode b_m_force 42 = .ok (.bipush (-2), 2) := by decide +kernel
theorem d_m_force_44 : decode b_m_force 44 = .ok (.ireturn, 1) := by decide +kernel
theorem d_m_force_45 : decode b_m_force 45 = .ok (.iload_n 2, 1) := by decide +kernel
theorem d_m_force_46 : decode b_m_force 46 = .ok (.iconst 4, 1) := by decide +kernel
theorem d_m_force_47 : decode b_m_force 47 = .ok (.if_icmp .ne 58, 3) := by decide +kernel
theorem d_m_force_50 : decode b_m_force 50 = .ok (.aload_n 0, 1) := by decide +kernel
theorem d_m_force_51 : decode b_m_force 51 = .ok (.iload 4, 2) := by decide +kernel
theorem d_m_force_53 : decode b_m_force 53 = .ok (.iload_n 3, 1) := by decide +kernel
theorem d_m_force_54 : decode b_m_force 54 = .ok (.invokevirtual 260, 3) := by decide +kernel
theorem d_m_force_57 : decode b_m_force 57 = .ok (.aload_n 0, 1) := by decide +kernel
theorem d_m_force_58 : decode b_m_force 58 = .ok (.getfield 59, 3) := by decide +kernel
theorem d_m_force_61 : decode b_m_force 61 = .ok (.ifCond .ge 5, 3) := by decide +kernel
theorem d_m_force_64 : decode b_m_force 64 = .ok (.iconst 0, 1) := by decide +kernel
theorem d_m_force_65 : decode b_m_force 65 = .ok (.ireturn, 1) := by decide +kernel
theorem d_m_force_66 : decode b_m_force 66 = .ok (.aload_n 0, 1) := by decide +kernel
theorem d_m_force_67 : decode b_m_force 67 = .ok (.iload 4, 2) := by decide +kernel
theorem d_m_force_69 : decode b_m_force 69 = .ok (.aload_n 0, 1) := by decide +kernel
theorem d_m_force_70 : decode b_m_force 70 = .ok (.getfield 59, 3) := by decide +kernel
theorem d_m_force_73 : decode b_m_force 73 = .ok (.iload_n 3, 1) := by decide +kernel
theorem d_m_force_74 : decode b_m_force 74 = .ok (.aload_n 0, 1) := by decide +kernel
theorem d_m_force_75 : decode b_m_force 75 = .ok (.getfield 62, 3) := by decide +kernel
theorem d_m_force_78 : decode b_m_force 78 = .ok (.isub, 1) := by decide +kernel
theorem d_m_force_79 : decode b_m_force 79 = .ok (.invokevirtual 313, 3) := by decide +kernel
theorem d_m_force_82 : decode b_m_force 82 = .ok (.aload_n 0, 1) := by decide +kernel
theorem d_m_force_83 : decode b_m_force 83 = .ok (.iload_n 1, 1) := by decide +kernel
theorem d_m_force_84 : decode b_m_force 84 = .ok (.iconst 4, 1) := by decide +kernel
theorem d_m_force_85 : decode b_m_force 85 = .ok (.iload_n 3, 1) := by decide +kernel
theorem d_m_force_86 : decode b_m_force 86 = .ok (.invokevirtual 317, 3) := by decide +kernel
theorem d_m_force_89 : decode b_m_force 89 = .ok (.ifCond .lt 14, 3) := by decide +kernel
theorem d_m_force_92 : decode b_m_force 92 = .ok (.aload_n 0, 1) := by decide +kernel
theorem d_m_force_93 : decode b_m_force 93 = .ok (.getfield 95, 3) := by decide +kernel
theorem d_m_force_96 : decode b_m_force 96 = .ok (.ifCond .eq 7, 3) := by decide +kernel
theorem d_m_force_99 : decode b_m_force 99 = .ok (.iconst 1, 1) := by decide +kernel
theorem d_m_force_100 : decode b_m_force 100 = .ok (.goto 4, 3) := by decide +kernel
theorem d_m_force_103 : decode b_m_force 103 = .ok (.iconst 0, 1) := by decide +kernel
theorem d_m_force_104 : decode b_m_force 104 = .ok (.ireturn, 1) := by decide +kernel
theorem d_m_force_105 : decode b_m_force 105 = .ok (.aload_n 0, 1) := by decide +kernel
theorem d_m_force_106 : decode b_m_force 106 = .ok (.iload_n 1, 1) := by decide +kernel
theorem d_m_force_107 : decode b_m_force 107 = .ok (.iload_n 2, 1) := by decide +kernel
theorem d_m_force_108 : decode b_m_force 108 = .ok (.iload_n 3, 1) := by decide +kernel
theorem d_m_force_109 : decode b_m_force 109 = .ok (.invokevirtual 317, 3) := by decide +kernel
theorem d_m_force_112 : decode b_m_force 112 = .ok (.ifCond .lt 7, 3) := by decide +kernel
theorem d_m_force_115 : decode b_m_force 115 = .ok (.iconst 1, 1) := by decide +kernel
theorem d_m_force_116 : decode b_m_force 116 = .ok (.goto 4, 3) := by decide +kernel
theorem d_m_force_119 : decode b_m_force 119 = .ok (.iconst 0, 1) := by decide +kernel
theorem d_m_force_120 : decode b_m_force 120 = .ok (.istore 5, 2) := by decide +kernel
theorem d_m_force_122 : decode b_m_force 122 = .ok (.iload_n 2, 1) := by decide +kernel
theorem d_m_force_123 : decode b_m_force 123 = .ok (.tableswitch 101 0 2 #[25, 54, 72], 25) := by decide +kernel
theorem d_m_force_148 : decode b_m_force 148 = .ok (.iload 5, 2) := by decide +kernel
theorem d_m_force_150 : decode b_m_force 150 = .ok (.ifCond .eq 23, 3) := by decide +kernel
theorem d_m_force_153 : decode b_m_force 153 = .ok (.sipush 1000, 3) := by decide +kernel
theorem d_m_force_156 : decode b_m_force 156 = .ok (.aload_n 0, 1) := by decide +kernel
theorem d_m_force_157 : decode b_m_force 157 = .ok (.getfield 89, 3) := by decide +kernel
theorem d_m_force_160 : decode b_m_force 160 = .ok (.iconst 0, 1) := by decide +kernel
theorem d_m_force_161 : decode b_m_force 161 = .ok (.iaload, 1) := by decide +kernel
theorem d_m_force_162 : decode b_m_force 162 = .ok (.imul, 1) := by decide +kernel
theorem d_m_force_163 : decode b_m_force 163 = .ok (.aload_n 0, 1) := by decide +kernel
theorem d_m_force_164 : decode b_m_force 164 = .ok (.getfield 92, 3) := by decide +kernel
theorem d_m_force_167 : decode b_m_force 167 = .ok (.iconst 0, 1) := by decide +kernel
theorem d_m_force_168 : decode b_m_force 168 = .ok (.iaload, 1) := by decide +kernel
theorem d_m_force_169 : decode b_m_force 169 = .ok (.iadd, 1) := by decide +kernel
theorem d_m_force_170 : decode b_m_force 170 = .ok (.goto 6, 3) := by decide +kernel
theorem d_m_force_173 : decode b_m_force 173 = .ok (.sipush 1002, 3) := by decide +kernel
theorem d_m_force_176 : decode b_m_force 176 = .ok (.ireturn, 1) := by decide +kernel
theorem d_m_force_177 : decode b_m_force 177 = .ok (.iload 5, 2) := by decide +kernel
theorem d_m_force_179 : decode b_m_force 179 = .ok (.ifCond .eq 12, 3) := by decide +kernel
theorem d_m_force_182 : decode b_m_force 182 = .ok (.aload_n 0, 1) := by decide +kernel
theorem d_m_force_183 : decode b_m_force 183 = .ok (.getfield 89, 3) := by decide +kernel
theorem d_m_force_186 : decode b_m_force 186 = .ok (.iconst 1, 1) := by decide +kernel
theorem d_m_force_187 : decode b_m_force 187 = .ok (.iaload, 1) := by decide +kernel
theorem d_m_force_188 : decode b_m_force 188 = .ok (.goto 6, 3) := by decide +kernel
theorem d_m_force_191 : decode b_m_force 191 = .ok (.sipush 999, 3) := by decide +kernel
theorem d_m_force_194 : decode b_m_force 194 = .ok (.ireturn, 1) := by decide +kernel
theorem d_m_force_195 : decode b_m_force 195 = .ok (.iload 5, 2) := by decide +kernel
theorem d_m_force_197 : decode b_m_force 197 = .ok (.ifCond .eq 23, 3) := by decide +kernel
theorem d_m_force_200 : decode b_m_force 200 = .ok (.sipush 1000, 3) := by decide +kernel
theorem d_m_force_203 : decode b_m_force 203 = .ok (.aload_n 0, 1) := by decide +kernel
theorem d_m_force_204 : decode b_m_force 204 = .ok (.getfield 89, 3) := by decide +kernel
theorem d_m_force_207 : decode b_m_force 207 = .ok (.iconst 2, 1) := by decide +kernel
theorem d_m_force_208 : decode b_m_force 208 = .ok (.iaload, 1) := by decide +kernel
theorem d_m_force_209 : decode b_m_force 209 = .ok (.imul, 1) := by decide +kernel
theorem d_m_force_210 : decode b_m_force 210 = .ok (.aload_n 0, 1) := by decide +kernel
theorem d_m_force_211 : decode b_m_force 211 = .ok (.getfield 92, 3) := by decide +kernel
theorem d_m_force_214 : decode b_m_force 214 = .ok (.iconst 2, 1) := by decide +kernel
theorem d_m_force_215 : decode b_m_force 215 = .ok (.iaload, 1) := by decide +kernel
theorem d_m_force_216 : decode b_m_force 216 = .ok (.iadd, 1) := by decide +kernel
theorem d_m_force_217 : decode b_m_force 217 = .ok (.goto 6, 3) := by decide +kernel
theorem d_m_force_220 : decode b_m_force 220 = .ok (.ldc_w 321, 3) := by decide +kernel
theorem d_m_force_223 : decode b_m_force 223 = .ok (.ireturn, 1) := by decide +kernel
theorem d_m_force_224 : decode b_m_force 224 = .ok (.iload 5, 2) := by decide +kernel
theorem d_m_force_226 : decode b_m_force 226 = .ok (.ifCond .eq 12, 3) := by decide +kernel
theorem d_m_force_229 : decode b_m_force 229 = .ok (.aload_n 0, 1) := by decide +kernel
theorem d_m_force_230 : decode b_m_force 230 = .ok (.getfield 89, 3) := by decide +kernel
theorem d_m_force_233 : decode b_m_force 233 = .ok (.iconst 3, 1) := by decide +kernel
theorem d_m_force_234 : decode b_m_force 234 = .ok (.iaload, 1) := by decide +kernel
theorem d_m_force_235 : decode b_m_force 235 = .ok (.goto 5, 3) := by decide +kernel
theorem d_m_force_238 : decode b_m_force 238 = .ok (.bipush (-5), 2) := by decide +kernel
theorem d_m_force_240 : decode b_m_force 240 = .ok (.ireturn, 1) := by decide +kernel
abbrev b_m_why : ByteArray := prog_14_method_33_code
abbrev y_m_why : MethodName := ⟨"WhoRulesModel", "why", "(III)I"⟩
theorem d_m_why_0 : decode b_m_why 0 = .ok (.aload_n 0, 1) := by decide +kernel
theorem d_m_why_1 : decode b_m_why 1 = .ok (.iload_n 1, 1) := by decide +kernel
theorem d_m_why_2 : decode b_m_why 2 = .ok (.invokevirtual 254, 3) := by decide +kernel
theorem d_m_why_5 : decode b_m_why 5 = .ok (.ifCond .eq 13, 3) := by decide +kernel
theorem d_m_why_8 : decode b_m_why 8 = .ok (.aload_n 0, 1) := by decide +kernel
theorem d_m_why_9 : decode b_m_why 9 = .ok (.iload_n 2, 1) := by decide +kernel
theorem d_m_why_10 : decode b_m_why 10 = .ok (.iconst 0, 1) := by decide +kernel
theorem d_m_why_11 : decode b_m_why 11 = .ok (.iconst 4, 1) := by decide +kernel
theorem d_m_why_12 : decode b_m_why 12 = .ok (.invokevirtual 246, 3) := by decide +kernel
theorem d_m_why_15 : decode b_m_why 15 = .ok (.ifCond .ne 5, 3) := by decide +kernel
theorem d_m_why_18 : decode b_m_why 18 = .ok (.iconst (-1), 1) := by decide +kernel
theorem d_m_why_19 : decode b_m_why 19 = .ok (.ireturn, 1) := by decide +kernel
theorem d_m_why_20 : decode b_m_why 20 = .ok (.aload_n 0, 1) := by decide +kernel
theorem d_m_why_21 : decode b_m_why 21 = .ok (.iload_n 3, 1) := by decide +kernel
theorem d_m_why_22 : decode b_m_why 22 = .ok (.invokevirtual 264, 3) := by decide +kernel
theorem d_m_why_25 : decode b_m_why 25 = .ok (.ifCond .ne 6, 3) := by decide +kernel
theorem d_m_why_28 : decode b_m_why 28 = .ok (.bipush (-2), 2) := by decide +kernel
theorem d_m_why_30 : decode b_m_why 30 = .ok (.ireturn, 1) := by decide +kernel
theorem d_m_why_31 : decode b_m_why 31 = .ok (.aload_n 0, 1) := by decide +kernel
theorem d_m_why_32 : decode b_m_why 32 = .ok (.iload_n 1, 1) := by decide +kernel
theorem d_m_why_33 : decode b_m_why 33 = .ok (.iload_n 2, 1) := by decide +kernel
theorem d_m_why_34 : decode b_m_why 34 = .ok (.iload_n 3, 1) := by decide +kernel
theorem d_m_why_35 : decode b_m_why 35 = .ok (.invokevirtual 317, 3) := by decide +kernel
theorem d_m_why_38 : decode b_m_why 38 = .ok (.istore 4, 2) := by decide +kernel
theorem d_m_why_40 : decode b_m_why 40 = .ok (.iload 4, 2) := by decide +kernel
theorem d_m_why_42 : decode b_m_why 42 = .ok (.ifCond .ge 8, 3) := by decide +kernel
theorem d_m_why_45 : decode b_m_why 45 = .ok (.bipush (-5), 2) := by decide +kernel
theorem d_m_why_47 : decode b_m_why 47 = .ok (.goto 15, 3) := by decide +kernel
theorem d_m_why_50 : decode b_m_why 50 = .ok (.bipush 100, 2) := by decide +kernel
theorem d_m_why_52 : decode b_m_why 52 = .ok (.iload 4, 2) := by decide +kernel
theorem d_m_why_54 : decode b_m_why 54 = .ok (.imul, 1) := by decide +kernel
theorem d_m_why_55 : decode b_m_why 55 = .ok (.aload_n 0, 1) := by decide +kernel
theorem d_m_why_56 : decode b_m_why 56 = .ok (.getfield 86, 3) := by decide +kernel
theorem d_m_why_59 : decode b_m_why 59 = .ok (.iload_n 2, 1) := by decide +kernel
theorem d_m_why_60 : decode b_m_why 60 = .ok (.iaload, 1) := by decide +kernel
theorem d_m_why_61 : decode b_m_why 61 = .ok (.iadd, 1) := by decide +kernel
theorem d_m_why_62 : decode b_m_why 62 = .ok (.ireturn, 1) := by decide +kernel
abbrev b_m_layOut : ByteArray := prog_14_method_34_code
abbrev y_m_layOut : MethodName := ⟨"WhoRulesModel", "layOut", "(I)V"⟩
theorem d_m_layOut_0 : decode b_m_layOut 0 = .ok (.iconst 0, 1) := by decide +kernel
theorem d_m_layOut_1 : decode b_m_layOut 1 = .ok (.istore_n 2, 1) := by decide +kernel
theorem d_m_layOut_2 : decode b_m_layOut 2 = .ok (.iload_n 2, 1) := by decide +kernel
theorem d_m_layOut_3 : decode b_m_layOut 3 = .ok (.aload_n 0, 1) := by decide +kernel
theorem d_m_layOut_4 : decode b_m_layOut 4 = .ok (.getfield 19, 3) := by decide +kernel
theorem d_m_layOut_7 : decode b_m_layOut 7 = .ok (.if_icmp .ge 35, 3) := by decide +kernel
theorem d_m_layOut_10 : decode b_m_layOut 10 = .ok (.aload_n 0, 1) := by decide +kernel
theorem d_m_layOut_11 : decode b_m_layOut 11 = .ok (.iload_n 2, 1) := by decide +kernel
theorem d_m_layOut_12 : decode b_m_layOut 12 = .ok (.iload_n 1, 1) := by decide +kernel
theorem d_m_layOut_13 : decode b_m_layOut 13 = .ok (.invokevirtual 260, 3) := by decide +kernel
theorem d_m_layOut_16 : decode b_m_layOut 16 = .ok (.aload_n 0, 1) := by decide +kernel
theorem d_m_layOut_17 : decode b_m_layOut 17 = .ok (.getfield 130, 3) := by decide +kernel
theorem d_m_layOut_20 : decode b_m_layOut 20 = .ok (.iload_n 2, 1) := by decide +kernel
theorem d_m_layOut_21 : decode b_m_layOut 21 = .ok (.aload_n 0, 1) := by decide +kernel
theorem d_m_layOut_22 : decode b_m_layOut 22 = .ok (.getfield 59, 3) := by decide +kernel
theorem d_m_layOut_25 : decode b_m_layOut 25 = .ok (.iastore, 1) := by decide +kernel
theorem d_m_layOut_26 : decode b_m_layOut 26 = .ok (.aload_n 0, 1) := by decide +kernel
theorem d_m_layOut_27 : decode b_m_layOut 27 = .ok (.getfield 133, 3) := by decide +kernel
theorem d_m_layOut_30 : decode b_m_layOut 30 = .ok (.iload_n 2, 1) := by decide +kernel
theorem d_m_layOut_31 : decode b_m_layOut 31 = .ok (.aload_n 0, 1) := by decide +kernel
theorem d_m_layOut_32 : decode b_m_layOut 32 = .ok (.getfield 62, 3) := by decide +kernel
theorem d_m_layOut_35 : decode b_m_layOut 35 = .ok (.iastore, 1) := by decide +kernel
theorem d_m_layOut_36 : decode b_m_layOut 36 = .ok (.iinc 2 1, 3) := by decide +kernel
theorem d_m_layOut_39 : decode b_m_layOut 39 = .ok (.goto (-37), 3) := by decide +kernel
theorem d_m_layOut_42 : decode b_m_layOut 42 = .ok (.return_, 1) := by decide +kernel
abbrev b_m_findVotes : ByteArray := prog_14_method_35_code
abbrev y_m_findVotes : MethodName := ⟨"WhoRulesModel", "findVotes", "(I)V"⟩
theorem d_m_findVotes_0 : decode b_m_findVotes 0 = .ok (.iconst 0, 1) := by decide +kernel
theorem d_m_findVotes_1 : decode b_m_findVotes 1 = .ok (.istore_n 2, 1) := by decide +kernel
theorem d_m_findVotes_2 : decode b_m_findVotes 2 = .ok (.iload_n 2, 1) := by decide +kernel
theorem d_m_findVotes_3 : decode b_m_findVotes 3 = .ok (.aload_n 0, 1) := by decide +kernel
theorem d_m_findVotes_4 : decode b_m_findVotes 4 = .ok (.getfield 13, 3) := by decide +kernel
theorem d_m_findVotes_7 : decode b_m_findVotes 7 = .ok (.if_icmp .ge 469, 3) := by decide +kernel
theorem d_m_findVotes_10 : decode b_m_findVotes 10 = .ok (.aload_n 0, 1) := by decide +kernel
theorem d_m_findVotes_11 : decode b_m_findVotes 11 = .ok (.getfield 25, 3) := by decide +kernel
theorem d_m_findVotes_14 : decode b_m_findVotes 14 = .ok (.iload_n 2, 1) := by decide +kernel
theorem d_m_findVotes_15 : decode b_m_findVotes 15 = .ok (.iaload, 1) := by decide +kernel
theorem d_m_findVotes_16 : decode b_m_findVotes 16 = .ok (.iconst 1, 1) := by decide +kernel
theorem d_m_findVotes_17 : decode b_m_findVotes 17 = .ok (.if_icmp .eq 6, 3) := by decide +kernel
theorem d_m_findVotes_20 : decode b_m_findVotes 20 = .ok (.goto 450, 3) := by decide +kernel
theorem d_m_findVotes_23 : decode b_m_findVotes 23 = .ok (.aload_n 0, 1) := by decide +kernel
theorem d_m_findVotes_24 : decode b_m_findVotes 24 = .ok (.iload_n 2, 1) := by decide +kernel
theorem d_m_findVotes_25 : decode b_m_findVotes 25 = .ok (.iconst 0, 1) := by decide +kernel
theorem d_m_findVotes_26 : decode b_m_findVotes 26 = .ok (.iload_n 1, 1) := by decide +kernel
theorem d_m_findVotes_27 : decode b_m_findVotes 27 = .ok (.invokevirtual 317, 3) := by decide +kernel
theorem d_m_findVotes_30 : decode b_m_findVotes 30 = .ok (.ifCond .lt 7, 3) := by decide +kernel
theorem d_m_findVotes_33 : decode b_m_findVotes 33 = .ok (.iconst 1, 1) := by decide +kernel
theorem d_m_findVotes_34 : decode b_m_findVotes 34 = .ok (.goto 4, 3) := by decide +kernel
theorem d_m_findVotes_37 : decode b_m_findVotes 37 = .ok (.iconst 0, 1) := by decide +kernel
theorem d_m_findVotes_38 : decode b_m_findVotes 38 = .ok (.istore_n 3, 1) := by decide +kernel
theorem d_m_findVotes_39 : decode b_m_findVotes 39 = .ok (.aload_n 0, 1) := by decide +kernel
theorem d_m_findVotes_40 : decode b_m_findVotes 40 = .ok (.getfield 142, 3) := by decide +kernel
theorem d_m_findVotes_43 : decode b_m_findVotes 43 = .ok (.iload_n 2, 1) := by decide +kernel
theorem d_m_findVotes_44 : decode b_m_findVotes 44 = .ok (.iload_n 3, 1) := by decide +kernel
theorem d_m_findVotes_45 : decode b_m_findVotes 45 = .ok (.ifCond .eq 12, 3) := by decide +kernel
theorem d_m_findVotes_48 : decode b_m_findVotes 48 = .ok (.aload_n 0, 1) := by decide +kernel
theorem d_m_findVotes_49 : decode b_m_findVotes 49 = .ok (.getfield 89, 3) := by decide +kernel
theorem d_m_findVotes_52 : decode b_m_findVotes 52 = .ok (.iconst 0, 1) := by decide +kernel
theorem d_m_findVotes_53 : decode b_m_findVotes 53 = .ok (.iaload, 1) := by decide +kernel
theorem d_m_findVotes_54 : decode b_m_findVotes 54 = .ok (.goto 4, 3) := by decide +kernel
theorem d_m_findVotes_57 : decode b_m_findVotes 57 = .ok (.iconst 1, 1) := by decide +kernel
theorem d_m_findVotes_58 : decode b_m_findVotes 58 = .ok (.iastore, 1) := by decide +kernel
theorem d_m_findVotes_59 : decode b_m_findVotes 59 = .ok (.aload_n 0, 1) := by decide +kernel
theorem d_m_findVotes_60 : decode b_m_findVotes 60 = .ok (.getfield 145, 3) := by decide +kernel
theorem d_m_findVotes_63 : decode b_m_findVotes 63 = .ok (.iload_n 2, 1) := by decide +kernel
theorem d_m_findVotes_64 : decode b_m_findVotes 64 = .ok (.iload_n 3, 1) := by decide +kernel
theorem d_m_findVotes_65 : decode b_m_findVotes 65 = .ok (.ifCond .eq 12, 3) := by decide +kernel
theorem d_m_findVotes_68 : decode b_m_findVotes 68 = .ok (.aload_n 0, 1) := by decide +kernel
theorem d_m_findVotes_69 : decode b_m_findVotes 69 = .ok (.getfield 92, 3) := by decide +kernel
theorem d_m_findVotes_72 : decode b_m_findVotes 72 = .ok (.iconst 0, 1) := by decide +kernel
theorem d_m_findVotes_73 : decode b_m_findVotes 73 = .ok (.iaload, 1) := by decide +kernel
theorem d_m_findVotes_74 : decode b_m_findVotes 74 = .ok (.goto 4, 3) := by decide +kernel
theorem d_m_findVotes_77 : decode b_m_findVotes 77 = .ok (.iconst 2, 1) := by decide +kernel
theorem d_m_findVotes_78 : decode b_m_findVotes 78 = .ok (.iastore, 1) := by decide +kernel
theorem d_m_findVotes_79 : decode b_m_findVotes 79 = .ok (.aload_n 0, 1) := by decide +kernel
theorem d_m_findVotes_80 : decode b_m_findVotes 80 = .ok (.iload_n 2, 1) := by decide +kernel
theorem d_m_findVotes_81 : decode b_m_findVotes 81 = .ok (.iconst 1, 1) := by decide +kernel
theorem d_m_findVotes_82 : decode b_m_findVotes 82 = .ok (.iload_n 1, 1) := by decide +kernel
theorem d_m_findVotes_83 : decode b_m_findVotes 83 = .ok (.invokevirtual 317, 3) := by decide +kernel
theorem d_m_findVotes_86 : decode b_m_findVotes 86 = .ok (.ifCond .lt 12, 3) := by decide +kernel
theorem d_m_findVotes_89 : decode b_m_findVotes 89 = .ok (.aload_n 0, 1) := by decide +kernel
theorem d_m_findVotes_90 : decode b_m_findVotes 90 = .ok (.getfield 89, 3) := by decide +kernel
theorem d_m_findVotes_93 : decode b_m_findVotes 93 = .ok (.iconst 1, 1) := by decide +kernel
theorem d_m_findVotes_94 : decode b_m_findVotes 94 = .ok (.iaload, 1) := by decide +kernel
theorem d_m_findVotes_95 : decode b_m_findVotes 95 = .ok (.goto 6, 3) := by decide +kernel
theorem d_m_findVotes_98 : decode b_m_findVotes 98 = .ok (.sipush 999, 3) := by decide +kernel
theorem d_m_findVotes_101 : decode b_m_findVotes 101 = .ok (.istore 4, 2) := by decide +kernel
theorem d_m_findVotes_103 : decode b_m_findVotes 103 = .ok (.aload_n 0, 1) := by decide +kernel
theorem d_m_findVotes_104 : decode b_m_findVotes 104 = .ok (.iload_n 2, 1) := by decide +kernel
theorem d_m_findVotes_105 : decode b_m_findVotes 105 = .ok (.iconst 2, 1) := by decide +kernel
theorem d_m_findVotes_106 : decode b_m_findVotes 106 = .ok (.iload_n 1, 1) := by decide +kernel
theorem d_m_findVotes_107 : decode b_m_findVotes 107 = .ok (.invokevirtual 317, 3) := by decide +kernel
theorem d_m_findVotes_110 : decode b_m_findVotes 110 = .ok (.ifCond .lt 7, 3) := by decide +kernel
theorem d_m_findVotes_113 : decode b_m_findVotes 113 = .ok (.iconst 1, 1) := by decide +kernel
theorem d_m_findVotes_114 : decode b_m_findVotes 114 = .ok (.goto 4, 3) := by decide +kernel
theorem d_m_findVotes_117 : decode b_m_findVotes 117 = .ok (.iconst 0, 1) := by decide +kernel
theorem d_m_findVotes_118 : decode b_m_findVotes 118 = .ok (.istore 5, 2) := by decide +kernel
theorem d_m_findVotes_120 : decode b_m_findVotes 120 = .ok (.iload 5, 2) := by decide +kernel
theorem d_m_findVotes_122 : decode b_m_findVotes 122 = .ok (.ifCond .eq 12, 3) := by decide +kernel
theorem d_m_findVotes_125 : decode b_m_findVotes 125 = .ok (.aload_n 0, 1) := by decide +kernel
theorem d_m_findVotes_126 : decode b_m_findVotes 126 = .ok (.getfield 89, 3) := by decide +kernel
theorem d_m_findVotes_129 : decode b_m_findVotes 129 = .ok (.iconst 2, 1) := by decide +kernel
theorem d_m_findVotes_130 : decode b_m_findVotes 130 = .ok (.iaload, 1) := by decide +kernel
theorem d_m_findVotes_131 : decode b_m_findVotes 131 = .ok (.goto 6, 3) := by decide +kernel
theorem d_m_findVotes_134 : decode b_m_findVotes 134 = .ok (.sipush 999, 3) := by decide +kernel
theorem d_m_findVotes_137 : decode b_m_findVotes 137 = .ok (.istore 6, 2) := by decide +kernel
theorem d_m_findVotes_139 : decode b_m_findVotes 139 = .ok (.iload 5, 2) := by decide +kernel
theorem d_m_findVotes_141 : decode b_m_findVotes 141 = .ok (.ifCond .eq 12, 3) := by decide +kernel
theorem d_m_findVotes_144 : decode b_m_findVotes 144 = .ok (.aload_n 0, 1) := by decide +kernel
theorem d_m_findVotes_145 : decode b_m_findVotes 145 = .ok (.getfield 92, 3) := by decide +kernel
theorem d_m_findVotes_148 : decode b_m_findVotes 148 = .ok (.iconst 2, 1) := by decide +kernel
theorem d_m_findVotes_149 : decode b_m_findVotes 149 = .ok (.iaload, 1) := by decide +kernel
theorem d_m_findVotes_150 : decode b_m_findVotes 150 = .ok (.goto 4, 3) := by decide +kernel
theorem d_m_findVotes_153 : decode b_m_findVotes 153 = .ok (.iconst 1, 1) := by decide +kernel
theorem d_m_findVotes_154 : decode b_m_findVotes 154 = .ok (.istore 7, 2) := by decide +kernel
theorem d_m_findVotes_156 : decode b_m_findVotes 156 = .ok (.aload_n 0, 1) := by decide +kernel
theorem d_m_findVotes_157 : decode b_m_findVotes 157 = .ok (.getfield 148, 3) := by decide +kernel
theorem d_m_findVotes_160 : decode b_m_findVotes 160 = .ok (.iload_n 2, 1) := by decide +kernel
theorem d_m_findVotes_161 : decode b_m_findVotes 161 = .ok (.aload_n 0, 1) := by decide +kernel
theorem d_m_findVotes_162 : decode b_m_findVotes 162 = .ok (.iload_n 2, 1) := by decide +kernel
theorem d_m_findVotes_163 : decode b_m_findVotes 163 = .ok (.iconst 3, 1) := by decide +kernel
theorem d_m_findVotes_164 : decode b_m_findVotes 164 = .ok (.iload_n 1, 1) := by decide +kernel
theorem d_m_findVotes_165 : decode b_m_findVotes 165 = .ok (.invokevirtual 317, 3) := by decide +kernel
theorem d_m_findVotes_168 : decode b_m_findVotes 168 = .ok (.ifCond .lt 25, 3) := by decide +kernel
theorem d_m_findVotes_171 : decode b_m_findVotes 171 = .ok (.aload_n 0, 1) := by decide +kernel
theorem d_m_findVotes_172 : decode b_m_findVotes 172 = .ok (.aload_n 0, 1) := by decide +kernel
theorem d_m_findVotes_173 : decode b_m_findVotes 173 = .ok (.getfield 89, 3) := by decide +kernel
theorem d_m_findVotes_176 : decode b_m_findVotes 176 = .ok (.iconst 3, 1) := by decide +kernel
theorem d_m_findVotes_177 : decode b_m_findVotes 177 = .ok (.iaload, 1) := by decide +kernel
theorem d_m_findVotes_178 : decode b_m_findVotes 178 = .ok (.invokevirtual 250, 3) := by decide +kernel
theorem d_m_findVotes_181 : decode b_m_findVotes 181 = .ok (.ifCond .eq 12, 3) := by decide +kernel
theorem d_m_findVotes_184 : decode b_m_findVotes 184 = .ok (.aload_n 0, 1) := by decide +kernel
theorem d_m_findVotes_185 : decode b_m_findVotes 185 = .ok (.getfield 89, 3) := by decide +kernel
theorem d_m_findVotes_188 : decode b_m_findVotes 188 = .ok (.iconst 3, 1) := by decide +kernel
theorem d_m_findVotes_189 : decode b_m_findVotes 189 = .ok (.iaload, 1) := by decide +kernel
theorem d_m_findVotes_190 : decode b_m_findVotes 190 = .ok (.goto 4, 3) := by decide +kernel
theorem d_m_findVotes_193 : decode b_m_findVotes 193 = .ok (.iconst (-1), 1) := by decide +kernel
theorem d_m_findVotes_194 : decode b_m_findVotes 194 = .ok (.iastore, 1) := by decide +kernel
theorem d_m_findVotes_195 : decode b_m_findVotes 195 = .ok (.aload_n 0, 1) := by decide +kernel
theorem d_m_findVotes_196 : decode b_m_findVotes 196 = .ok (.iload_n 2, 1) := by decide +kernel
theorem d_m_findVotes_197 : decode b_m_findVotes 197 = .ok (.iconst 4, 1) := by decide +kernel
theorem d_m_findVotes_198 : decode b_m_findVotes 198 = .ok (.iload_n 1, 1) := by decide +kernel
theorem d_m_findVotes_199 : decode b_m_findVotes 199 = .ok (.invokevirtual 317, 3) := by decide +kernel
theorem d_m_findVotes_202 : decode b_m_findVotes 202 = .ok (.istore 8, 2) := by decide +kernel
theorem d_m_findVotes_204 : decode b_m_findVotes 204 = .ok (.iconst 0, 1) := by decide +kernel
theorem d_m_findVotes_205 : decode b_m_findVotes 205 = .ok (.istore 9, 2) := by decide +kernel
theorem d_m_findVotes_207 : decode b_m_findVotes 207 = .ok (.iload 9, 2) := by decide +kernel
theorem d_m_findVotes_209 : decode b_m_findVotes 209 = .ok (.aload_n 0, 1) := by decide +kernel
theorem d_m_findVotes_210 : decode b_m_findVotes 210 = .ok (.getfield 13, 3) := by decide +kernel
theorem d_m_findVotes_213 : decode b_m_findVotes 213 = .ok (.if_icmp .ge 22, 3) := by decide +kernel
theorem d_m_findVotes_216 : decode b_m_findVotes 216 = .ok (.aload_n 0, 1) := by decide +kernel
theorem d_m_findVotes_217 : decode b_m_findVotes 217 = .ok (.getfield 136, 3) := by decide +kernel
theorem d_m_findVotes_220 : decode b_m_findVotes 220 = .ok (.bipush 16, 2) := by decide +kernel
theorem d_m_findVotes_222 : decode b_m_findVotes 222 = .ok (.iload_n 2, 1) := by decide +kernel
theorem d_m_findVotes_223 : decode b_m_findVotes 223 = .ok (.imul, 1) := by decide +kernel
theorem d_m_findVotes_224 : decode b_m_findVotes 224 = .ok (.iload 9, 2) := by decide +kernel
theorem d_m_findVotes_226 : decode b_m_findVotes 226 = .ok (.iadd, 1) := by decide +kernel
theorem d_m_findVotes_227 : decode b_m_findVotes 227 = .ok (.iconst 0, 1) := by decide +kernel
theorem d_m_findVotes_228 : decode b_m_findVotes 228 = .ok (.iastore, 1) := by decide +kernel
theorem d_m_findVotes_229 : decode b_m_findVotes 229 = .ok (.iinc 9 1, 3) := by decide +kernel
theorem d_m_findVotes_232 : decode b_m_findVotes 232 = .ok (.goto (-25), 3) := by decide +kernel
theorem d_m_findVotes_235 : decode b_m_findVotes 235 = .ok (.iconst 0, 1) := by decide +kernel
theorem d_m_findVotes_236 : decode b_m_findVotes 236 = .ok (.istore 9, 2) := by decide +kernel
theorem d_m_findVotes_238 : decode b_m_findVotes 238 = .ok (.iload 9, 2) := by decide +kernel
theorem d_m_findVotes_240 : decode b_m_findVotes 240 = .ok (.aload_n 0, 1) := by decide +kernel
theorem d_m_findVotes_241 : decode b_m_findVotes 241 = .ok (.getfield 19, 3) := by decide +kernel
theorem d_m_findVotes_244 : decode b_m_findVotes 244 = .ok (.if_icmp .ge 149, 3) := by decide +kernel
theorem d_m_findVotes_247 : decode b_m_findVotes 247 = .ok (.aload_n 0, 1) := by decide +kernel
theorem d_m_findVotes_248 : decode b_m_findVotes 248 = .ok (.getfield 130, 3) := by decide +kernel
theorem d_m_findVotes_251 : decode b_m_findVotes 251 = .ok (.iload 9, 2) := by decide +kernel
theorem d_m_findVotes_253 : decode b_m_findVotes 253 = .ok (.iaload, 1) := by decide +kernel
theorem d_m_findVotes_254 : decode b_m_findVotes 254 = .ok (.istore 10, 2) := by decide +kernel
theorem d_m_findVotes_256 : decode b_m_findVotes 256 = .ok (.aload_n 0, 1) := by decide +kernel
theorem d_m_findVotes_257 : decode b_m_findVotes 257 = .ok (.getfield 32, 3) := by decide +kernel
theorem d_m_findVotes_260 : decode b_m_findVotes 260 = .ok (.iload 9, 2) := by decide +kernel
theorem d_m_findVotes_262 : decode b_m_findVotes 262 = .ok (.iaload, 1) := by decide +kernel
theorem d_m_findVotes_263 : decode b_m_findVotes 263 = .ok (.iload_n 2, 1) := by decide +kernel
theorem d_m_findVotes_264 : decode b_m_findVotes 264 = .ok (.if_icmp .ne 123, 3) := by decide +kernel
theorem d_m_findVotes_267 : decode b_m_findVotes 267 = .ok (.iload 10, 2) := by decide +kernel
theorem d_m_findVotes_269 : decode b_m_findVotes 269 = .ok (.ifCond .lt 118, 3) := by decide +kernel
theorem d_m_findVotes_272 : decode b_m_findVotes 272 = .ok (.iload 10, 2) := by decide +kernel
theorem d_m_findVotes_274 : decode b_m_findVotes 274 = .ok (.iload_n 2, 1) := by decide +kernel
theorem d_m_findVotes_275 : decode b_m_findVotes 275 = .ok (.if_icmp .eq 112, 3) := by decide +kernel
theorem d_m_findVotes_278 : decode b_m_findVotes 278 = .ok (.aload_n 0, 1) := by decide +kernel
theorem d_m_findVotes_279 : decode b_m_findVotes 279 = .ok (.getfield 25, 3) := by decide +kernel
theorem d_m_findVotes_282 : decode b_m_findVotes 282 = .ok (.iload 10, 2) := by decide +kernel
theorem d_m_findVotes_284 : decode b_m_findVotes 284 = .ok (.iaload, 1) := by decide +kernel
theorem d_m_findVotes_285 : decode b_m_findVotes 285 = .ok (.iconst 4, 1) := by decide +kernel
theorem d_m_findVotes_286 : decode b_m_findVotes 286 = .ok (.if_icmp .eq 101, 3) := by decide +kernel
theorem d_m_findVotes_289 : decode b_m_findVotes 289 = .ok (.aload_n 0, 1) := by decide +kernel
theorem d_m_findVotes_290 : decode b_m_findVotes 290 = .ok (.getfield 25, 3) := by decide +kernel
theorem d_m_findVotes_293 : decode b_m_findVotes 293 = .ok (.iload 10, 2) := by decide +kernel
theorem d_m_findVotes_295 : decode b_m_findVotes 295 = .ok (.iaload, 1) := by decide +kernel
theorem d_m_findVotes_296 : decode b_m_findVotes 296 = .ok (.iconst 5, 1) := by decide +kernel
theorem d_m_findVotes_297 : decode b_m_findVotes 297 = .ok (.if_icmp .ne 6, 3) := by decide +kernel
theorem d_m_findVotes_300 : decode b_m_findVotes 300 = .ok (.goto 87, 3) := by decide +kernel
theorem d_m_findVotes_303 : decode b_m_findVotes 303 = .ok (.aload_n 0, 1) := by decide +kernel
theorem d_m_findVotes_304 : decode b_m_findVotes 304 = .ok (.iload 9, 2) := by decide +kernel
theorem d_m_findVotes_306 : decode b_m_findVotes 306 = .ok (.iload 10, 2) := by decide +kernel
theorem d_m_findVotes_308 : decode b_m_findVotes 308 = .ok (.iload_n 1, 1) := by decide +kernel
theorem d_m_findVotes_309 : decode b_m_findVotes 309 = .ok (.aload_n 0, 1) := by decide +kernel
theorem d_m_findVotes_310 : decode b_m_findVotes 310 = .ok (.getfield 133, 3) := by decide +kernel
theorem d_m_findVotes_313 : decode b_m_findVotes 313 = .ok (.iload 9, 2) := by decide +kernel
theorem d_m_findVotes_315 : decode b_m_findVotes 315 = .ok (.iaload, 1) := by decide +kernel
theorem d_m_findVotes_316 : decode b_m_findVotes 316 = .ok (.isub, 1) := by decide +kernel
theorem d_m_findVotes_317 : decode b_m_findVotes 317 = .ok (.invokevirtual 313, 3) := by decide +kernel
theorem d_m_findVotes_320 : decode b_m_findVotes 320 = .ok (.iload 8, 2) := by decide +kernel
theorem d_m_findVotes_322 : decode b_m_findVotes 322 = .ok (.ifCond .lt 22, 3) := by decide +kernel
theorem d_m_findVotes_325 : decode b_m_findVotes 325 = .ok (.aload_n 0, 1) := by decide +kernel
theorem d_m_findVotes_326 : decode b_m_findVotes 326 = .ok (.iload 8, 2) := by decide +kernel
theorem d_m_findVotes_328 : decode b_m_findVotes 328 = .ok (.invokevirtual 310, 3) := by decide +kernel
theorem d_m_findVotes_331 : decode b_m_findVotes 331 = .ok (.ifCond .eq 13, 3) := by decide +kernel
theorem d_m_findVotes_334 : decode b_m_findVotes 334 = .ok (.aload_n 0, 1) := by decide +kernel
theorem d_m_findVotes_335 : decode b_m_findVotes 335 = .ok (.getfield 95, 3) := by decide +kernel
theorem d_m_findVotes_338 : decode b_m_findVotes 338 = .ok (.ifCond .eq 6, 3) := by decide +kernel
theorem d_m_findVotes_341 : decode b_m_findVotes 341 = .ok (.goto 46, 3) := by decide +kernel
theorem d_m_findVotes_344 : decode b_m_findVotes 344 = .ok (.aload_n 0, 1) := by decide +kernel
theorem d_m_findVotes_345 : decode b_m_findVotes 345 = .ok (.getfield 136, 3) := by decide +kernel
theorem d_m_findVotes_348 : decode b_m_findVotes 348 = .ok (.bipush 16, 2) := by decide +kernel
theorem d_m_findVotes_350 : decode b_m_findVotes 350 = .ok (.iload_n 2, 1) := by decide +kernel
theorem d_m_findVotes_351 : decode b_m_findVotes 351 = .ok (.imul, 1) := by decide +kernel
theorem d_m_findVotes_352 : decode b_m_findVotes 352 = .ok (.iload 10, 2) := by decide +kernel
theorem d_m_findVotes_354 : decode b_m_findVotes 354 = .ok (.iadd, 1) := by decide +kernel
theorem d_m_findVotes_355 : decode b_m_findVotes 355 = .ok (.dup2, 1) := by decide +kernel
theorem d_m_findVotes_356 : decode b_m_findVotes 356 = .ok (.iaload, 1) := by decide +kernel
theorem d_m_findVotes_357 : decode b_m_findVotes 357 = .ok (.aload_n 0, 1) := by decide +kernel
theorem d_m_findVotes_358 : decode b_m_findVotes 358 = .ok (.getfield 41, 3) := by decide +kernel
theorem d_m_findVotes_361 : decode b_m_findVotes 361 = .ok (.iload 9, 2) := by decide +kernel
theorem d_m_findVotes_363 : decode b_m_findVotes 363 = .ok (.iaload, 1) := by decide +kernel
theorem d_m_findVotes_364 : decode b_m_findVotes 364 = .ok (.iload_n 1, 1) := by decide +kernel
theorem d_m_findVotes_365 : decode b_m_findVotes 365 = .ok (.aload_n 0, 1) := by decide +kernel
theorem d_m_findVotes_366 : decode b_m_findVotes 366 = .ok (.getfield 133, 3) := by decide +kernel
theorem d_m_findVotes_369 : decode b_m_findVotes 369 = .ok (.iload 9, 2) := by decide +kernel
theorem d_m_findVotes_371 : decode b_m_findVotes 371 = .ok (.iaload, 1) := by decide +kernel
theorem d_m_findVotes_372 : decode b_m_findVotes 372 = .ok (.isub, 1) := by decide +kernel
theorem d_m_findVotes_373 : decode b_m_findVotes 373 = .ok (.iload 6, 2) := by decide +kernel
theorem d_m_findVotes_375 : decode b_m_findVotes 375 = .ok (.if_icmp .lt 8, 3) := by decide +kernel
theorem d_m_findVotes_378 : decode b_m_findVotes 378 = .ok (.iload 7, 2) := by decide +kernel
theorem d_m_findVotes_380 : decode b_m_findVotes 380 = .ok (.goto 4, 3) := by decide +kernel
theorem d_m_findVotes_383 : decode b_m_findVotes 383 = .ok (.iconst 1, 1) := by decide +kernel
theorem d_m_findVotes_384 : decode b_m_findVotes 384 = .ok (.imul, 1) := by decide +kernel
theorem d_m_findVotes_385 : decode b_m_findVotes 385 = .ok (.iadd, 1) := by decide +kernel
theorem d_m_findVotes_386 : decode b_m_findVotes 386 = .ok (.iastore, 1) := by decide +kernel
theorem d_m_findVotes_387 : decode b_m_findVotes 387 = .ok (.iinc 9 1, 3) := by decide +kernel
theorem d_m_findVotes_390 : decode b_m_findVotes 390 = .ok (.goto (-152), 3) := by decide +kernel
theorem d_m_findVotes_393 : decode b_m_findVotes 393 = .ok (.aload_n 0, 1) := by decide +kernel
theorem d_m_findVotes_394 : decode b_m_findVotes 394 = .ok (.getfield 139, 3) := by decide +kernel
theorem d_m_findVotes_397 : decode b_m_findVotes 397 = .ok (.iload_n 2, 1) := by decide +kernel
theorem d_m_findVotes_398 : decode b_m_findVotes 398 = .ok (.iconst 0, 1) := by decide +kernel
theorem d_m_findVotes_399 : decode b_m_findVotes 399 = .ok (.iastore, 1) := by decide +kernel
theorem d_m_findVotes_400 : decode b_m_findVotes 400 = .ok (.iconst 0, 1) := by decide +kernel
theorem d_m_findVotes_401 : decode b_m_findVotes 401 = .ok (.istore 9, 2) := by decide +kernel
theorem d_m_findVotes_403 : decode b_m_findVotes 403 = .ok (.iload 9, 2) := by decide +kernel
theorem d_m_findVotes_405 : decode b_m_findVotes 405 = .ok (.aload_n 0, 1) := by decide +kernel
theorem d_m_findVotes_406 : decode b_m_findVotes 406 = .ok (.getfield 13, 3) := by decide +kernel
theorem d_m_findVotes_409 : decode b_m_findVotes 409 = .ok (.if_icmp .ge 61, 3) := by decide +kernel
theorem d_m_findVotes_412 : decode b_m_findVotes 412 = .ok (.aload_n 0, 1) := by decide +kernel
theorem d_m_findVotes_413 : decode b_m_findVotes 413 = .ok (.getfield 136, 3) := by decide +kernel
theorem d_m_findVotes_416 : decode b_m_findVotes 416 = .ok (.bipush 16, 2) := by decide +kernel
theorem d_m_findVotes_418 : decode b_m_findVotes 418 = .ok (.iload_n 2, 1) := by decide +kernel
theorem d_m_findVotes_419 : decode b_m_findVotes 419 = .ok (.imul, 1) := by decide +kernel
theorem d_m_findVotes_420 : decode b_m_findVotes 420 = .ok (.iload 9, 2) := by decide +kernel
theorem d_m_findVotes_422 : decode b_m_findVotes 422 = .ok (.iadd, 1) := by decide +kernel
theorem d_m_findVotes_423 : decode b_m_findVotes 423 = .ok (.iaload, 1) := by decide +kernel
theorem d_m_findVotes_424 : decode b_m_findVotes 424 = .ok (.iload 4, 2) := by decide +kernel
theorem d_m_findVotes_426 : decode b_m_findVotes 426 = .ok (.if_icmp .le 17, 3) := by decide +kernel
theorem d_m_findVotes_429 : decode b_m_findVotes 429 = .ok (.aload_n 0, 1) := by decide +kernel
theorem d_m_findVotes_430 : decode b_m_findVotes 430 = .ok (.getfield 136, 3) := by decide +kernel
theorem d_m_findVotes_433 : decode b_m_findVotes 433 = .ok (.bipush 16, 2) := by decide +kernel
theorem d_m_findVotes_435 : decode b_m_findVotes 435 = .ok (.iload_n 2, 1) := by decide +kernel
theorem d_m_findVotes_436 : decode b_m_findVotes 436 = .ok (.imul, 1) := by decide +kernel
theorem d_m_findVotes_437 : decode b_m_findVotes 437 = .ok (.iload 9, 2) := by decide +kernel
theorem d_m_findVotes_439 : decode b_m_findVotes 439 = .ok (.iadd, 1) := by decide +kernel
theorem d_m_findVotes_440 : decode b_m_findVotes 440 = .ok (.iload 4, 2) := by decide +kernel
theorem d_m_findVotes_442 : decode b_m_findVotes 442 = .ok (.iastore, 1) := by decide +kernel
theorem d_m_findVotes_443 : decode b_m_findVotes 443 = .ok (.aload_n 0, 1) := by decide +kernel
theorem d_m_findVotes_444 : decode b_m_findVotes 444 = .ok (.getfield 139, 3) := by decide +kernel
theorem d_m_findVotes_447 : decode b_m_findVotes 447 = .ok (.iload_n 2, 1) := by decide +kernel
theorem d_m_findVotes_448 : decode b_m_findVotes 448 = .ok (.dup2, 1) := by decide +kernel
theorem d_m_findVotes_449 : decode b_m_findVotes 449 = .ok (.iaload, 1) := by decide +kernel
theorem d_m_findVotes_450 : decode b_m_findVotes 450 = .ok (.aload_n 0, 1) := by decide +kernel
theorem d_m_findVotes_451 : decode b_m_findVotes 451 = .ok (.getfield 136, 3) := by decide +kernel
theorem d_m_findVotes_454 : decode b_m_findVotes 454 = .ok (.bipush 16, 2) := by decide +kernel
theorem d_m_findVotes_456 : decode b_m_findVotes 456 = .ok (.iload_n 2, 1) := by decide +kernel
theorem d_m_findVotes_457 : decode b_m_findVotes 457 = .ok (.imul, 1) := by decide +kernel
theorem d_m_findVotes_458 : decode b_m_findVotes 458 = .ok (.iload 9, 2) := by decide +kernel
theorem d_m_findVotes_460 : decode b_m_findVotes 460 = .ok (.iadd, 1) := by decide +kernel
theorem d_m_findVotes_461 : decode b_m_findVotes 461 = .ok (.iaload, 1) := by decide +kernel
theorem d_m_findVotes_462 : decode b_m_findVotes 462 = .ok (.iadd, 1) := by decide +kernel
theorem d_m_findVotes_463 : decode b_m_findVotes 463 = .ok (.iastore, 1) := by decide +kernel
theorem d_m_findVotes_464 : decode b_m_findVotes 464 = .ok (.iinc 9 1, 3) := by decide +kernel
theorem d_m_findVotes_467 : decode b_m_findVotes 467 = .ok (.goto (-64), 3) := by decide +kernel
theorem d_m_findVotes_470 : decode b_m_findVotes 470 = .ok (.iinc 2 1, 3) := by decide +kernel
theorem d_m_findVotes_473 : decode b_m_findVotes 473 = .ok (.goto (-471), 3) := by decide +kernel
theorem d_m_findVotes_476 : decode b_m_findVotes 476 = .ok (.return_, 1) := by decide +kernel
abbrev b_m_look : ByteArray := prog_14_method_36_code
abbrev y_m_look : MethodName := ⟨"WhoRulesModel", "look", "(I)V"⟩
theorem d_m_look_0 : decode b_m_look 0 = .ok (.aload_n 0, 1) := by decide +kernel
theorem d_m_look_1 : decode b_m_look 1 = .ok (.iload_n 1, 1) := by decide +kernel
theorem d_m_look_2 : decode b_m_look 2 = .ok (.invokevirtual 322, 3) := by decide +kernel
theorem d_m_look_5 : decode b_m_look 5 = .ok (.aload_n 0, 1) := by decide +kernel
theorem d_m_look_6 : decode b_m_look 6 = .ok (.iload_n 1, 1) := by decide +kernel
theorem d_m_look_7 : decode b_m_look 7 = .ok (.invokevirtual 325, 3) := by decide +kernel
theorem d_m_look_10 : decode b_m_look 10 = .ok (.return_, 1) := by decide +kernel
abbrev b_m_votes : ByteArray := prog_14_method_37_code
abbrev y_m_votes : MethodName := ⟨"WhoRulesModel", "votes", "(III)I"⟩
theorem d_m_votes_0 : decode b_m_votes 0 = .ok (.aload_n 0, 1) := by decide +kernel
theorem d_m_votes_1 : decode b_m_votes 1 = .ok (.iload_n 1, 1) := by decide +kernel
theorem d_m_votes_2 : decode b_m_votes 2 = .ok (.invokevirtual 254, 3) := by decide +kernel
theorem d_m_votes_5 : decode b_m_votes 5 = .ok (.ifCond .eq 19, 3) := by decide +kernel
theorem d_m_votes_8 : decode b_m_votes 8 = .ok (.aload_n 0, 1) := by decide +kernel
theorem d_m_votes_9 : decode b_m_votes 9 = .ok (.iload_n 2, 1) := by decide +kernel
theorem d_m_votes_10 : decode b_m_votes 10 = .ok (.invokevirtual 250, 3) := by decide +kernel
theorem d_m_votes_13 : decode b_m_votes 13 = .ok (.ifCond .eq 11, 3) := by decide +kernel
theorem d_m_votes_16 : decode b_m_votes 16 = .ok (.aload_n 0, 1) := by decide +kernel
theorem d_m_votes_17 : decode b_m_votes 17 = .ok (.iload_n 3, 1) := by decide +kernel
theorem d_m_votes_18 : decode b_m_votes 18 = .ok (.invokevirtual 264, 3) := by decide +kernel
theorem d_m_votes_21 : decode b_m_votes 21 = .ok (.ifCond .ne 5, 3) := by decide +kernel
theorem d_m_votes_24 : decode b_m_votes 24 = .ok (.iconst (-1), 1) := by decide +kernel
theorem d_m_votes_25 : decode b_m_votes 25 = .ok (.ireturn, 1) := by decide +kernel
theorem d_m_votes_26 : decode b_m_votes 26 = .ok (.aload_n 0, 1) := by decide +kernel
theorem d_m_votes_27 : decode b_m_votes 27 = .ok (.iload_n 3, 1) := by decide +kernel
theorem d_m_votes_28 : decode b_m_votes 28 = .ok (.invokevirtual 328, 3) := by decide +kernel
theorem d_m_votes_31 : decode b_m_votes 31 = .ok (.aload_n 0, 1) := by decide +kernel
theorem d_m_votes_32 : decode b_m_votes 32 = .ok (.getfield 136, 3) := by decide +kernel
theorem d_m_votes_35 : decode b_m_votes 35 = .ok (.bipush 16, 2) := by decide +kernel
theorem d_m_votes_37 : decode b_m_votes 37 = .ok (.iload_n 1, 1) := by decide +kernel
theorem d_m_votes_38 : decode b_m_votes 38 = .ok (.imul, 1) := by decide +kernel
theorem d_m_votes_39 : decode b_m_votes 39 = .ok (.iload_n 2, 1) := by decide +kernel
theorem d_m_votes_40 : decode b_m_votes 40 = .ok (.iadd, 1) := by decide +kernel
theorem d_m_votes_41 : decode b_m_votes 41 = .ok (.iaload, 1) := by decide +kernel
theorem d_m_votes_42 : decode b_m_votes 42 = .ok (.ireturn, 1) := by decide +kernel
abbrev b_m_carries : ByteArray := prog_14_method_38_code
abbrev y_m_carries : MethodName := ⟨"WhoRulesModel", "carries", "(II)Z"⟩
theorem d_m_carries_0 : decode b_m_carries 0 = .ok (.lconst 0, 1) := by decide +kernel
theorem d_m_carries_1 : decode b_m_carries 1 = .ok (.lstore_n 3, 1) := by decide +kernel
theorem d_m_carries_2 : decode b_m_carries 2 = .ok (.iconst 0, 1) := by decide +kernel
theorem d_m_carries_3 : decode b_m_carries 3 = .ok (.istore 5, 2) := by decide +kernel
theorem d_m_carries_5 : decode b_m_carries 5 = .ok (.iload 5, 2) := by decide +kernel
theorem d_m_carries_7 : decode b_m_carries 7 = .ok (.aload_n 0, 1) := by decide +kernel
theorem d_m_carries_8 : decode b_m_carries 8 = .ok (.getfield 13, 3) := by decide +kernel
theorem d_m_carries_11 : decode b_m_carries 11 = .ok (.if_icmp .ge 39, 3) := by decide +kernel
theorem d_m_carries_14 : decode b_m_carries 14 = .ok (.lload_n 3, 1) := by decide +kernel
theorem d_m_carries_15 : decode b_m_carries 15 = .ok (.iload_n 2, 1) := by decide +kernel
theorem d_m_carries_16 : decode b_m_carries 16 = .ok (.iload 5, 2) := by decide +kernel
theorem d_m_carries_18 : decode b_m_carries 18 = .ok (.ishr, 1) := by decide +kernel
theorem d_m_carries_19 : decode b_m_carries 19 = .ok (.iconst 1, 1) := by decide +kernel
theorem d_m_carries_20 : decode b_m_carries 20 = .ok (.iand, 1) := by decide +kernel
theorem d_m_carries_21 : decode b_m_carries 21 = .ok (.iconst 1, 1) := by decide +kernel
theorem d_m_carries_22 : decode b_m_carries 22 = .ok (.if_icmp .ne 19, 3) := by decide +kernel
theorem d_m_carries_25 : decode b_m_carries 25 = .ok (.aload_n 0, 1) := by decide +kernel
theorem d_m_carries_26 : decode b_m_carries 26 = .ok (.getfield 136, 3) := by decide +kernel
theorem d_m_carries_29 : decode b_m_carries 29 = .ok (.bipush 16, 2) := by decide +kernel
theorem d_m_carries_31 : decode b_m_carries 31 = .ok (.iload_n 1, 1) := by decide +kernel
theorem d_m_carries_32 : decode b_m_carries 32 = .ok (.imul, 1) := by decide +kernel
theorem d_m_carries_33 : decode b_m_carries 33 = .ok (.iload 5, 2) := by decide +kernel
theorem d_m_carries_35 : decode b_m_carries 35 = .ok (.iadd, 1) := by decide +kernel
theorem d_m_carries_36 : decode b_m_carries 36 = .ok (.iaload, 1) := by decide +kernel
theorem d_m_carries_37 : decode b_m_carries 37 = .ok (.i2l, 1) := by decide +kernel
theorem d_m_carries_38 : decode b_m_carries 38 = .ok (.goto 4, 3) := by decide +kernel
theorem d_m_carries_41 : decode b_m_carries 41 = .ok (.lconst 0, 1) := by decide +kernel
theorem d_m_carries_42 : decode b_m_carries 42 = .ok (.ladd, 1) := by decide +kernel
theorem d_m_carries_43 : decode b_m_carries 43 = .ok (.lstore_n 3, 1) := by decide +kernel
theorem d_m_carries_44 : decode b_m_carries 44 = .ok (.iinc 5 1, 3) := by decide +kernel
theorem d_m_carries_47 : decode b_m_carries 47 = .ok (.goto (-42), 3) := by decide +kernel
theorem d_m_carries_50 : decode b_m_carries 50 = .ok (.aload_n 0, 1) := by decide +kernel
theorem d_m_carries_51 : decode b_m_carries 51 = .ok (.getfield 145, 3) := by decide +kernel
theorem d_m_carries_54 : decode b_m_carries 54 = .ok (.iload_n 1, 1) := by decide +kernel
theorem d_m_carries_55 : decode b_m_carries 55 = .ok (.iaload, 1) := by decide +kernel
theorem d_m_carries_56 : decode b_m_carries 56 = .ok (.i2l, 1) := by decide +kernel
theorem d_m_carries_57 : decode b_m_carries 57 = .ok (.lload_n 3, 1) := by decide +kernel
theorem d_m_carries_58 : decode b_m_carries 58 = .ok (.lmul, 1) := by decide +kernel
theorem d_m_carries_59 : decode b_m_carries 59 = .ok (.aload_n 0, 1) := by decide +kernel
theorem d_m_carries_60 : decode b_m_carries 60 = .ok (.getfield 142, 3) := by decide +kernel
theorem d_m_carries_63 : decode b_m_carries 63 = .ok (.iload_n 1, 1) := by decide +kernel
theorem d_m_carries_64 : decode b_m_carries 64 = .ok (.iaload, 1) := by decide +kernel
theorem d_m_carries_65 : decode b_m_carries 65 = .ok (.i2l, 1) := by decide +kernel
theorem d_m_carries_66 : decode b_m_carries 66 = .ok (.aload_n 0, 1) := by decide +kernel
theorem d_m_carries_67 : decode b_m_carries 67 = .ok (.getfield 139, 3) := by decide +kernel
theorem d_m_carries_70 : decode b_m_carries 70 = .ok (.iload_n 1, 1) := by decide +kernel
theorem d_m_carries_71 : decode b_m_carries 71 = .ok (.iaload, 1) := by decide +kernel
theorem d_m_carries_72 : decode b_m_carries 72 = .ok (.i2l, 1) := by decide +kernel
theorem d_m_carries_73 : decode b_m_carries 73 = .ok (.lmul, 1) := by decide +kernel
theorem d_m_carries_74 : decode b_m_carries 74 = .ok (.lcmp, 1) := by decide +kernel
theorem d_m_carries_75 : decode b_m_carries 75 = .ok (.ifCond .le 30, 3) := by decide +kernel
theorem d_m_carries_78 : decode b_m_carries 78 = .ok (.aload_n 0, 1) := by decide +kernel
theorem d_m_carries_79 : decode b_m_carries 79 = .ok (.getfield 148, 3) := by decide +kernel
theorem d_m_carries_82 : decode b_m_carries 82 = .ok (.iload_n 1, 1) := by decide +kernel
theorem d_m_carries_83 : decode b_m_carries 83 = .ok (.iaload, 1) := by decide +kernel
theorem d_m_carries_84 : decode b_m_carries 84 = .ok (.ifCond .lt 17, 3) := by decide +kernel
theorem d_m_carries_87 : decode b_m_carries 87 = .ok (.iload_n 2, 1) := by decide +kernel
theorem d_m_carries_88 : decode b_m_carries 88 = .ok (.aload_n 0, 1) := by decide +kernel
theorem d_m_carries_89 : decode b_m_carries 89 = .ok (.getfield 148, 3) := by decide +kernel
theorem d_m_carries_92 : decode b_m_carries 92 = .ok (.iload_n 1, 1) := by decide +kernel
theorem d_m_carries_93 : decode b_m_carries 93 = .ok (.iaload, 1) := by decide +kernel
theorem d_m_carries_94 : decode b_m_carries 94 = .ok (.ishr, 1) := by decide +kernel
theorem d_m_carries_95 : decode b_m_carries 95 = .ok (.iconst 1, 1) := by decide +kernel
theorem d_m_carries_96 : decode b_m_carries 96 = .ok (.iand, 1) := by decide +kernel
theorem d_m_carries_97 : decode b_m_carries 97 = .ok (.iconst 1, 1) := by decide +kernel
theorem d_m_carries_98 : decode b_m_carries 98 = .ok (.if_icmp .ne 7, 3) := by decide +kernel
theorem d_m_carries_101 : decode b_m_carries 101 = .ok (.iconst 1, 1) := by decide +kernel
theorem d_m_carries_102 : decode b_m_carries 102 = .ok (.goto 4, 3) := by decide +kernel
theorem d_m_carries_105 : decode b_m_carries 105 = .ok (.iconst 0, 1) := by decide +kernel
theorem d_m_carries_106 : decode b_m_carries 106 = .ok (.ireturn, 1) := by decide +kernel
abbrev b_m_carry : ByteArray := prog_14_method_39_code
abbrev y_m_carry : MethodName := ⟨"WhoRulesModel", "carry", "(III)I"⟩
theorem d_m_carry_0 : decode b_m_carry 0 = .ok (.aload_n 0, 1) := by decide +kernel
theorem d_m_carry_1 : decode b_m_carry 1 = .ok (.iload_n 1, 1) := by decide +kernel
theorem d_m_carry_2 : decode b_m_carry 2 = .ok (.invokevirtual 254, 3) := by decide +kernel
theorem d_m_carry_5 : decode b_m_carry 5 = .ok (.ifCond .eq 11, 3) := by decide +kernel
theorem d_m_carry_8 : decode b_m_carry 8 = .ok (.aload_n 0, 1) := by decide +kernel
theorem d_m_carry_9 : decode b_m_carry 9 = .ok (.iload_n 3, 1) := by decide +kernel
theorem d_m_carry_10 : decode b_m_carry 10 = .ok (.invokevirtual 264, 3) := by decide +kernel
theorem d_m_carry_13 : decode b_m_carry 13 = .ok (.ifCond .ne 5, 3) := by decide +kernel
theorem d_m_carry_16 : decode b_m_carry 16 = .ok (.iconst (-1), 1) := by decide +kernel
theorem d_m_carry_17 : decode b_m_carry 17 = .ok (.ireturn, 1) := by decide +kernel
theorem d_m_carry_18 : decode b_m_carry 18 = .ok (.aload_n 0, 1) := by decide +kernel
theorem d_m_carry_19 : decode b_m_carry 19 = .ok (.iload_n 2, 1) := by decide +kernel
theorem d_m_carry_20 : decode b_m_carry 20 = .ok (.iconst 0, 1) := by decide +kernel
theorem d_m_carry_21 : decode b_m_carry 21 = .ok (.iconst 1, 1) := by decide +kernel
theorem d_m_carry_22 : decode b_m_carry 22 = .ok (.aload_n 0, 1) := by decide +kernel
theorem d_m_carry_23 : decode b_m_carry 23 = .ok (.getfield 13, 3) := by decide +kernel
theorem d_m_carry_26 : decode b_m_carry 26 = .ok (.ishl, 1) := by decide +kernel
theorem d_m_carry_27 : decode b_m_carry 27 = .ok (.iconst 1, 1) := by decide +kernel
theorem d_m_carry_28 : decode b_m_carry 28 = .ok (.isub, 1) := by decide +kernel
theorem d_m_carry_29 : decode b_m_carry 29 = .ok (.invokevirtual 246, 3) := by decide +kernel
theorem d_m_carry_32 : decode b_m_carry 32 = .ok (.ifCond .ne 6, 3) := by decide +kernel
theorem d_m_carry_35 : decode b_m_carry 35 = .ok (.bipush (-2), 2) := by decide +kernel
theorem d_m_carry_37 : decode b_m_carry 37 = .ok (.ireturn, 1) := by decide +kernel
theorem d_m_carry_38 : decode b_m_carry 38 = .ok (.aload_n 0, 1) := by decide +kernel
theorem d_m_carry_39 : decode b_m_carry 39 = .ok (.iload_n 3, 1) := by decide +kernel
theorem d_m_carry_40 : decode b_m_carry 40 = .ok (.invokevirtual 328, 3) := by decide +kernel
theorem d_m_carry_43 : decode b_m_carry 43 = .ok (.aload_n 0, 1) := by decide +kernel
theorem d_m_carry_44 : decode b_m_carry 44 = .ok (.iload_n 1, 1) := by decide +kernel
theorem d_m_carry_45 : decode b_m_carry 45 = .ok (.iload_n 2, 1) := by decide +kernel
theorem d_m_carry_46 : decode b_m_carry 46 = .ok (.invokevirtual 331, 3) := by decide +kernel
theorem d_m_carry_49 : decode b_m_carry 49 = .ok (.ifCond .eq 7, 3) := by decide +kernel
theorem d_m_carry_52 : decode b_m_carry 52 = .ok (.iconst 1, 1) := by decide +kernel
theorem d_m_carry_53 : decode b_m_carry 53 = .ok (.goto 4, 3) := by decide +kernel
theorem d_m_carry_56 : decode b_m_carry 56 = .ok (.iconst 0, 1) := by decide +kernel
theorem d_m_carry_57 : decode b_m_carry 57 = .ok (.ireturn, 1) := by decide +kernel
abbrev b_m_leastKin : ByteArray := prog_14_method_40_code
abbrev y_m_leastKin : MethodName := ⟨"WhoRulesModel", "leastKin", "(I)I"⟩
theorem d_m_leastKin_0 : decode b_m_leastKin 0 = .ok (.iconst 0, 1) := by decide +kernel
theorem d_m_leastKin_1 : decode b_m_leastKin 1 = .ok (.istore_n 2, 1) := by decide +kernel
theorem d_m_leastKin_2 : decode b_m_leastKin 2 = .ok (.aload_n 0, 1) := by decide +kernel
theorem d_m_leastKin_3 : decode b_m_leastKin 3 = .ok (.getfield 25, 3) := by decide +kernel
theorem d_m_leastKin_6 : decode b_m_leastKin 6 = .ok (.iload_n 2, 1) := by decide +kernel
theorem d_m_leastKin_7 : decode b_m_leastKin 7 = .ok (.iaload, 1) := by decide +kernel
theorem d_m_leastKin_8 : decode b_m_leastKin 8 = .ok (.iconst 3, 1) := by decide +kernel
theorem d_m_leastKin_9 : decode b_m_leastKin 9 = .ok (.if_icmp .ne 18, 3) := by decide +kernel
theorem d_m_leastKin_12 : decode b_m_leastKin 12 = .ok (.aload_n 0, 1) := by decide +kernel
theorem d_m_leastKin_13 : decode b_m_leastKin 13 = .ok (.getfield 29, 3) := by decide +kernel
theorem d_m_leastKin_16 : decode b_m_leastKin 16 = .ok (.iload_n 2, 1) := by decide +kernel
theorem d_m_leastKin_17 : decode b_m_leastKin 17 = .ok (.iaload, 1) := by decide +kernel
theorem d_m_leastKin_18 : decode b_m_leastKin 18 = .ok (.aload_n 0, 1) := by decide +kernel
theorem d_m_leastKin_19 : decode b_m_leastKin 19 = .ok (.getfield 29, 3) := by decide +kernel
theorem d_m_leastKin_22 : decode b_m_leastKin 22 = .ok (.iload_n 1, 1) := by decide +kernel
theorem d_m_leastKin_23 : decode b_m_leastKin 23 = .ok (.iaload, 1) := by decide +kernel
theorem d_m_leastKin_24 : decode b_m_leastKin 24 = .ok (.if_icmp .eq 9, 3) := by decide +kernel
theorem d_m_leastKin_27 : decode b_m_leastKin 27 = .ok (.iinc 2 1, 3) := by decide +kernel
theorem d_m_leastKin_30 : decode b_m_leastKin 30 = .ok (.goto (-28), 3) := by decide +kernel
theorem d_m_leastKin_33 : decode b_m_leastKin 33 = .ok (.iload_n 2, 1) := by decide +kernel
theorem d_m_leastKin_34 : decode b_m_leastKin 34 = .ok (.ireturn, 1) := by decide +kernel
abbrev b_m_isRuler : ByteArray := prog_14_method_41_code
abbrev y_m_isRuler : MethodName := ⟨"WhoRulesModel", "isRuler", "(I)Z"⟩
theorem d_m_isRuler_0 : decode b_m_isRuler 0 = .ok (.aload_n 0, 1) := by decide +kernel
theorem d_m_isRuler_1 : decode b_m_isRuler 1 = .ok (.iload_n 1, 1) := by decide +kernel
theorem d_m_isRuler_2 : decode b_m_isRuler 2 = .ok (.invokevirtual 250, 3) := by decide +kernel
theorem d_m_isRuler_5 : decode b_m_isRuler 5 = .ok (.ifCond .eq 36, 3) := by decide +kernel
theorem d_m_isRuler_8 : decode b_m_isRuler 8 = .ok (.aload_n 0, 1) := by decide +kernel
theorem d_m_isRuler_9 : decode b_m_isRuler 9 = .ok (.getfield 25, 3) := by decide +kernel
theorem d_m_isRuler_12 : decode b_m_isRuler 12 = .ok (.iload_n 1, 1) := by decide +kernel
theorem d_m_isRuler_13 : decode b_m_isRuler 13 = .ok (.iaload, 1) := by decide +kernel
theorem d_m_isRuler_14 : decode b_m_isRuler 14 = .ok (.iconst 2, 1) := by decide +kernel
theorem d_m_isRuler_15 : decode b_m_isRuler 15 = .ok (.if_icmp .eq 22, 3) := by decide +kernel
theorem d_m_isRuler_18 : decode b_m_isRuler 18 = .ok (.aload_n 0, 1) := by decide +kernel
theorem d_m_isRuler_19 : decode b_m_isRuler 19 = .ok (.getfield 25, 3) := by decide +kernel
theorem d_m_isRuler_22 : decode b_m_isRuler 22 = .ok (.iload_n 1, 1) := by decide +kernel
theorem d_m_isRuler_23 : decode b_m_isRuler 23 = .ok (.iaload, 1) := by decide +kernel
theorem d_m_isRuler_24 : decode b_m_isRuler 24 = .ok (.iconst 3, 1) := by decide +kernel
theorem d_m_isRuler_25 : decode b_m_isRuler 25 = .ok (.if_icmp .ne 16, 3) := by decide +kernel
theorem d_m_isRuler_28 : decode b_m_isRuler 28 = .ok (.aload_n 0, 1) := by decide +kernel
theorem d_m_isRuler_29 : decode b_m_isRuler 29 = .ok (.iload_n 1, 1) := by decide +kernel
theorem d_m_isRuler_30 : decode b_m_isRuler 30 = .ok (.invokevirtual 334, 3) := by decide +kernel
theorem d_m_isRuler_33 : decode b_m_isRuler 33 = .ok (.iload_n 1, 1) := by decide +kernel
theorem d_m_isRuler_34 : decode b_m_isRuler 34 = .ok (.if_icmp .ne 7, 3) := by decide +kernel
theorem d_m_isRuler_37 : decode b_m_isRuler 37 = .ok (.iconst 1, 1) := by decide +kernel
theorem d_m_isRuler_38 : decode b_m_isRuler 38 = .ok (.goto 4, 3) := by decide +kernel
theorem d_m_isRuler_41 : decode b_m_isRuler 41 = .ok (.iconst 0, 1) := by decide +kernel
theorem d_m_isRuler_42 : decode b_m_isRuler 42 = .ok (.ireturn, 1) := by decide +kernel
abbrev b_m_groupOf : ByteArray := prog_14_method_42_code
abbrev y_m_groupOf : MethodName := ⟨"WhoRulesModel", "groupOf", "(I)I"⟩
theorem d_m_groupOf_0 : decode b_m_groupOf 0 = .ok (.iconst 1, 1) := by decide +kernel
theorem d_m_groupOf_1 : decode b_m_groupOf 1 = .ok (.iload_n 1, 1) := by decide +kernel
theorem d_m_groupOf_2 : decode b_m_groupOf 2 = .ok (.ishl, 1) := by decide +kernel
theorem d_m_groupOf_3 : decode b_m_groupOf 3 = .ok (.istore_n 2, 1) := by decide +kernel
theorem d_m_groupOf_4 : decode b_m_groupOf 4 = .ok (.iconst 0, 1) := by decide +kernel
theorem d_m_groupOf_5 : decode b_m_groupOf 5 = .ok (.istore_n 3, 1) := by decide +kernel
theorem d_m_groupOf_6 : decode b_m_groupOf 6 = .ok (.iload_n 3, 1) := by decide +kernel
theorem d_m_groupOf_7 : decode b_m_groupOf 7 = .ok (.aload_n 0, 1) := by decide +kernel
theorem d_m_groupOf_8 : decode b_m_groupOf 8 = .ok (.getfield 13, 3) := by decide +kernel
theorem d_m_groupOf_11 : decode b_m_groupOf 11 = .ok (.if_icmp .ge 74, 3) := by decide +kernel
theorem d_m_groupOf_14 : decode b_m_groupOf 14 = .ok (.iload_n 2, 1) := by decide +kernel
theorem d_m_groupOf_15 : decode b_m_groupOf 15 = .ok (.aload_n 0, 1) := by decide +kernel
theorem d_m_groupOf_16 : decode b_m_groupOf 16 = .ok (.getfield 25, 3) := by decide +kernel
theorem d_m_groupOf_19 : decode b_m_groupOf 19 = .ok (.iload_n 3, 1) := by decide +kernel
theorem d_m_groupOf_20 : decode b_m_groupOf 20 = .ok (.iaload, 1) := by decide +kernel
theorem d_m_groupOf_21 : decode b_m_groupOf 21 = .ok (.iconst 1, 1) := by decide +kernel
theorem d_m_groupOf_22 : decode b_m_groupOf 22 = .ok (.if_icmp .ne 13, 3) := by decide +kernel
theorem d_m_groupOf_25 : decode b_m_groupOf 25 = .ok (.aload_n 0, 1) := by decide +kernel
theorem d_m_groupOf_26 : decode b_m_groupOf 26 = .ok (.getfield 151, 3) := by decide +kernel
theorem d_m_groupOf_29 : decode b_m_groupOf 29 = .ok (.iload_n 3, 1) := by decide +kernel
theorem d_m_groupOf_30 : decode b_m_groupOf 30 = .ok (.iaload, 1) := by decide +kernel
theorem d_m_groupOf_31 : decode b_m_groupOf 31 = .ok (.iload_n 1, 1) := by decide +kernel
theorem d_m_groupOf_32 : decode b_m_groupOf 32 = .ok (.if_icmp .eq 38, 3) := by decide +kernel
theorem d_m_groupOf_35 : decode b_m_groupOf 35 = .ok (.aload_n 0, 1) := by decide +kernel
theorem d_m_groupOf_36 : decode b_m_groupOf 36 = .ok (.getfield 25, 3) := by decide +kernel
theorem d_m_groupOf_39 : decode b_m_groupOf 39 = .ok (.iload_n 3, 1) := by decide +kernel
theorem d_m_groupOf_40 : decode b_m_groupOf 40 = .ok (.iaload, 1) := by decide +kernel
theorem d_m_groupOf_41 : decode b_m_groupOf 41 = .ok (.iconst 3, 1) := by decide +kernel
theorem d_m_groupOf_42 : decode b_m_groupOf 42 = .ok (.if_icmp .ne 34, 3) := by decide +kernel
theorem d_m_groupOf_45 : decode b_m_groupOf 45 = .ok (.aload_n 0, 1) := by decide +kernel
theorem d_m_groupOf_46 : decode b_m_groupOf 46 = .ok (.getfield 25, 3) := by decide +kernel
theorem d_m_groupOf_49 : decode b_m_groupOf 49 = .ok (.iload_n 1, 1) := by decide +kernel
theorem d_m_groupOf_50 : decode b_m_groupOf 50 = .ok (.iaload, 1) := by decide +kernel
theorem d_m_groupOf_51 : decode b_m_groupOf 51 = .ok (.iconst 3, 1) := by decide +kernel
theorem d_m_groupOf_52 : decode b_m_groupOf 52 = .ok (.if_icmp .ne 24, 3) := by decide +kernel
theorem d_m_groupOf_55 : decode b_m_groupOf 55 = .ok (.aload_n 0, 1) := by decide +kernel
theorem d_m_groupOf_56 : decode b_m_groupOf 56 = .ok (.getfield 29, 3) := by decide +kernel
theorem d_m_groupOf_59 : decode b_m_groupOf 59 = .ok (.iload_n 3, 1) := by decide +kernel
theorem d_m_groupOf_60 : decode b_m_groupOf 60 = .ok (.iaload, 1) := by decide +kernel
theorem d_m_groupOf_61 : decode b_m_groupOf 61 = .ok (.aload_n 0, 1) := by decide +kernel
theorem d_m_groupOf_62 : decode b_m_groupOf 62 = .ok (.getfield 29, 3) := by decide +kernel
theorem d_m_groupOf_65 : decode b_m_groupOf 65 = .ok (.iload_n 1, 1) := by decide +kernel
theorem d_m_groupOf_66 : decode b_m_groupOf 66 = .ok (.iaload, 1) := by decide +kernel
theorem d_m_groupOf_67 : decode b_m_groupOf 67 = .ok (.if_icmp .ne 9, 3) := by decide +kernel
theorem d_m_groupOf_70 : decode b_m_groupOf 70 = .ok (.iconst 1, 1) := by decide +kernel
theorem d_m_groupOf_71 : decode b_m_groupOf 71 = .ok (.iload_n 3, 1) := by decide +kernel
theorem d_m_groupOf_72 : decode b_m_groupOf 72 = .ok (.ishl, 1) := by decide +kernel
theorem d_m_groupOf_73 : decode b_m_groupOf 73 = .ok (.goto 4, 3) := by decide +kernel
theorem d_m_groupOf_76 : decode b_m_groupOf 76 = .ok (.iconst 0, 1) := by decide +kernel
theorem d_m_groupOf_77 : decode b_m_groupOf 77 = .ok (.ior, 1) := by decide +kernel
theorem d_m_groupOf_78 : decode b_m_groupOf 78 = .ok (.istore_n 2, 1) := by decide +kernel
theorem d_m_groupOf_79 : decode b_m_groupOf 79 = .ok (.iinc 3 1, 3) := by decide +kernel
theorem d_m_groupOf_82 : decode b_m_groupOf 82 = .ok (.goto (-76), 3) := by decide +kernel
theorem d_m_groupOf_85 : decode b_m_groupOf 85 = .ok (.iload_n 2, 1) := by decide +kernel
theorem d_m_groupOf_86 : decode b_m_groupOf 86 = .ok (.ireturn, 1) := by decide +kernel
abbrev b_m_nobodyRules : ByteArray := prog_14_method_43_code
abbrev y_m_nobodyRules : MethodName := ⟨"WhoRulesModel", "nobodyRules", "()V"⟩
theorem d_m_nobodyRules_0 : decode b_m_nobodyRules 0 = .ok (.aload_n 0, 1) := by decide +kernel
theorem d_m_nobodyRules_1 : decode b_m_nobodyRules 1 = .ok (.iconst 0, 1) := by decide +kernel
theorem d_m_nobodyRules_2 : decode b_m_nobodyRules 2 = .ok (.putfield 157, 3) := by decide +kernel
theorem d_m_nobodyRules_5 : decode b_m_nobodyRules 5 = .ok (.iconst 0, 1) := by decide +kernel
theorem d_m_nobodyRules_6 : decode b_m_nobodyRules 6 = .ok (.istore_n 1, 1) := by decide +kernel
theorem d_m_nobodyRules_7 : decode b_m_nobodyRules 7 = .ok (.iload_n 1, 1) := by decide +kernel
theorem d_m_nobodyRules_8 : decode b_m_nobodyRules 8 = .ok (.bipush 16, 2) := by decide +kernel
theorem d_m_nobodyRules_10 : decode b_m_nobodyRules 10 = .ok (.if_icmp .ge 16, 3) := by decide +kernel
theorem d_m_nobodyRules_13 : decode b_m_nobodyRules 13 = .ok (.aload_n 0, 1) := by decide +kernel
theorem d_m_nobodyRules_14 : decode b_m_nobodyRules 14 = .ok (.getfield 151, 3) := by decide +kernel
theorem d_m_nobodyRules_17 : decode b_m_nobodyRules 17 = .ok (.iload_n 1, 1) := by decide +kernel
theorem d_m_nobodyRules_18 : decode b_m_nobodyRules 18 = .ok (.iconst (-1), 1) := by decide +kernel
theorem d_m_nobodyRules_19 : decode b_m_nobodyRules 19 = .ok (.iastore, 1) := by decide +kernel
theorem d_m_nobodyRules_20 : decode b_m_nobodyRules 20 = .ok (.iinc 1 1, 3) := by decide +kernel
theorem d_m_nobodyRules_23 : decode b_m_nobodyRules 23 = .ok (.goto (-16), 3) := by decide +kernel
theorem d_m_nobodyRules_26 : decode b_m_nobodyRules 26 = .ok (.return_, 1) := by decide +kernel
abbrev b_m_findLeast : ByteArray := prog_14_method_44_code
abbrev y_m_findLeast : MethodName := ⟨"WhoRulesModel", "findLeast", "()V"⟩
theorem d_m_findLeast_0 : decode b_m_findLeast 0 = .ok (.aload_n 0, 1) := by decide +kernel
theorem d_m_findLeast_1 : decode b_m_findLeast 1 = .ok (.invokevirtual 338, 3) := by decide +kernel
theorem d_m_findLeast_4 : decode b_m_findLeast 4 = .ok (.iconst 1, 1) := by decide +kernel
theorem d_m_findLeast_5 : decode b_m_findLeast 5 = .ok (.istore_n 1, 1) := by decide +kernel
theorem d_m_findLeast_6 : decode b_m_findLeast 6 = .ok (.iload_n 1, 1) := by decide +kernel
theorem d_m_findLeast_7 : decode b_m_findLeast 7 = .ok (.ifCond .eq 133, 3) := by decide +kernel
theorem d_m_findLeast_10 : decode b_m_findLeast 10 = .ok (.iconst 0, 1) := by decide +kernel
theorem d_m_findLeast_11 : decode b_m_findLeast 11 = .ok (.istore_n 1, 1) := by decide +kernel
theorem d_m_findLeast_12 : decode b_m_findLeast 12 = .ok (.iconst 0, 1) := by decide +kernel
theorem d_m_findLeast_13 : decode b_m_findLeast 13 = .ok (.istore_n 2, 1) := by decide +kernel
theorem d_m_findLeast_14 : decode b_m_findLeast 14 = .ok (.iload_n 2, 1) := by decide +kernel
theorem d_m_findLeast_15 : decode b_m_findLeast 15 = .ok (.aload_n 0, 1) := by decide +kernel
theorem d_m_findLeast_16 : decode b_m_findLeast 16 = .ok (.getfield 13, 3) := by decide +kernel
theorem d_m_findLeast_19 : decode b_m_findLeast 19 = .ok (.if_icmp .ge 118, 3) := by decide +kernel
theorem d_m_findLeast_22 : decode b_m_findLeast 22 = .ok (.aload_n 0, 1) := by decide +kernel
theorem d_m_findLeast_23 : decode b_m_findLeast 23 = .ok (.getfield 25, 3) := by decide +kernel
theorem d_m_findLeast_26 : decode b_m_findLeast 26 = .ok (.iload_n 2, 1) := by decide +kernel
theorem d_m_findLeast_27 : decode b_m_findLeast 27 = .ok (.iaload, 1) := by decide +kernel
theorem d_m_findLeast_28 : decode b_m_findLeast 28 = .ok (.iconst 1, 1) := by decide +kernel
theorem d_m_findLeast_29 : decode b_m_findLeast 29 = .ok (.if_icmp .ne 102, 3) := by decide +kernel
theorem d_m_findLeast_32 : decode b_m_findLeast 32 = .ok (.aload_n 0, 1) := by decide +kernel
theorem d_m_findLeast_33 : decode b_m_findLeast 33 = .ok (.getfield 151, 3) := by decide +kernel
theorem d_m_findLeast_36 : decode b_m_findLeast 36 = .ok (.iload_n 2, 1) := by decide +kernel
theorem d_m_findLeast_37 : decode b_m_findLeast 37 = .ok (.iaload, 1) := by decide +kernel
theorem d_m_findLeast_38 : decode b_m_findLeast 38 = .ok (.ifCond .lt 6, 3) := by decide +kernel
theorem d_m_findLeast_41 : decode b_m_findLeast 41 = .ok (.goto 90, 3) := by decide +kernel
theorem d_m_findLeast_44 : decode b_m_findLeast 44 = .ok (.iconst 0, 1) := by decide +kernel
theorem d_m_findLeast_45 : decode b_m_findLeast 45 = .ok (.istore_n 3, 1) := by decide +kernel
theorem d_m_findLeast_46 : decode b_m_findLeast 46 = .ok (.iload_n 3, 1) := by decide +kernel
theorem d_m_findLeast_47 : decode b_m_findLeast 47 = .ok (.aload_n 0, 1) := by decide +kernel
theorem d_m_findLeast_48 : decode b_m_findLeast 48 = .ok (.getfield 13, 3) := by decide +kernel
theorem d_m_findLeast_51 : decode b_m_findLeast 51 = .ok (.if_icmp .ge 46, 3) := by decide +kernel
theorem d_m_findLeast_54 : decode b_m_findLeast 54 = .ok (.aload_n 0, 1) := by decide +kernel
theorem d_m_findLeast_55 : decode b_m_findLeast 55 = .ok (.getfield 151, 3) := by decide +kernel
theorem d_m_findLeast_58 : decode b_m_findLeast 58 = .ok (.iload_n 2, 1) := by decide +kernel
theorem d_m_findLeast_59 : decode b_m_findLeast 59 = .ok (.iaload, 1) := by decide +kernel
theorem d_m_findLeast_60 : decode b_m_findLeast 60 = .ok (.ifCond .ge 37, 3) := by decide +kernel
theorem d_m_findLeast_63 : decode b_m_findLeast 63 = .ok (.aload_n 0, 1) := by decide +kernel
theorem d_m_findLeast_64 : decode b_m_findLeast 64 = .ok (.iload_n 3, 1) := by decide +kernel
theorem d_m_findLeast_65 : decode b_m_findLeast 65 = .ok (.invokevirtual 341, 3) := by decide +kernel
theorem d_m_findLeast_68 : decode b_m_findLeast 68 = .ok (.ifCond .eq 23, 3) := by decide +kernel
theorem d_m_findLeast_71 : decode b_m_findLeast 71 = .ok (.aload_n 0, 1) := by decide +kernel
theorem d_m_findLeast_72 : decode b_m_findLeast 72 = .ok (.iload_n 2, 1) := by decide +kernel
theorem d_m_findLeast_73 : decode b_m_findLeast 73 = .ok (.aload_n 0, 1) := by decide +kernel
theorem d_m_findLeast_74 : decode b_m_findLeast 74 = .ok (.iload_n 3, 1) := by decide +kernel
theorem d_m_findLeast_75 : decode b_m_findLeast 75 = .ok (.invokevirtual 344, 3) := by decide +kernel
theorem d_m_findLeast_78 : decode b_m_findLeast 78 = .ok (.invokevirtual 331, 3) := by decide +kernel
theorem d_m_findLeast_81 : decode b_m_findLeast 81 = .ok (.ifCond .eq 10, 3) := by decide +kernel
theorem d_m_findLeast_84 : decode b_m_findLeast 84 = .ok (.aload_n 0, 1) := by decide +kernel
theorem d_m_findLeast_85 : decode b_m_findLeast 85 = .ok (.getfield 151, 3) := by decide +kernel
theorem d_m_findLeast_88 : decode b_m_findLeast 88 = .ok (.iload_n 2, 1) := by decide +kernel
theorem d_m_findLeast_89 : decode b_m_findLeast 89 = .ok (.iload_n 3, 1) := by decide +kernel
theorem d_m_findLeast_90 : decode b_m_findLeast 90 = .ok (.iastore, 1) := by decide +kernel
theorem d_m_findLeast_91 : decode b_m_findLeast 91 = .ok (.iinc 3 1, 3) := by decide +kernel
theorem d_m_findLeast_94 : decode b_m_findLeast 94 = .ok (.goto (-48), 3) := by decide +kernel
theorem d_m_findLeast_97 : decode b_m_findLeast 97 = .ok (.aload_n 0, 1) := by decide +kernel
theorem d_m_findLeast_98 : decode b_m_findLeast 98 = .ok (.getfield 151, 3) := by decide +kernel
theorem d_m_findLeast_101 : decode b_m_findLeast 101 = .ok (.iload_n 2, 1) := by decide +kernel
theorem d_m_findLeast_102 : decode b_m_findLeast 102 = .ok (.iaload, 1) := by decide +kernel
theorem d_m_findLeast_103 : decode b_m_findLeast 103 = .ok (.ifCond .ge 6, 3) := by decide +kernel
theorem d_m_findLeast_106 : decode b_m_findLeast 106 = .ok (.goto 25, 3) := by decide +kernel
theorem d_m_findLeast_109 : decode b_m_findLeast 109 = .ok (.aload_n 0, 1) := by decide +kernel
theorem d_m_findLeast_110 : decode b_m_findLeast 110 = .ok (.getfield 154, 3) := by decide +kernel
theorem d_m_findLeast_113 : decode b_m_findLeast 113 = .ok (.aload_n 0, 1) := by decide +kernel
theorem d_m_findLeast_114 : decode b_m_findLeast 114 = .ok (.getfield 157, 3) := by decide +kernel
theorem d_m_findLeast_117 : decode b_m_findLeast 117 = .ok (.iload_n 2, 1) := by decide +kernel
theorem d_m_findLeast_118 : decode b_m_findLeast 118 = .ok (.iastore, 1) := by decide +kernel
theorem d_m_findLeast_119 : decode b_m_findLeast 119 = .ok (.aload_n 0, 1) := by decide +kernel
theorem d_m_findLeast_120 : decode b_m_findLeast 120 = .ok (.dup, 1) := by decide +kernel
theorem d_m_findLeast_121 : decode b_m_findLeast 121 = .ok (.getfield 157, 3) := by decide +kernel
theorem d_m_findLeast_124 : decode b_m_findLeast 124 = .ok (.iconst 1, 1) := by decide +kernel
theorem d_m_findLeast_125 : decode b_m_findLeast 125 = .ok (.iadd, 1) := by decide +kernel
theorem d_m_findLeast_126 : decode b_m_findLeast 126 = .ok (.putfield 157, 3) := by decide +kernel
theorem d_m_findLeast_129 : decode b_m_findLeast 129 = .ok (.iconst 1, 1) := by decide +kernel
theorem d_m_findLeast_130 : decode b_m_findLeast 130 = .ok (.istore_n 1, 1) := by decide +kernel
theorem d_m_findLeast_131 : decode b_m_findLeast 131 = .ok (.iinc 2 1, 3) := by decide +kernel
theorem d_m_findLeast_134 : decode b_m_findLeast 134 = .ok (.goto (-120), 3) := by decide +kernel
theorem d_m_findLeast_137 : decode b_m_findLeast 137 = .ok (.goto (-131), 3) := by decide +kernel
theorem d_m_findLeast_140 : decode b_m_findLeast 140 = .ok (.return_, 1) := by decide +kernel
abbrev b_m_least : ByteArray := prog_14_method_45_code
abbrev y_m_least : MethodName := ⟨"WhoRulesModel", "least", "(I)V"⟩
theorem d_m_least_0 : decode b_m_least 0 = .ok (.aload_n 0, 1) := by decide +kernel
theorem d_m_least_1 : decode b_m_least 1 = .ok (.iload_n 1, 1) := by decide +kernel
theorem d_m_least_2 : decode b_m_least 2 = .ok (.invokevirtual 328, 3) := by decide +kernel
theorem d_m_least_5 : decode b_m_least 5 = .ok (.aload_n 0, 1) := by decide +kernel
theorem d_m_least_6 : decode b_m_least 6 = .ok (.invokevirtual 347, 3) := by decide +kernel
theorem d_m_least_9 : decode b_m_least 9 = .ok (.return_, 1) := by decide +kernel
abbrev b_m_ruler : ByteArray := prog_14_method_46_code
abbrev y_m_ruler : MethodName := ⟨"WhoRulesModel", "ruler", "(II)I"⟩
theorem d_m_ruler_0 : decode b_m_ruler 0 = .ok (.aload_n 0, 1) := by decide +kernel
theorem d_m_ruler_1 : decode b_m_ruler 1 = .ok (.iload_n 1, 1) := by decide +kernel
theorem d_m_ruler_2 : decode b_m_ruler 2 = .ok (.invokevirtual 254, 3) := by decide +kernel
theorem d_m_ruler_5 : decode b_m_ruler 5 = .ok (.ifCond .eq 11, 3) := by decide +kernel
theorem d_m_ruler_8 : decode b_m_ruler 8 = .ok (.aload_n 0, 1) := by decide +kernel
theorem d_m_ruler_9 : decode b_m_ruler 9 = .ok (.iload_n 2, 1) := by decide +kernel
theorem d_m_ruler_10 : decode b_m_ruler 10 = .ok (.invokevirtual 264, 3) := by decide +kernel
theorem d_m_ruler_13 : decode b_m_ruler 13 = .ok (.ifCond .ne 5, 3) := by decide +kernel
theorem d_m_ruler_16 : decode b_m_ruler 16 = .ok (.iconst (-1), 1) := by decide +kernel
theorem d_m_ruler_17 : decode b_m_ruler 17 = .ok (.ireturn, 1) := by decide +kernel
theorem d_m_ruler_18 : decode b_m_ruler 18 = .ok (.aload_n 0, 1) := by decide +kernel
theorem d_m_ruler_19 : decode b_m_ruler 19 = .ok (.iload_n 2, 1) := by decide +kernel
theorem d_m_ruler_20 : decode b_m_ruler 20 = .ok (.invokevirtual 350, 3) := by decide +kernel
theorem d_m_ruler_23 : decode b_m_ruler 23 = .ok (.aload_n 0, 1) := by decide +kernel
theorem d_m_ruler_24 : decode b_m_ruler 24 = .ok (.getfield 151, 3) := by decide +kernel
theorem d_m_ruler_27 : decode b_m_ruler 27 = .ok (.iload_n 1, 1) := by decide +kernel
theorem d_m_ruler_28 : decode b_m_ruler 28 = .ok (.iaload, 1) := by decide +kernel
theorem d_m_ruler_29 : decode b_m_ruler 29 = .ok (.ifCond .ge 8, 3) := by decide +kernel
theorem d_m_ruler_32 : decode b_m_ruler 32 = .ok (.bipush (-5), 2) := by decide +kernel
theorem d_m_ruler_34 : decode b_m_ruler 34 = .ok (.goto 9, 3) := by decide +kernel
theorem d_m_ruler_37 : decode b_m_ruler 37 = .ok (.aload_n 0, 1) := by decide +kernel
theorem d_m_ruler_38 : decode b_m_ruler 38 = .ok (.getfield 151, 3) := by decide +kernel
theorem d_m_ruler_41 : decode b_m_ruler 41 = .ok (.iload_n 1, 1) := by decide +kernel
theorem d_m_ruler_42 : decode b_m_ruler 42 = .ok (.iaload, 1) := by decide +kernel
theorem d_m_ruler_43 : decode b_m_ruler 43 = .ok (.ireturn, 1) := by decide +kernel
abbrev b_m_step : ByteArray := prog_14_method_47_code
abbrev y_m_step : MethodName := ⟨"WhoRulesModel", "step", "(II)I"⟩
theorem d_m_step_0 : decode b_m_step 0 = .ok (.aload_n 0, 1) := by decide +kernel
theorem d_m_step_1 : decode b_m_step 1 = .ok (.iload_n 1, 1) := by decide +kernel
theorem d_m_step_2 : decode b_m_step 2 = .ok (.invokevirtual 264, 3) := by decide +kernel
theorem d_m_step_5 : decode b_m_step 5 = .ok (.ifCond .ne 5, 3) := by decide +kernel
theorem d_m_step_8 : decode b_m_step 8 = .ok (.iconst (-1), 1) := by decide +kernel
theorem d_m_step_9 : decode b_m_step 9 = .ok (.ireturn, 1) := by decide +kernel
theorem d_m_step_10 : decode b_m_step 10 = .ok (.aload_n 0, 1) := by decide +kernel
theorem d_m_step_11 : decode b_m_step 11 = .ok (.iload_n 1, 1) := by decide +kernel
theorem d_m_step_12 : decode b_m_step 12 = .ok (.invokevirtual 350, 3) := by decide +kernel
theorem d_m_step_15 : decode b_m_step 15 = .ok (.iload_n 2, 1) := by decide +kernel
theorem d_m_step_16 : decode b_m_step 16 = .ok (.iconst (-1), 1) := by decide +kernel
theorem d_m_step_17 : decode b_m_step 17 = .ok (.if_icmp .ne 10, 3) := by decide +kernel
theorem d_m_step_20 : decode b_m_step 20 = .ok (.aload_n 0, 1) := by decide +kernel
theorem d_m_step_21 : decode b_m_step 21 = .ok (.getfield 157, 3) := by decide +kernel
theorem d_m_step_24 : decode b_m_step 24 = .ok (.goto 28, 3) := by decide +kernel
theorem d_m_step_27 : decode b_m_step 27 = .ok (.aload_n 0, 1) := by decide +kernel
theorem d_m_step_28 : decode b_m_step 28 = .ok (.iload_n 2, 1) := by decide +kernel
theorem d_m_step_29 : decode b_m_step 29 = .ok (.iconst 0, 1) := by decide +kernel
theorem d_m_step_30 : decode b_m_step 30 = .ok (.aload_n 0, 1) := by decide +kernel
theorem d_m_step_31 : decode b_m_step 31 = .ok (.getfield 157, 3) := by decide +kernel
theorem d_m_step_34 : decode b_m_step 34 = .ok (.iconst 1, 1) := by decide +kernel
theorem d_m_step_35 : decode b_m_step 35 = .ok (.isub, 1) := by decide +kernel
theorem d_m_step_36 : decode b_m_step 36 = .ok (.invokevirtual 246, 3) := by decide +kernel
theorem d_m_step_39 : decode b_m_step 39 = .ok (.ifCond .eq 12, 3) := by decide +kernel
theorem d_m_step_42 : decode b_m_step 42 = .ok (.aload_n 0, 1) := by decide +kernel
theorem d_m_step_43 : decode b_m_step 43 = .ok (.getfield 154, 3) := by decide +kernel
theorem d_m_step_46 : decode b_m_step 46 = .ok (.iload_n 2, 1) := by decide +kernel
theorem d_m_step_47 : decode b_m_step 47 = .ok (.iaload, 1) := by decide +kernel
theorem d_m_step_48 : decode b_m_step 48 = .ok (.goto 4, 3) := by decide +kernel
theorem d_m_step_51 : decode b_m_step 51 = .ok (.iconst (-1), 1) := by decide +kernel
theorem d_m_step_52 : decode b_m_step 52 = .ok (.ireturn, 1) := by decide +kernel
abbrev b_m_listRulers : ByteArray := prog_14_method_48_code
abbrev y_m_listRulers : MethodName := ⟨"WhoRulesModel", "listRulers", "()V"⟩
theorem d_m_listRulers_0 : decode b_m_listRulers 0 = .ok (.aload_n 0, 1) := by decide +kernel
theorem d_m_listRulers_1 : decode b_m_listRulers 1 = .ok (.iconst 0, 1) := by decide +kernel
theorem d_m_listRulers_2 : decode b_m_listRulers 2 = .ok (.putfield 166, 3) := by decide +kernel
theorem d_m_listRulers_5 : decode b_m_listRulers 5 = .ok (.iconst 0, 1) := by decide +kernel
theorem d_m_listRulers_6 : decode b_m_listRulers 6 = .ok (.istore_n 1, 1) := by decide +kernel
theorem d_m_listRulers_7 : decode b_m_listRulers 7 = .ok (.iload_n 1, 1) := by decide +kernel
theorem d_m_listRulers_8 : decode b_m_listRulers 8 = .ok (.aload_n 0, 1) := by decide +kernel
theorem d_m_listRulers_9 : decode b_m_listRulers 9 = .ok (.getfield 13, 3) := by decide +kernel
theorem d_m_listRulers_12 : decode b_m_listRulers 12 = .ok (.if_icmp .ge 40, 3) := by decide +kernel
theorem d_m_listRulers_15 : decode b_m_listRulers 15 = .ok (.aload_n 0, 1) := by decide +kernel
theorem d_m_listRulers_16 : decode b_m_listRulers 16 = .ok (.iload_n 1, 1) := by decide +kernel
theorem d_m_listRulers_17 : decode b_m_listRulers 17 = .ok (.invokevirtual 341, 3) := by decide +kernel
theorem d_m_listRulers_20 : decode b_m_listRulers 20 = .ok (.ifCond .ne 6, 3) := by decide +kernel
theorem d_m_listRulers_23 : decode b_m_listRulers 23 = .ok (.goto 23, 3) := by decide +kernel
theorem d_m_listRulers_26 : decode b_m_listRulers 26 = .ok (.aload_n 0, 1) := by decide +kernel
theorem d_m_listRulers_27 : decode b_m_listRulers 27 = .ok (.getfield 160, 3) := by decide +kernel
theorem d_m_listRulers_30 : decode b_m_listRulers 30 = .ok (.aload_n 0, 1) := by decide +kernel
theorem d_m_listRulers_31 : decode b_m_listRulers 31 = .ok (.getfield 166, 3) := by decide +kernel
theorem d_m_listRulers_34 : decode b_m_listRulers 34 = .ok (.iload_n 1, 1) := by decide +kernel
theorem d_m_listRulers_35 : decode b_m_listRulers 35 = .ok (.iastore, 1) := by decide +kernel
theorem d_m_listRulers_36 : decode b_m_listRulers 36 = .ok (.aload_n 0, 1) := by decide +kernel
theorem d_m_listRulers_37 : decode b_m_listRulers 37 = .ok (.dup, 1) := by decide +kernel
theorem d_m_listRulers_38 : decode b_m_listRulers 38 = .ok (.getfield 166, 3) := by decide +kernel
theorem d_m_listRulers_41 : decode b_m_listRulers 41 = .ok (.iconst 1, 1) := by decide +kernel
theorem d_m_listRulers_42 : decode b_m_listRulers 42 = .ok (.iadd, 1) := by decide +kernel
theorem d_m_listRulers_43 : decode b_m_listRulers 43 = .ok (.putfield 166, 3) := by decide +kernel
theorem d_m_listRulers_46 : decode b_m_listRulers 46 = .ok (.iinc 1 1, 3) := by decide +kernel
theorem d_m_listRulers_49 : decode b_m_listRulers 49 = .ok (.goto (-42), 3) := by decide +kernel
theorem d_m_listRulers_52 : decode b_m_listRulers 52 = .ok (.iconst 0, 1) := by decide +kernel
theorem d_m_listRulers_53 : decode b_m_listRulers 53 = .ok (.istore_n 1, 1) := by decide +kernel
theorem d_m_listRulers_54 : decode b_m_listRulers 54 = .ok (.iconst 0, 1) := by decide +kernel
theorem d_m_listRulers_55 : decode b_m_listRulers 55 = .ok (.istore_n 2, 1) := by decide +kernel
theorem d_m_listRulers_56 : decode b_m_listRulers 56 = .ok (.iload_n 2, 1) := by decide +kernel
theorem d_m_listRulers_57 : decode b_m_listRulers 57 = .ok (.aload_n 0, 1) := by decide +kernel
theorem d_m_listRulers_58 : decode b_m_listRulers 58 = .ok (.getfield 13, 3) := by decide +kernel
theorem d_m_listRulers_61 : decode b_m_listRulers 61 = .ok (.if_icmp .ge 32, 3) := by decide +kernel
theorem d_m_listRulers_64 : decode b_m_listRulers 64 = .ok (.aload_n 0, 1) := by decide +kernel
theorem d_m_listRulers_65 : decode b_m_listRulers 65 = .ok (.getfield 25, 3) := by decide +kernel
theorem d_m_listRulers_68 : decode b_m_listRulers 68 = .ok (.iload_n 2, 1) := by decide +kernel
theorem d_m_listRulers_69 : decode b_m_listRulers 69 = .ok (.iaload, 1) := by decide +kernel
theorem d_m_listRulers_70 : decode b_m_listRulers 70 = .ok (.iconst 1, 1) := by decide +kernel
theorem d_m_listRulers_71 : decode b_m_listRulers 71 = .ok (.if_icmp .eq 6, 3) := by decide +kernel
theorem d_m_listRulers_74 : decode b_m_listRulers 74 = .ok (.goto 13, 3) := by decide +kernel
theorem d_m_listRulers_77 : decode b_m_listRulers 77 = .ok (.aload_n 0, 1) := by decide +kernel
theorem d_m_listRulers_78 : decode b_m_listRulers 78 = .ok (.getfield 163, 3) := by decide +kernel
theorem d_m_listRulers_81 : decode b_m_listRulers 81 = .ok (.iload_n 1, 1) := by decide +kernel
theorem d_m_listRulers_82 : decode b_m_listRulers 82 = .ok (.iload_n 2, 1) := by decide +kernel
theorem d_m_listRulers_83 : decode b_m_listRulers 83 = .ok (.iastore, 1) := by decide +kernel
theorem d_m_listRulers_84 : decode b_m_listRulers 84 = .ok (.iinc 1 1, 3) := by decide +kernel
theorem d_m_listRulers_87 : decode b_m_listRulers 87 = .ok (.iinc 2 1, 3) := by decide +kernel
theorem d_m_listRulers_90 : decode b_m_listRulers 90 = .ok (.goto (-34), 3) := by decide +kernel
theorem d_m_listRulers_93 : decode b_m_listRulers 93 = .ok (.return_, 1) := by decide +kernel
abbrev b_m_fits : ByteArray := prog_14_method_49_code
abbrev y_m_fits : MethodName := ⟨"WhoRulesModel", "fits", "()Z"⟩
theorem d_m_fits_0 : decode b_m_fits 0 = .ok (.iconst 0, 1) := by decide +kernel
theorem d_m_fits_1 : decode b_m_fits 1 = .ok (.istore_n 1, 1) := by decide +kernel
theorem d_m_fits_2 : decode b_m_fits 2 = .ok (.iload_n 1, 1) := by decide +kernel
theorem d_m_fits_3 : decode b_m_fits 3 = .ok (.aload_n 0, 1) := by decide +kernel
theorem d_m_fits_4 : decode b_m_fits 4 = .ok (.getfield 16, 3) := by decide +kernel
theorem d_m_fits_7 : decode b_m_fits 7 = .ok (.if_icmp .ge 90, 3) := by decide +kernel
theorem d_m_fits_10 : decode b_m_fits 10 = .ok (.aload_n 0, 1) := by decide +kernel
theorem d_m_fits_11 : decode b_m_fits 11 = .ok (.getfield 163, 3) := by decide +kernel
theorem d_m_fits_14 : decode b_m_fits 14 = .ok (.iload_n 1, 1) := by decide +kernel
theorem d_m_fits_15 : decode b_m_fits 15 = .ok (.iaload, 1) := by decide +kernel
theorem d_m_fits_16 : decode b_m_fits 16 = .ok (.istore_n 2, 1) := by decide +kernel
theorem d_m_fits_17 : decode b_m_fits 17 = .ok (.aload_n 0, 1) := by decide +kernel
theorem d_m_fits_18 : decode b_m_fits 18 = .ok (.getfield 151, 3) := by decide +kernel
theorem d_m_fits_21 : decode b_m_fits 21 = .ok (.iload_n 2, 1) := by decide +kernel
theorem d_m_fits_22 : decode b_m_fits 22 = .ok (.iaload, 1) := by decide +kernel
theorem d_m_fits_23 : decode b_m_fits 23 = .ok (.ifCond .lt 23, 3) := by decide +kernel
theorem d_m_fits_26 : decode b_m_fits 26 = .ok (.aload_n 0, 1) := by decide +kernel
theorem d_m_fits_27 : decode b_m_fits 27 = .ok (.iload_n 2, 1) := by decide +kernel
theorem d_m_fits_28 : decode b_m_fits 28 = .ok (.aload_n 0, 1) := by decide +kernel
theorem d_m_fits_29 : decode b_m_fits 29 = .ok (.aload_n 0, 1) := by decide +kernel
theorem d_m_fits_30 : decode b_m_fits 30 = .ok (.getfield 151, 3) := by decide +kernel
theorem d_m_fits_33 : decode b_m_fits 33 = .ok (.iload_n 2, 1) := by decide +kernel
theorem d_m_fits_34 : decode b_m_fits 34 = .ok (.iaload, 1) := by decide +kernel
theorem d_m_fits_35 : decode b_m_fits 35 = .ok (.invokevirtual 344, 3) := by decide +kernel
theorem d_m_fits_38 : decode b_m_fits 38 = .ok (.invokevirtual 331, 3) := by decide +kernel
theorem d_m_fits_41 : decode b_m_fits 41 = .ok (.ifCond .ne 5, 3) := by decide +kernel
theorem d_m_fits_44 : decode b_m_fits 44 = .ok (.iconst 0, 1) := by decide +kernel
theorem d_m_fits_45 : decode b_m_fits 45 = .ok (.ireturn, 1) := by decide +kernel
theorem d_m_fits_46 : decode b_m_fits 46 = .ok (.iconst 0, 1) := by decide +kernel
theorem d_m_fits_47 : decode b_m_fits 47 = .ok (.istore_n 3, 1) := by decide +kernel
theorem d_m_fits_48 : decode b_m_fits 48 = .ok (.iload_n 3, 1) := by decide +kernel
theorem d_m_fits_49 : decode b_m_fits 49 = .ok (.aload_n 0, 1) := by decide +kernel
theorem d_m_fits_50 : decode b_m_fits 50 = .ok (.getfield 166, 3) := by decide +kernel
theorem d_m_fits_53 : decode b_m_fits 53 = .ok (.if_icmp .ge 38, 3) := by decide +kernel
theorem d_m_fits_56 : decode b_m_fits 56 = .ok (.aload_n 0, 1) := by decide +kernel
theorem d_m_fits_57 : decode b_m_fits 57 = .ok (.getfield 151, 3) := by decide +kernel
theorem d_m_fits_60 : decode b_m_fits 60 = .ok (.iload_n 2, 1) := by decide +kernel
theorem d_m_fits_61 : decode b_m_fits 61 = .ok (.iaload, 1) := by decide +kernel
theorem d_m_fits_62 : decode b_m_fits 62 = .ok (.ifCond .ge 29, 3) := by decide +kernel
theorem d_m_fits_65 : decode b_m_fits 65 = .ok (.aload_n 0, 1) := by decide +kernel
theorem d_m_fits_66 : decode b_m_fits 66 = .ok (.iload_n 2, 1) := by decide +kernel
theorem d_m_fits_67 : decode b_m_fits 67 = .ok (.aload_n 0, 1) := by decide +kernel
theorem d_m_fits_68 : decode b_m_fits 68 = .ok (.aload_n 0, 1) := by decide +kernel
theorem d_m_fits_69 : decode b_m_fits 69 = .ok (.getfield 160, 3) := by decide +kernel
theorem d_m_fits_72 : decode b_m_fits 72 = .ok (.iload_n 3, 1) := by decide +kernel
theorem d_m_fits_73 : decode b_m_fits 73 = .ok (.iaload, 1) := by decide +kernel
theorem d_m_fits_74 : decode b_m_fits 74 = .ok (.invokevirtual 344, 3) := by decide +kernel
theorem d_m_fits_77 : decode b_m_fits 77 = .ok (.invokevirtual 331, 3) := by decide +kernel
theorem d_m_fits_80 : decode b_m_fits 80 = .ok (.ifCond .eq 5, 3) := by decide +kernel
theorem d_m_fits_83 : decode b_m_fits 83 = .ok (.iconst 0, 1) := by decide +kernel
theorem d_m_fits_84 : decode b_m_fits 84 = .ok (.ireturn, 1) := by decide +kernel
theorem d_m_fits_85 : decode b_m_fits 85 = .ok (.iinc 3 1, 3) := by decide +kernel
theorem d_m_fits_88 : decode b_m_fits 88 = .ok (.goto (-40), 3) := by decide +kernel
theorem d_m_fits_91 : decode b_m_fits 91 = .ok (.iinc 1 1, 3) := by decide +kernel
theorem d_m_fits_94 : decode b_m_fits 94 = .ok (.goto (-92), 3) := by decide +kernel
theorem d_m_fits_97 : decode b_m_fits 97 = .ok (.iconst 1, 1) := by decide +kernel
theorem d_m_fits_98 : decode b_m_fits 98 = .ok (.ireturn, 1) := by decide +kernel
abbrev b_m_all : ByteArray := prog_14_method_50_code
abbrev y_m_all : MethodName := ⟨"WhoRulesModel", "all", "(III)I"⟩
theorem d_m_all_0 : decode b_m_all 0 = .ok (.aload_n 0, 1) := by decide +kernel
theorem d_m_all_1 : decode b_m_all 1 = .ok (.iload_n 1, 1) := by decide +kernel
theorem d_m_all_2 : decode b_m_all 2 = .ok (.invokevirtual 264, 3) := by decide +kernel
theorem d_m_all_5 : decode b_m_all 5 = .ok (.ifCond .eq 16, 3) := by decide +kernel
theorem d_m_all_8 : decode b_m_all 8 = .ok (.aload_n 0, 1) := by decide +kernel
theorem d_m_all_9 : decode b_m_all 9 = .ok (.iload_n 3, 1) := by decide +kernel
theorem d_m_all_10 : decode b_m_all 10 = .ok (.invokevirtual 254, 3) := by decide +kernel
theorem d_m_all_13 : decode b_m_all 13 = .ok (.ifCond .eq 8, 3) := by decide +kernel
theorem d_m_all_16 : decode b_m_all 16 = .ok (.iload_n 2, 1) := by decide +kernel
theorem d_m_all_17 : decode b_m_all 17 = .ok (.iconst (-1), 1) := by decide +kernel
theorem d_m_all_18 : decode b_m_all 18 = .ok (.if_icmp .ge 5, 3) := by decide +kernel
theorem d_m_all_21 : decode b_m_all 21 = .ok (.iconst (-1), 1) := by decide +kernel
theorem d_m_all_22 : decode b_m_all 22 = .ok (.ireturn, 1) := by decide +kernel
theorem d_m_all_23 : decode b_m_all 23 = .ok (.aload_n 0, 1) := by decide +kernel
theorem d_m_all_24 : decode b_m_all 24 = .ok (.invokevirtual 353, 3) := by decide +kernel
theorem d_m_all_27 : decode b_m_all 27 = .ok (.aload_n 0, 1) := by decide +kernel
theorem d_m_all_28 : decode b_m_all 28 = .ok (.getfield 16, 3) := by decide +kernel
theorem d_m_all_31 : decode b_m_all 31 = .ok (.iconst 5, 1) := by decide +kernel
theorem d_m_all_32 : decode b_m_all 32 = .ok (.if_icmp .gt 11, 3) := by decide +kernel
theorem d_m_all_35 : decode b_m_all 35 = .ok (.aload_n 0, 1) := by decide +kernel
theorem d_m_all_36 : decode b_m_all 36 = .ok (.getfield 166, 3) := by decide +kernel
theorem d_m_all_39 : decode b_m_all 39 = .ok (.iconst 4, 1) := by decide +kernel
theorem d_m_all_40 : decode b_m_all 40 = .ok (.if_icmp .le 6, 3) := by decide +kernel
theorem d_m_all_43 : decode b_m_all 43 = .ok (.bipush (-9), 2) := by decide +kernel
theorem d_m_all_45 : decode b_m_all 45 = .ok (.ireturn, 1) := by decide +kernel
theorem d_m_all_46 : decode b_m_all 46 = .ok (.aload_n 0, 1) := by decide +kernel
theorem d_m_all_47 : decode b_m_all 47 = .ok (.iload_n 1, 1) := by decide +kernel
theorem d_m_all_48 : decode b_m_all 48 = .ok (.invokevirtual 328, 3) := by decide +kernel
theorem d_m_all_51 : decode b_m_all 51 = .ok (.aload_n 0, 1) := by decide +kernel
theorem d_m_all_52 : decode b_m_all 52 = .ok (.invokevirtual 338, 3) := by decide +kernel
theorem d_m_all_55 : decode b_m_all 55 = .ok (.iconst 1, 1) := by decide +kernel
theorem d_m_all_56 : decode b_m_all 56 = .ok (.istore 4, 2) := by decide +kernel
theorem d_m_all_58 : decode b_m_all 58 = .ok (.iconst 0, 1) := by decide +kernel
theorem d_m_all_59 : decode b_m_all 59 = .ok (.istore 5, 2) := by decide +kernel
theorem d_m_all_61 : decode b_m_all 61 = .ok (.iload 5, 2) := by decide +kernel
theorem d_m_all_63 : decode b_m_all 63 = .ok (.aload_n 0, 1) := by decide +kernel
theorem d_m_all_64 : decode b_m_all 64 = .ok (.getfield 16, 3) := by decide +kernel
theorem d_m_all_67 : decode b_m_all 67 = .ok (.if_icmp .ge 20, 3) := by decide +kernel
theorem d_m_all_70 : decode b_m_all 70 = .ok (.iload 4, 2) := by decide +kernel
theorem d_m_all_72 : decode b_m_all 72 = .ok (.aload_n 0, 1) := by decide +kernel
theorem d_m_all_73 : decode b_m_all 73 = .ok (.getfield 166, 3) := by decide +kernel
theorem d_m_all_76 : decode b_m_all 76 = .ok (.iconst 1, 1) := by decide +kernel
theorem d_m_all_77 : decode b_m_all 77 = .ok (.iadd, 1) := by decide +kernel
theorem d_m_all_78 : decode b_m_all 78 = .ok (.imul, 1) := by decide +kernel
theorem d_m_all_79 : decode b_m_all 79 = .ok (.istore 4, 2) := by decide +kernel
theorem d_m_all_81 : decode b_m_all 81 = .ok (.iinc 5 1, 3) := by decide +kernel
theorem d_m_all_84 : decode b_m_all 84 = .ok (.goto (-23), 3) := by decide +kernel
theorem d_m_all_87 : decode b_m_all 87 = .ok (.iconst 0, 1) := by decide +kernel
theorem d_m_all_88 : decode b_m_all 88 = .ok (.istore 5, 2) := by decide +kernel
theorem d_m_all_90 : decode b_m_all 90 = .ok (.iconst 0, 1) := by decide +kernel
theorem d_m_all_91 : decode b_m_all 91 = .ok (.istore 6, 2) := by decide +kernel
theorem d_m_all_93 : decode b_m_all 93 = .ok (.iload 6, 2) := by decide +kernel
theorem d_m_all_95 : decode b_m_all 95 = .ok (.iload 4, 2) := by decide +kernel
theorem d_m_all_97 : decode b_m_all 97 = .ok (.if_icmp .ge 124, 3) := by decide +kernel
theorem d_m_all_100 : decode b_m_all 100 = .ok (.iload 6, 2) := by decide +kernel
theorem d_m_all_102 : decode b_m_all 102 = .ok (.istore 7, 2) := by decide +kernel
theorem d_m_all_104 : decode b_m_all 104 = .ok (.aload_n 0, 1) := by decide +kernel
theorem d_m_all_105 : decode b_m_all 105 = .ok (.getfield 16, 3) := by decide +kernel
theorem d_m_all_108 : decode b_m_all 108 = .ok (.iconst 1, 1) := by decide +kernel
theorem d_m_all_109 : decode b_m_all 109 = .ok (.isub, 1) := by decide +kernel
theorem d_m_all_110 : decode b_m_all 110 = .ok (.istore 8, 2) := by decide +kernel
theorem d_m_all_112 : decode b_m_all 112 = .ok (.iload 8, 2) := by decide +kernel
theorem d_m_all_114 : decode b_m_all 114 = .ok (.ifCond .lt 61, 3) := by decide +kernel
theorem d_m_all_117 : decode b_m_all 117 = .ok (.iload 7, 2) := by decide +kernel
theorem d_m_all_119 : decode b_m_all 119 = .ok (.aload_n 0, 1) := by decide +kernel
theorem d_m_all_120 : decode b_m_all 120 = .ok (.getfield 166, 3) := by decide +kernel
theorem d_m_all_123 : decode b_m_all 123 = .ok (.iconst 1, 1) := by decide +kernel
theorem d_m_all_124 : decode b_m_all 124 = .ok (.iadd, 1) := by decide +kernel
theorem d_m_all_125 : decode b_m_all 125 = .ok (.irem, 1) := by decide +kernel
theorem d_m_all_126 : decode b_m_all 126 = .ok (.istore 9, 2) := by decide +kernel
theorem d_m_all_128 : decode b_m_all 128 = .ok (.aload_n 0, 1) := by decide +kernel
theorem d_m_all_129 : decode b_m_all 129 = .ok (.getfield 151, 3) := by decide +kernel
theorem d_m_all_132 : decode b_m_all 132 = .ok (.aload_n 0, 1) := by decide +kernel
theorem d_m_all_133 : decode b_m_all 133 = .ok (.getfield 163, 3) := by decide +kernel
theorem d_m_all_136 : decode b_m_all 136 = .ok (.iload 8, 2) := by decide +kernel
theorem d_m_all_138 : decode b_m_all 138 = .ok (.iaload, 1) := by decide +kernel
theorem d_m_all_139 : decode b_m_all 139 = .ok (.iload 9, 2) := by decide +kernel
theorem d_m_all_141 : decode b_m_all 141 = .ok (.ifCond .ne 7, 3) := by decide +kernel
theorem d_m_all_144 : decode b_m_all 144 = .ok (.iconst (-1), 1) := by decide +kernel
theorem d_m_all_145 : decode b_m_all 145 = .ok (.goto 12, 3) := by decide +kernel
theorem d_m_all_148 : decode b_m_all 148 = .ok (.aload_n 0, 1) := by decide +kernel
theorem d_m_all_149 : decode b_m_all 149 = .ok (.getfield 160, 3) := by decide +kernel
theorem d_m_all_152 : decode b_m_all 152 = .ok (.iload 9, 2) := by decide +kernel
theorem d_m_all_154 : decode b_m_all 154 = .ok (.iconst 1, 1) := by decide +kernel
theorem d_m_all_155 : decode b_m_all 155 = .ok (.isub, 1) := by decide +kernel
theorem d_m_all_156 : decode b_m_all 156 = .ok (.iaload, 1) := by decide +kernel
theorem d_m_all_157 : decode b_m_all 157 = .ok (.iastore, 1) := by decide +kernel
theorem d_m_all_158 : decode b_m_all 158 = .ok (.iload 7, 2) := by decide +kernel
theorem d_m_all_160 : decode b_m_all 160 = .ok (.aload_n 0, 1) := by decide +kernel
theorem d_m_all_161 : decode b_m_all 161 = .ok (.getfield 166, 3) := by decide +kernel
theorem d_m_all_164 : decode b_m_all 164 = .ok (.iconst 1, 1) := by decide +kernel
theorem d_m_all_165 : decode b_m_all 165 = .ok (.iadd, 1) := by decide +kernel
theorem d_m_all_166 : decode b_m_all 166 = .ok (.idiv, 1) := by decide +kernel
theorem d_m_all_167 : decode b_m_all 167 = .ok (.istore 7, 2) := by decide +kernel
theorem d_m_all_169 : decode b_m_all 169 = .ok (.iinc 8 (-1), 3) := by decide +kernel
theorem d_m_all_172 : decode b_m_all 172 = .ok (.goto (-60), 3) := by decide +kernel
theorem d_m_all_175 : decode b_m_all 175 = .ok (.aload_n 0, 1) := by decide +kernel
theorem d_m_all_176 : decode b_m_all 176 = .ok (.invokevirtual 356, 3) := by decide +kernel
theorem d_m_all_179 : decode b_m_all 179 = .ok (.ifCond .ne 6, 3) := by decide +kernel
theorem d_m_all_182 : decode b_m_all 182 = .ok (.goto 33, 3) := by decide +kernel
theorem d_m_all_185 : decode b_m_all 185 = .ok (.iload 5, 2) := by decide +kernel
theorem d_m_all_187 : decode b_m_all 187 = .ok (.iload_n 2, 1) := by decide +kernel
theorem d_m_all_188 : decode b_m_all 188 = .ok (.if_icmp .ne 24, 3) := by decide +kernel
theorem d_m_all_191 : decode b_m_all 191 = .ok (.aload_n 0, 1) := by decide +kernel
theorem d_m_all_192 : decode b_m_all 192 = .ok (.getfield 151, 3) := by decide +kernel
theorem d_m_all_195 : decode b_m_all 195 = .ok (.iload_n 3, 1) := by decide +kernel
theorem d_m_all_196 : decode b_m_all 196 = .ok (.iaload, 1) := by decide +kernel
theorem d_m_all_197 : decode b_m_all 197 = .ok (.ifCond .ge 8, 3) := by decide +kernel
theorem d_m_all_200 : decode b_m_all 200 = .ok (.bipush (-5), 2) := by decide +kernel
theorem d_m_all_202 : decode b_m_all 202 = .ok (.goto 9, 3) := by decide +kernel
theorem d_m_all_205 : decode b_m_all 205 = .ok (.aload_n 0, 1) := by decide +kernel
theorem d_m_all_206 : decode b_m_all 206 = .ok (.getfield 151, 3) := by decide +kernel
theorem d_m_all_209 : decode b_m_all 209 = .ok (.iload_n 3, 1) := by decide +kernel
theorem d_m_all_210 : decode b_m_all 210 = .ok (.iaload, 1) := by decide +kernel
theorem d_m_all_211 : decode b_m_all 211 = .ok (.ireturn, 1) := by decide +kernel
theorem d_m_all_212 : decode b_m_all 212 = .ok (.iinc 5 1, 3) := by decide +kernel
theorem d_m_all_215 : decode b_m_all 215 = .ok (.iinc 6 1, 3) := by decide +kernel
theorem d_m_all_218 : decode b_m_all 218 = .ok (.goto (-125), 3) := by decide +kernel
theorem d_m_all_221 : decode b_m_all 221 = .ok (.iload_n 2, 1) := by decide +kernel
theorem d_m_all_222 : decode b_m_all 222 = .ok (.iconst (-1), 1) := by decide +kernel
theorem d_m_all_223 : decode b_m_all 223 = .ok (.if_icmp .ne 8, 3) := by decide +kernel
theorem d_m_all_226 : decode b_m_all 226 = .ok (.iload 5, 2) := by decide +kernel
theorem d_m_all_228 : decode b_m_all 228 = .ok (.goto 4, 3) := by decide +kernel
theorem d_m_all_231 : decode b_m_all 231 = .ok (.iconst (-1), 1) := by decide +kernel
theorem d_m_all_232 : decode b_m_all 232 = .ok (.ireturn, 1) := by decide +kernel
abbrev b_m_isTape : ByteArray := prog_14_method_94_code
abbrev y_m_isTape : MethodName := ⟨"WhoRulesModel", "isTape", "(I)Z"⟩
theorem d_m_isTape_0 : decode b_m_isTape 0 = .ok (.aload_n 0, 1) := by decide +kernel
theorem d_m_isTape_1 : decode b_m_isTape 1 = .ok (.iload_n 1, 1) := by decide +kernel
theorem d_m_isTape_2 : decode b_m_isTape 2 = .ok (.iconst 0, 1) := by decide +kernel
theorem d_m_isTape_3 : decode b_m_isTape 3 = .ok (.iconst 5, 1) := by decide +kernel
theorem d_m_isTape_4 : decode b_m_isTape 4 = .ok (.invokevirtual 246, 3) := by decide +kernel
theorem d_m_isTape_7 : decode b_m_isTape 7 = .ok (.ireturn, 1) := by decide +kernel
abbrev b_m_proof : ByteArray := prog_14_method_51_code
abbrev y_m_proof : MethodName := ⟨"WhoRulesModel", "proof", "(III)I"⟩
theorem d_m_proof_0 : decode b_m_proof 0 = .ok (.aload_n 0, 1) := by decide +kernel
theorem d_m_proof_1 : decode b_m_proof 1 = .ok (.iload_n 1, 1) := by decide +kernel
theorem d_m_proof_2 : decode b_m_proof 2 = .ok (.invokevirtual 359, 3) := by decide +kernel
theorem d_m_proof_5 : decode b_m_proof 5 = .ok (.ifCond .ne 5, 3) := by decide +kernel
theorem d_m_proof_8 : decode b_m_proof 8 = .ok (.iconst (-1), 1) := by decide +kernel
theorem d_m_proof_9 : decode b_m_proof 9 = .ok (.ireturn, 1) := by decide +kernel
theorem d_m_proof_10 : decode b_m_proof 10 = .ok (.aload_n 0, 1) := by decide +kernel
theorem d_m_proof_11 : decode b_m_proof 11 = .ok (.iload_n 3, 1) := by decide +kernel
theorem d_m_proof_12 : decode b_m_proof 12 = .ok (.iconst 1, 1) := by decide +kernel
theorem d_m_proof_13 : decode b_m_proof 13 = .ok (.bipush 7, 2) := by decide +kernel
theorem d_m_proof_15 : decode b_m_proof 15 = .ok (.invokevirtual 246, 3) := by decide +kernel
theorem d_m_proof_18 : decode b_m_proof 18 = .ok (.ifCond .ne 6, 3) := by decide +kernel
theorem d_m_proof_21 : decode b_m_proof 21 = .ok (.bipush (-2), 2) := by decide +kernel
theorem d_m_proof_23 : decode b_m_proof 23 = .ok (.ireturn, 1) := by decide +kernel
theorem d_m_proof_24 : decode b_m_proof 24 = .ok (.aload_n 0, 1) := by decide +kernel
theorem d_m_proof_25 : decode b_m_proof 25 = .ok (.getfield 234, 3) := by decide +kernel
theorem d_m_proof_28 : decode b_m_proof 28 = .ok (.iload_n 1, 1) := by decide +kernel
theorem d_m_proof_29 : decode b_m_proof 29 = .ok (.iaload, 1) := by decide +kernel
theorem d_m_proof_30 : decode b_m_proof 30 = .ok (.ifCond .lt 16, 3) := by decide +kernel
theorem d_m_proof_33 : decode b_m_proof 33 = .ok (.aload_n 0, 1) := by decide +kernel
theorem d_m_proof_34 : decode b_m_proof 34 = .ok (.getfield 234, 3) := by decide +kernel
theorem d_m_proof_37 : decode b_m_proof 37 = .ok (.iload_n 1, 1) := by decide +kernel
theorem d_m_proof_38 : decode b_m_proof 38 = .ok (.iaload, 1) := by decide +kernel
theorem d_m_proof_39 : decode b_m_proof 39 = .ok (.iconst 1, 1) := by decide +kernel
theorem d_m_proof_40 : decode b_m_proof 40 = .ok (.if_icmp .eq 6, 3) := by decide +kernel
theorem d_m_proof_43 : decode b_m_proof 43 = .ok (.bipush (-12), 2) := by decide +kernel
theorem d_m_proof_45 : decode b_m_proof 45 = .ok (.ireturn, 1) := by decide +kernel
theorem d_m_proof_46 : decode b_m_proof 46 = .ok (.aload_n 0, 1) := by decide +kernel
theorem d_m_proof_47 : decode b_m_proof 47 = .ok (.getfield 234, 3) := by decide +kernel
theorem d_m_proof_50 : decode b_m_proof 50 = .ok (.iload_n 1, 1) := by decide +kernel
theorem d_m_proof_51 : decode b_m_proof 51 = .ok (.iaload, 1) := by decide +kernel
theorem d_m_proof_52 : decode b_m_proof 52 = .ok (.ifCond .lt 21, 3) := by decide +kernel
theorem d_m_proof_55 : decode b_m_proof 55 = .ok (.iload_n 2, 1) := by decide +kernel
theorem d_m_proof_56 : decode b_m_proof 56 = .ok (.ifCond .lt 17, 3) := by decide +kernel
theorem d_m_proof_59 : decode b_m_proof 59 = .ok (.iload_n 2, 1) := by decide +kernel
theorem d_m_proof_60 : decode b_m_proof 60 = .ok (.aload_n 0, 1) := by decide +kernel
theorem d_m_proof_61 : decode b_m_proof 61 = .ok (.getfield 237, 3) := by decide +kernel
theorem d_m_proof_64 : decode b_m_proof 64 = .ok (.iload_n 1, 1) := by decide +kernel
theorem d_m_proof_65 : decode b_m_proof 65 = .ok (.iaload, 1) := by decide +kernel
theorem d_m_proof_66 : decode b_m_proof 66 = .ok (.iconst 2, 1) := by decide +kernel
theorem d_m_proof_67 : decode b_m_proof 67 = .ok (.iload_n 3, 1) := by decide +kernel
theorem d_m_proof_68 : decode b_m_proof 68 = .ok (.imul, 1) := by decide +kernel
theorem d_m_proof_69 : decode b_m_proof 69 = .ok (.isub, 1) := by decide +kernel
theorem d_m_proof_70 : decode b_m_proof 70 = .ok (.if_icmp .le 7, 3) := by decide +kernel
theorem d_m_proof_73 : decode b_m_proof 73 = .ok (.iconst 1, 1) := by decide +kernel
theorem d_m_proof_74 : decode b_m_proof 74 = .ok (.goto 4, 3) := by decide +kernel
theorem d_m_proof_77 : decode b_m_proof 77 = .ok (.iconst 0, 1) := by decide +kernel
theorem d_m_proof_78 : decode b_m_proof 78 = .ok (.istore 4, 2) := by decide +kernel
theorem d_m_proof_80 : decode b_m_proof 80 = .ok (.aload_n 0, 1) := by decide +kernel
theorem d_m_proof_81 : decode b_m_proof 81 = .ok (.aload_n 0, 1) := by decide +kernel
theorem d_m_proof_82 : decode b_m_proof 82 = .ok (.getfield 7, 3) := by decide +kernel
theorem d_m_proof_85 : decode b_m_proof 85 = .ok (.invokevirtual 328, 3) := by decide +kernel
theorem d_m_proof_88 : decode b_m_proof 88 = .ok (.aload_n 0, 1) := by decide +kernel
theorem d_m_proof_89 : decode b_m_proof 89 = .ok (.invokevirtual 338, 3) := by decide +kernel
theorem d_m_proof_92 : decode b_m_proof 92 = .ok (.iconst 0, 1) := by decide +kernel
theorem d_m_proof_93 : decode b_m_proof 93 = .ok (.istore 5, 2) := by decide +kernel
theorem d_m_proof_95 : decode b_m_proof 95 = .ok (.iload 5, 2) := by decide +kernel
theorem d_m_proof_97 : decode b_m_proof 97 = .ok (.iload_n 3, 1) := by decide +kernel
theorem d_m_proof_98 : decode b_m_proof 98 = .ok (.if_icmp .ge 134, 3) := by decide +kernel
theorem d_m_proof_101 : decode b_m_proof 101 = .ok (.aload_n 0, 1) := by decide +kernel
theorem d_m_proof_102 : decode b_m_proof 102 = .ok (.getfield 234, 3) := by decide +kernel
theorem d_m_proof_105 : decode b_m_proof 105 = .ok (.iload_n 1, 1) := by decide +kernel
theorem d_m_proof_106 : decode b_m_proof 106 = .ok (.iaload, 1) := by decide +kernel
theorem d_m_proof_107 : decode b_m_proof 107 = .ok (.ifCond .lt 125, 3) := by decide +kernel
theorem d_m_proof_110 : decode b_m_proof 110 = .ok (.iload_n 2, 1) := by decide +kernel
theorem d_m_proof_111 : decode b_m_proof 111 = .ok (.ifCond .lt 121, 3) := by decide +kernel
theorem d_m_proof_114 : decode b_m_proof 114 = .ok (.iload_n 2, 1) := by decide +kernel
theorem d_m_proof_115 : decode b_m_proof 115 = .ok (.aload_n 0, 1) := by decide +kernel
theorem d_m_proof_116 : decode b_m_proof 116 = .ok (.getfield 237, 3) := by decide +kernel
theorem d_m_proof_119 : decode b_m_proof 119 = .ok (.iload_n 1, 1) := by decide +kernel
theorem d_m_proof_120 : decode b_m_proof 120 = .ok (.iaload, 1) := by decide +kernel
theorem d_m_proof_121 : decode b_m_proof 121 = .ok (.iconst 2, 1) := by decide +kernel
theorem d_m_proof_122 : decode b_m_proof 122 = .ok (.iload 5, 2) := by decide +kernel
theorem d_m_proof_124 : decode b_m_proof 124 = .ok (.imul, 1) := by decide +kernel
theorem d_m_proof_125 : decode b_m_proof 125 = .ok (.isub, 1) := by decide +kernel
theorem d_m_proof_126 : decode b_m_proof 126 = .ok (.iconst 2, 1) := by decide +kernel
theorem d_m_proof_127 : decode b_m_proof 127 = .ok (.isub, 1) := by decide +kernel
theorem d_m_proof_128 : decode b_m_proof 128 = .ok (.if_icmp .gt 104, 3) := by decide +kernel
theorem d_m_proof_131 : decode b_m_proof 131 = .ok (.aload_n 0, 1) := by decide +kernel
theorem d_m_proof_132 : decode b_m_proof 132 = .ok (.getfield 240, 3) := by decide +kernel
theorem d_m_proof_135 : decode b_m_proof 135 = .ok (.bipush 60, 2) := by decide +kernel
theorem d_m_proof_137 : decode b_m_proof 137 = .ok (.iload_n 1, 1) := by decide +kernel
theorem d_m_proof_138 : decode b_m_proof 138 = .ok (.imul, 1) := by decide +kernel
theorem d_m_proof_139 : decode b_m_proof 139 = .ok (.iload_n 2, 1) := by decide +kernel
theorem d_m_proof_140 : decode b_m_proof 140 = .ok (.iadd, 1) := by decide +kernel
theorem d_m_proof_141 : decode b_m_proof 141 = .ok (.iconst 2, 1) := by decide +kernel
theorem d_m_proof_142 : decode b_m_proof 142 = .ok (.iload 5, 2) := by decide +kernel
theorem d_m_proof_144 : decode b_m_proof 144 = .ok (.imul, 1) := by decide +kernel
theorem d_m_proof_145 : decode b_m_proof 145 = .ok (.iadd, 1) := by decide +kernel
theorem d_m_proof_146 : decode b_m_proof 146 = .ok (.laload, 1) := by decide +kernel
theorem d_m_proof_147 : decode b_m_proof 147 = .ok (.l2i, 1) := by decide +kernel
theorem d_m_proof_148 : decode b_m_proof 148 = .ok (.istore 6, 2) := by decide +kernel
theorem d_m_proof_150 : decode b_m_proof 150 = .ok (.aload_n 0, 1) := by decide +kernel
theorem d_m_proof_151 : decode b_m_proof 151 = .ok (.getfield 240, 3) := by decide +kernel
theorem d_m_proof_154 : decode b_m_proof 154 = .ok (.bipush 60, 2) := by decide +kernel
theorem d_m_proof_156 : decode b_m_proof 156 = .ok (.iload_n 1, 1) := by decide +kernel
theorem d_m_proof_157 : decode b_m_proof 157 = .ok (.imul, 1) := by decide +kernel
theorem d_m_proof_158 : decode b_m_proof 158 = .ok (.iload_n 2, 1) := by decide +kernel
theorem d_m_proof_159 : decode b_m_proof 159 = .ok (.iadd, 1) := by decide +kernel
theorem d_m_proof_160 : decode b_m_proof 160 = .ok (.iconst 2, 1) := by decide +kernel
theorem d_m_proof_161 : decode b_m_proof 161 = .ok (.iload 5, 2) := by decide +kernel
theorem d_m_proof_163 : decode b_m_proof 163 = .ok (.imul, 1) := by decide +kernel
theorem d_m_proof_164 : decode b_m_proof 164 = .ok (.iadd, 1) := by decide +kernel
theorem d_m_proof_165 : decode b_m_proof 165 = .ok (.iconst 1, 1) := by decide +kernel
theorem d_m_proof_166 : decode b_m_proof 166 = .ok (.iadd, 1) := by decide +kernel
theorem d_m_proof_167 : decode b_m_proof 167 = .ok (.laload, 1) := by decide +kernel
theorem d_m_proof_168 : decode b_m_proof 168 = .ok (.l2i, 1) := by decide +kernel
theorem d_m_proof_169 : decode b_m_proof 169 = .ok (.istore 7, 2) := by decide +kernel
theorem d_m_proof_171 : decode b_m_proof 171 = .ok (.aload_n 0, 1) := by decide +kernel
theorem d_m_proof_172 : decode b_m_proof 172 = .ok (.iload 6, 2) := by decide +kernel
theorem d_m_proof_174 : decode b_m_proof 174 = .ok (.invokevirtual 254, 3) := by decide +kernel
theorem d_m_proof_177 : decode b_m_proof 177 = .ok (.ifCond .eq 55, 3) := by decide +kernel
theorem d_m_proof_180 : decode b_m_proof 180 = .ok (.aload_n 0, 1) := by decide +kernel
theorem d_m_proof_181 : decode b_m_proof 181 = .ok (.getfield 151, 3) := by decide +kernel
theorem d_m_proof_184 : decode b_m_proof 184 = .ok (.iload 6, 2) := by decide +kernel
theorem d_m_proof_186 : decode b_m_proof 186 = .ok (.iaload, 1) := by decide +kernel
theorem d_m_proof_187 : decode b_m_proof 187 = .ok (.ifCond .ge 45, 3) := by decide +kernel
theorem d_m_proof_190 : decode b_m_proof 190 = .ok (.aload_n 0, 1) := by decide +kernel
theorem d_m_proof_191 : decode b_m_proof 191 = .ok (.iload 7, 2) := by decide +kernel
theorem d_m_proof_193 : decode b_m_proof 193 = .ok (.invokevirtual 341, 3) := by decide +kernel
theorem d_m_proof_196 : decode b_m_proof 196 = .ok (.ifCond .eq 36, 3) := by decide +kernel
theorem d_m_proof_199 : decode b_m_proof 199 = .ok (.aload_n 0, 1) := by decide +kernel
theorem d_m_proof_200 : decode b_m_proof 200 = .ok (.iload 6, 2) := by decide +kernel
theorem d_m_proof_202 : decode b_m_proof 202 = .ok (.aload_n 0, 1) := by decide +kernel
theorem d_m_proof_203 : decode b_m_proof 203 = .ok (.iload 7, 2) := by decide +kernel
theorem d_m_proof_205 : decode b_m_proof 205 = .ok (.invokevirtual 344, 3) := by decide +kernel
theorem d_m_proof_208 : decode b_m_proof 208 = .ok (.invokevirtual 331, 3) := by decide +kernel
theorem d_m_proof_211 : decode b_m_proof 211 = .ok (.ifCond .ne 6, 3) := by decide +kernel
theorem d_m_proof_214 : decode b_m_proof 214 = .ok (.goto 18, 3) := by decide +kernel
theorem d_m_proof_217 : decode b_m_proof 217 = .ok (.aload_n 0, 1) := by decide +kernel
theorem d_m_proof_218 : decode b_m_proof 218 = .ok (.getfield 151, 3) := by decide +kernel
theorem d_m_proof_221 : decode b_m_proof 221 = .ok (.iload 6, 2) := by decide +kernel
theorem d_m_proof_223 : decode b_m_proof 223 = .ok (.iload 7, 2) := by decide +kernel
theorem d_m_proof_225 : decode b_m_proof 225 = .ok (.iastore, 1) := by decide +kernel
theorem d_m_proof_226 : decode b_m_proof 226 = .ok (.iinc 5 1, 3) := by decide +kernel
theorem d_m_proof_229 : decode b_m_proof 229 = .ok (.goto (-134), 3) := by decide +kernel
theorem d_m_proof_232 : decode b_m_proof 232 = .ok (.iload 4, 2) := by decide +kernel
theorem d_m_proof_234 : decode b_m_proof 234 = .ok (.ifCond .eq 11, 3) := by decide +kernel
theorem d_m_proof_237 : decode b_m_proof 237 = .ok (.iload 5, 2) := by decide +kernel
theorem d_m_proof_239 : decode b_m_proof 239 = .ok (.bipush 100, 2) := by decide +kernel
theorem d_m_proof_241 : decode b_m_proof 241 = .ok (.iadd, 1) := by decide +kernel
theorem d_m_proof_242 : decode b_m_proof 242 = .ok (.goto 5, 3) := by decide +kernel
theorem d_m_proof_245 : decode b_m_proof 245 = .ok (.iload 5, 2) := by decide +kernel
theorem d_m_proof_247 : decode b_m_proof 247 = .ok (.ireturn, 1) := by decide +kernel
abbrev b_m_missing : ByteArray := prog_14_method_52_code
abbrev y_m_missing : MethodName := ⟨"WhoRulesModel", "missing", "(I)I"⟩
theorem d_m_missing_0 : decode b_m_missing 0 = .ok (.bipush 12, 2) := by decide +kernel
theorem d_m_missing_2 : decode b_m_missing 2 = .ok (.istore_n 2, 1) := by decide +kernel
theorem d_m_missing_3 : decode b_m_missing 3 = .ok (.iconst 0, 1) := by decide +kernel
theorem d_m_missing_4 : decode b_m_missing 4 = .ok (.istore_n 3, 1) := by decide +kernel
theorem d_m_missing_5 : decode b_m_missing 5 = .ok (.iload_n 3, 1) := by decide +kernel
theorem d_m_missing_6 : decode b_m_missing 6 = .ok (.aload_n 0, 1) := by decide +kernel
theorem d_m_missing_7 : decode b_m_missing 7 = .ok (.getfield 19, 3) := by decide +kernel
theorem d_m_missing_10 : decode b_m_missing 10 = .ok (.if_icmp .ge 41, 3) := by decide +kernel
theorem d_m_missing_13 : decode b_m_missing 13 = .ok (.iload_n 2, 1) := by decide +kernel
theorem d_m_missing_14 : decode b_m_missing 14 = .ok (.aload_n 0, 1) := by decide +kernel
theorem d_m_missing_15 : decode b_m_missing 15 = .ok (.getfield 32, 3) := by decide +kernel
theorem d_m_missing_18 : decode b_m_missing 18 = .ok (.iload_n 3, 1) := by decide +kernel
theorem d_m_missing_19 : decode b_m_missing 19 = .ok (.iaload, 1) := by decide +kernel
theorem d_m_missing_20 : decode b_m_missing 20 = .ok (.iload_n 1, 1) := by decide +kernel
theorem d_m_missing_21 : decode b_m_missing 21 = .ok (.if_icmp .ne 21, 3) := by decide +kernel
theorem d_m_missing_24 : decode b_m_missing 24 = .ok (.aload_n 0, 1) := by decide +kernel
theorem d_m_missing_25 : decode b_m_missing 25 = .ok (.getfield 130, 3) := by decide +kernel
theorem d_m_missing_28 : decode b_m_missing 28 = .ok (.iload_n 3, 1) := by decide +kernel
theorem d_m_missing_29 : decode b_m_missing 29 = .ok (.iaload, 1) := by decide +kernel
theorem d_m_missing_30 : decode b_m_missing 30 = .ok (.ifCond .lt 12, 3) := by decide +kernel
theorem d_m_missing_33 : decode b_m_missing 33 = .ok (.aload_n 0, 1) := by decide +kernel
theorem d_m_missing_34 : decode b_m_missing 34 = .ok (.getfield 38, 3) := by decide +kernel
theorem d_m_missing_37 : decode b_m_missing 37 = .ok (.iload_n 3, 1) := by decide +kernel
theorem d_m_missing_38 : decode b_m_missing 38 = .ok (.iaload, 1) := by decide +kernel
theorem d_m_missing_39 : decode b_m_missing 39 = .ok (.goto 4, 3) := by decide +kernel
theorem d_m_missing_42 : decode b_m_missing 42 = .ok (.iconst 0, 1) := by decide +kernel
theorem d_m_missing_43 : decode b_m_missing 43 = .ok (.isub, 1) := by decide +kernel
theorem d_m_missing_44 : decode b_m_missing 44 = .ok (.istore_n 2, 1) := by decide +kernel
theorem d_m_missing_45 : decode b_m_missing 45 = .ok (.iinc 3 1, 3) := by decide +kernel
theorem d_m_missing_48 : decode b_m_missing 48 = .ok (.goto (-43), 3) := by decide +kernel
theorem d_m_missing_51 : decode b_m_missing 51 = .ok (.iload_n 2, 1) := by decide +kernel
theorem d_m_missing_52 : decode b_m_missing 52 = .ok (.ireturn, 1) := by decide +kernel
abbrev b_m_findReach : ByteArray := prog_14_method_53_code
abbrev y_m_findReach : MethodName := ⟨"WhoRulesModel", "findReach", "()V"⟩
theorem d_m_findReach_0 : decode b_m_findReach 0 = .ok (.iconst 0, 1) := by decide +kernel
theorem d_m_findReach_1 : decode b_m_findReach 1 = .ok (.istore_n 1, 1) := by decide +kernel
theorem d_m_findReach_2 : decode b_m_findReach 2 = .ok (.iload_n 1, 1) := by decide +kernel
theorem d_m_findReach_3 : decode b_m_findReach 3 = .ok (.aload_n 0, 1) := by decide +kernel
theorem d_m_findReach_4 : decode b_m_findReach 4 = .ok (.getfield 13, 3) := by decide +kernel
theorem d_m_findReach_7 : decode b_m_findReach 7 = .ok (.if_icmp .ge 104, 3) := by decide +kernel
theorem d_m_findReach_10 : decode b_m_findReach 10 = .ok (.aload_n 0, 1) := by decide +kernel
theorem d_m_findReach_11 : decode b_m_findReach 11 = .ok (.getfield 176, 3) := by decide +kernel
theorem d_m_findReach_14 : decode b_m_findReach 14 = .ok (.iload_n 1, 1) := by decide +kernel
theorem d_m_findReach_15 : decode b_m_findReach 15 = .ok (.aload_n 0, 1) := by decide +kernel
theorem d_m_findReach_16 : decode b_m_findReach 16 = .ok (.getfield 25, 3) := by decide +kernel
theorem d_m_findReach_19 : decode b_m_findReach 19 = .ok (.iload_n 1, 1) := by decide +kernel
theorem d_m_findReach_20 : decode b_m_findReach 20 = .ok (.iaload, 1) := by decide +kernel
theorem d_m_findReach_21 : decode b_m_findReach 21 = .ok (.iconst 1, 1) := by decide +kernel
theorem d_m_findReach_22 : decode b_m_findReach 22 = .ok (.if_icmp .ne 15, 3) := by decide +kernel
theorem d_m_findReach_25 : decode b_m_findReach 25 = .ok (.aload_n 0, 1) := by decide +kernel
theorem d_m_findReach_26 : decode b_m_findReach 26 = .ok (.iload_n 1, 1) := by decide +kernel
theorem d_m_findReach_27 : decode b_m_findReach 27 = .ok (.invokevirtual 362, 3) := by decide +kernel
theorem d_m_findReach_30 : decode b_m_findReach 30 = .ok (.ifCond .le 7, 3) := by decide +kernel
theorem d_m_findReach_33 : decode b_m_findReach 33 = .ok (.iconst 1, 1) := by decide +kernel
theorem d_m_findReach_34 : decode b_m_findReach 34 = .ok (.goto 4, 3) := by decide +kernel
theorem d_m_findReach_37 : decode b_m_findReach 37 = .ok (.iconst 0, 1) := by decide +kernel
theorem d_m_findReach_38 : decode b_m_findReach 38 = .ok (.iastore, 1) := by decide +kernel
theorem d_m_findReach_39 : decode b_m_findReach 39 = .ok (.iconst 0, 1) := by decide +kernel
theorem d_m_findReach_40 : decode b_m_findReach 40 = .ok (.istore_n 2, 1) := by decide +kernel
theorem d_m_findReach_41 : decode b_m_findReach 41 = .ok (.iload_n 2, 1) := by decide +kernel
theorem d_m_findReach_42 : decode b_m_findReach 42 = .ok (.aload_n 0, 1) := by decide +kernel
theorem d_m_findReach_43 : decode b_m_findReach 43 = .ok (.getfield 19, 3) := by decide +kernel
theorem d_m_findReach_46 : decode b_m_findReach 46 = .ok (.if_icmp .ge 59, 3) := by decide +kernel
theorem d_m_findReach_49 : decode b_m_findReach 49 = .ok (.aload_n 0, 1) := by decide +kernel
theorem d_m_findReach_50 : decode b_m_findReach 50 = .ok (.getfield 32, 3) := by decide +kernel
theorem d_m_findReach_53 : decode b_m_findReach 53 = .ok (.iload_n 2, 1) := by decide +kernel
theorem d_m_findReach_54 : decode b_m_findReach 54 = .ok (.iaload, 1) := by decide +kernel
theorem d_m_findReach_55 : decode b_m_findReach 55 = .ok (.iload_n 1, 1) := by decide +kernel
theorem d_m_findReach_56 : decode b_m_findReach 56 = .ok (.if_icmp .ne 43, 3) := by decide +kernel
theorem d_m_findReach_59 : decode b_m_findReach 59 = .ok (.aload_n 0, 1) := by decide +kernel
theorem d_m_findReach_60 : decode b_m_findReach 60 = .ok (.getfield 38, 3) := by decide +kernel
theorem d_m_findReach_63 : decode b_m_findReach 63 = .ok (.iload_n 2, 1) := by decide +kernel
theorem d_m_findReach_64 : decode b_m_findReach 64 = .ok (.iaload, 1) := by decide +kernel
theorem d_m_findReach_65 : decode b_m_findReach 65 = .ok (.ifCond .le 34, 3) := by decide +kernel
theorem d_m_findReach_68 : decode b_m_findReach 68 = .ok (.aload_n 0, 1) := by decide +kernel
theorem d_m_findReach_69 : decode b_m_findReach 69 = .ok (.getfield 130, 3) := by decide +kernel
theorem d_m_findReach_72 : decode b_m_findReach 72 = .ok (.iload_n 2, 1) := by decide +kernel
theorem d_m_findReach_73 : decode b_m_findReach 73 = .ok (.iaload, 1) := by decide +kernel
theorem d_m_findReach_74 : decode b_m_findReach 74 = .ok (.ifCond .lt 25, 3) := by decide +kernel
theorem d_m_findReach_77 : decode b_m_findReach 77 = .ok (.aload_n 0, 1) := by decide +kernel
theorem d_m_findReach_78 : decode b_m_findReach 78 = .ok (.getfield 25, 3) := by decide +kernel
theorem d_m_findReach_81 : decode b_m_findReach 81 = .ok (.aload_n 0, 1) := by decide +kernel
theorem d_m_findReach_82 : decode b_m_findReach 82 = .ok (.getfield 130, 3) := by decide +kernel
theorem d_m_findReach_85 : decode b_m_findReach 85 = .ok (.iload_n 2, 1) := by decide +kernel
theorem d_m_findReach_86 : decode b_m_findReach 86 = .ok (.iaload, 1) := by decide +kernel
theorem d_m_findReach_87 : decode b_m_findReach 87 = .ok (.iaload, 1) := by decide +kernel
theorem d_m_findReach_88 : decode b_m_findReach 88 = .ok (.iconst 1, 1) := by decide +kernel
theorem d_m_findReach_89 : decode b_m_findReach 89 = .ok (.if_icmp .eq 10, 3) := by decide +kernel
theorem d_m_findReach_92 : decode b_m_findReach 92 = .ok (.aload_n 0, 1) := by decide +kernel
theorem d_m_findReach_93 : decode b_m_findReach 93 = .ok (.getfield 176, 3) := by decide +kernel
theorem d_m_findReach_96 : decode b_m_findReach 96 = .ok (.iload_n 1, 1) := by decide +kernel
theorem d_m_findReach_97 : decode b_m_findReach 97 = .ok (.iconst 1, 1) := by decide +kernel
theorem d_m_findReach_98 : decode b_m_findReach 98 = .ok (.iastore, 1) := by decide +kernel
theorem d_m_findReach_99 : decode b_m_findReach 99 = .ok (.iinc 2 1, 3) := by decide +kernel
theorem d_m_findReach_102 : decode b_m_findReach 102 = .ok (.goto (-61), 3) := by decide +kernel
theorem d_m_findReach_105 : decode b_m_findReach 105 = .ok (.iinc 1 1, 3) := by decide +kernel
theorem d_m_findReach_108 : decode b_m_findReach 108 = .ok (.goto (-106), 3) := by decide +kernel
theorem d_m_findReach_111 : decode b_m_findReach 111 = .ok (.iconst 1, 1) := by decide +kernel
theorem d_m_findReach_112 : decode b_m_findReach 112 = .ok (.istore_n 1, 1) := by decide +kernel
theorem d_m_findReach_113 : decode b_m_findReach 113 = .ok (.iload_n 1, 1) := by decide +kernel
theorem d_m_findReach_114 : decode b_m_findReach 114 = .ok (.ifCond .eq 85, 3) := by decide +kernel
theorem d_m_findReach_117 : decode b_m_findReach 117 = .ok (.iconst 0, 1) := by decide +kernel
theorem d_m_findReach_118 : decode b_m_findReach 118 = .ok (.istore_n 1, 1) := by decide +kernel
theorem d_m_findReach_119 : decode b_m_findReach 119 = .ok (.iconst 0, 1) := by decide +kernel
theorem d_m_findReach_120 : decode b_m_findReach 120 = .ok (.istore_n 2, 1) := by decide +kernel
theorem d_m_findReach_121 : decode b_m_findReach 121 = .ok (.iload_n 2, 1) := by decide +kernel
theorem d_m_findReach_122 : decode b_m_findReach 122 = .ok (.aload_n 0, 1) := by decide +kernel
theorem d_m_findReach_123 : decode b_m_findReach 123 = .ok (.getfield 19, 3) := by decide +kernel
theorem d_m_findReach_126 : decode b_m_findReach 126 = .ok (.if_icmp .ge 70, 3) := by decide +kernel
theorem d_m_findReach_129 : decode b_m_findReach 129 = .ok (.aload_n 0, 1) := by decide +kernel
theorem d_m_findReach_130 : decode b_m_findReach 130 = .ok (.getfield 32, 3) := by decide +kernel
theorem d_m_findReach_133 : decode b_m_findReach 133 = .ok (.iload_n 2, 1) := by decide +kernel
theorem d_m_findReach_134 : decode b_m_findReach 134 = .ok (.iaload, 1) := by decide +kernel
theorem d_m_findReach_135 : decode b_m_findReach 135 = .ok (.istore_n 3, 1) := by decide +kernel
theorem d_m_findReach_136 : decode b_m_findReach 136 = .ok (.aload_n 0, 1) := by decide +kernel
theorem d_m_findReach_137 : decode b_m_findReach 137 = .ok (.getfield 176, 3) := by decide +kernel
theorem d_m_findReach_140 : decode b_m_findReach 140 = .ok (.iload_n 3, 1) := by decide +kernel
theorem d_m_findReach_141 : decode b_m_findReach 141 = .ok (.iaload, 1) := by decide +kernel
theorem d_m_findReach_142 : decode b_m_findReach 142 = .ok (.iconst 1, 1) := by decide +kernel
theorem d_m_findReach_143 : decode b_m_findReach 143 = .ok (.if_icmp .eq 47, 3) := by decide +kernel
theorem d_m_findReach_146 : decode b_m_findReach 146 = .ok (.aload_n 0, 1) := by decide +kernel
theorem d_m_findReach_147 : decode b_m_findReach 147 = .ok (.getfield 38, 3) := by decide +kernel
theorem d_m_findReach_150 : decode b_m_findReach 150 = .ok (.iload_n 2, 1) := by decide +kernel
theorem d_m_findReach_151 : decode b_m_findReach 151 = .ok (.iaload, 1) := by decide +kernel
theorem d_m_findReach_152 : decode b_m_findReach 152 = .ok (.ifCond .eq 38, 3) := by decide +kernel
theorem d_m_findReach_155 : decode b_m_findReach 155 = .ok (.aload_n 0, 1) := by decide +kernel
theorem d_m_findReach_156 : decode b_m_findReach 156 = .ok (.getfield 130, 3) := by decide +kernel
theorem d_m_findReach_159 : decode b_m_findReach 159 = .ok (.iload_n 2, 1) := by decide +kernel
theorem d_m_findReach_160 : decode b_m_findReach 160 = .ok (.iaload, 1) := by decide +kernel
theorem d_m_findReach_161 : decode b_m_findReach 161 = .ok (.ifCond .lt 29, 3) := by decide +kernel
theorem d_m_findReach_164 : decode b_m_findReach 164 = .ok (.aload_n 0, 1) := by decide +kernel
theorem d_m_findReach_165 : decode b_m_findReach 165 = .ok (.getfield 176, 3) := by decide +kernel
theorem d_m_findReach_168 : decode b_m_findReach 168 = .ok (.aload_n 0, 1) := by decide +kernel
theorem d_m_findReach_169 : decode b_m_findReach 169 = .ok (.getfield 130, 3) := by decide +kernel
theorem d_m_findReach_172 : decode b_m_findReach 172 = .ok (.iload_n 2, 1) := by decide +kernel
theorem d_m_findReach_173 : decode b_m_findReach 173 = .ok (.iaload, 1) := by decide +kernel
theorem d_m_findReach_174 : decode b_m_findReach 174 = .ok (.iaload, 1) := by decide +kernel
theorem d_m_findReach_175 : decode b_m_findReach 175 = .ok (.ifCond .ne 6, 3) := by decide +kernel
theorem d_m_findReach_178 : decode b_m_findReach 178 = .ok (.goto 12, 3) := by decide +kernel
theorem d_m_findReach_181 : decode b_m_findReach 181 = .ok (.aload_n 0, 1) := by decide +kernel
theorem d_m_findReach_182 : decode b_m_findReach 182 = .ok (.getfield 176, 3) := by decide +kernel
theorem d_m_findReach_185 : decode b_m_findReach 185 = .ok (.iload_n 3, 1) := by decide +kernel
theorem d_m_findReach_186 : decode b_m_findReach 186 = .ok (.iconst 1, 1) := by decide +kernel
theorem d_m_findReach_187 : decode b_m_findReach 187 = .ok (.iastore, 1) := by decide +kernel
theorem d_m_findReach_188 : decode b_m_findReach 188 = .ok (.iconst 1, 1) := by decide +kernel
theorem d_m_findReach_189 : decode b_m_findReach 189 = .ok (.istore_n 1, 1) := by decide +kernel
theorem d_m_findReach_190 : decode b_m_findReach 190 = .ok (.iinc 2 1, 3) := by decide +kernel
theorem d_m_findReach_193 : decode b_m_findReach 193 = .ok (.goto (-72), 3) := by decide +kernel
theorem d_m_findReach_196 : decode b_m_findReach 196 = .ok (.goto (-83), 3) := by decide +kernel
theorem d_m_findReach_199 : decode b_m_findReach 199 = .ok (.return_, 1) := by decide +kernel
abbrev b_m_divisor : ByteArray := prog_14_method_54_code
abbrev y_m_divisor : MethodName := ⟨"WhoRulesModel", "divisor", "(JJ)J"⟩
theorem d_m_divisor_0 : decode b_m_divisor 0 = .ok (.lload_n 1, 1) := by decide +kernel
theorem d_m_divisor_1 : decode b_m_divisor 1 = .ok (.lconst 0, 1) := by decide +kernel
theorem d_m_divisor_2 : decode b_m_divisor 2 = .ok (.lcmp, 1) := by decide +kernel
theorem d_m_divisor_3 : decode b_m_divisor 3 = .ok (.ifCond .ge 8, 3) := by decide +kernel
theorem d_m_divisor_6 : decode b_m_divisor 6 = .ok (.lload_n 1, 1) := by decide +kernel
theorem d_m_divisor_7 : decode b_m_divisor 7 = .ok (.lneg, 1) := by decide +kernel
theorem d_m_divisor_8 : decode b_m_divisor 8 = .ok (.goto 4, 3) := by decide +kernel
theorem d_m_divisor_11 : decode b_m_divisor 11 = .ok (.lload_n 1, 1) := by decide +kernel
theorem d_m_divisor_12 : decode b_m_divisor 12 = .ok (.lstore 5, 2) := by decide +kernel
theorem d_m_divisor_14 : decode b_m_divisor 14 = .ok (.lload_n 3, 1) := by decide +kernel
theorem d_m_divisor_15 : decode b_m_divisor 15 = .ok (.lconst 0, 1) := by decide +kernel
theorem d_m_divisor_16 : decode b_m_divisor 16 = .ok (.lcmp, 1) := by decide +kernel
theorem d_m_divisor_17 : decode b_m_divisor 17 = .ok (.ifCond .ge 8, 3) := by decide +kernel
theorem d_m_divisor_20 : decode b_m_divisor 20 = .ok (.lload_n 3, 1) := by decide +kernel
theorem d_m_divisor_21 : decode b_m_divisor 21 = .ok (.lneg, 1) := by decide +kernel
theorem d_m_divisor_22 : decode b_m_divisor 22 = .ok (.goto 4, 3) := by decide +kernel
theorem d_m_divisor_25 : decode b_m_divisor 25 = .ok (.lload_n 3, 1) := by decide +kernel
theorem d_m_divisor_26 : decode b_m_divisor 26 = .ok (.lstore 7, 2) := by decide +kernel
theorem d_m_divisor_28 : decode b_m_divisor 28 = .ok (.lload 7, 2) := by decide +kernel
theorem d_m_divisor_30 : decode b_m_divisor 30 = .ok (.lconst 0, 1) := by decide +kernel
theorem d_m_divisor_31 : decode b_m_divisor 31 = .ok (.lcmp, 1) := by decide +kernel
theorem d_m_divisor_32 : decode b_m_divisor 32 = .ok (.ifCond .eq 21, 3) := by decide +kernel
theorem d_m_divisor_35 : decode b_m_divisor 35 = .ok (.lload 5, 2) := by decide +kernel
theorem d_m_divisor_37 : decode b_m_divisor 37 = .ok (.lload 7, 2) := by decide +kernel
theorem d_m_divisor_39 : decode b_m_divisor 39 = .ok (.lrem, 1) := by decide +kernel
theorem d_m_divisor_40 : decode b_m_divisor 40 = .ok (.lstore 9, 2) := by decide +kernel
theorem d_m_divisor_42 : decode b_m_divisor 42 = .ok (.lload 7, 2) := by decide +kernel
theorem d_m_divisor_44 : decode b_m_divisor 44 = .ok (.lstore 5, 2) := by decide +kernel
theorem d_m_divisor_46 : decode b_m_divisor 46 = .ok (.lload 9, 2) := by decide +kernel
theorem d_m_divisor_48 : decode b_m_divisor 48 = .ok (.lstore 7, 2) := by decide +kernel
theorem d_m_divisor_50 : decode b_m_divisor 50 = .ok (.goto (-22), 3) := by decide +kernel
theorem d_m_divisor_53 : decode b_m_divisor 53 = .ok (.lload 5, 2) := by decide +kernel
theorem d_m_divisor_55 : decode b_m_divisor 55 = .ok (.lreturn, 1) := by decide +kernel
abbrev b_m_tidy : ByteArray := prog_14_method_55_code
abbrev y_m_tidy : MethodName := ⟨"WhoRulesModel", "tidy", "(I)V"⟩
theorem d_m_tidy_0 : decode b_m_tidy 0 = .ok (.lconst 0, 1) := by decide +kernel
theorem d_m_tidy_1 : decode b_m_tidy 1 = .ok (.lstore_n 2, 1) := by decide +kernel
theorem d_m_tidy_2 : decode b_m_tidy 2 = .ok (.iconst 0, 1) := by decide +kernel
theorem d_m_tidy_3 : decode b_m_tidy 3 = .ok (.istore 4, 2) := by decide +kernel
theorem d_m_tidy_5 : decode b_m_tidy 5 = .ok (.iload 4, 2) := by decide +kernel
theorem d_m_tidy_7 : decode b_m_tidy 7 = .ok (.aload_n 0, 1) := by decide +kernel
theorem d_m_tidy_8 : decode b_m_tidy 8 = .ok (.getfield 179, 3) := by decide +kernel
theorem d_m_tidy_11 : decode b_m_tidy 11 = .ok (.if_icmp .gt 27, 3) := by decide +kernel
theorem d_m_tidy_14 : decode b_m_tidy 14 = .ok (.aload_n 0, 1) := by decide +kernel
theorem d_m_tidy_15 : decode b_m_tidy 15 = .ok (.lload_n 2, 1) := by decide +kernel
theorem d_m_tidy_16 : decode b_m_tidy 16 = .ok (.aload_n 0, 1) := by decide +kernel
theorem d_m_tidy_17 : decode b_m_tidy 17 = .ok (.getfield 169, 3) := by decide +kernel
theorem d_m_tidy_20 : decode b_m_tidy 20 = .ok (.bipush 8, 2) := by decide +kernel
theorem d_m_tidy_22 : decode b_m_tidy 22 = .ok (.iload_n 1, 1) := by decide +kernel
theorem d_m_tidy_23 : decode b_m_tidy 23 = .ok (.imul, 1) := by decide +kernel
theorem d_m_tidy_24 : decode b_m_tidy 24 = .ok (.iload 4, 2) := by decide +kernel
theorem d_m_tidy_26 : decode b_m_tidy 26 = .ok (.iadd, 1) := by decide +kernel
theorem d_m_tidy_27 : decode b_m_tidy 27 = .ok (.laload, 1) := by decide +kernel
theorem d_m_tidy_28 : decode b_m_tidy 28 = .ok (.invokevirtual 365, 3) := by decide +kernel
theorem d_m_tidy_31 : decode b_m_tidy 31 = .ok (.lstore_n 2, 1) := by decide +kernel
theorem d_m_tidy_32 : decode b_m_tidy 32 = .ok (.iinc 4 1, 3) := by decide +kernel
theorem d_m_tidy_35 : decode b_m_tidy 35 = .ok (.goto (-30), 3) := by decide +kernel
theorem d_m_tidy_38 : decode b_m_tidy 38 = .ok (.iconst 0, 1) := by decide +kernel
theorem d_m_tidy_39 : decode b_m_tidy 39 = .ok (.istore 4, 2) := by decide +kernel
theorem d_m_tidy_41 : decode b_m_tidy 41 = .ok (.iload 4, 2) := by decide +kernel
theorem d_m_tidy_43 : decode b_m_tidy 43 = .ok (.aload_n 0, 1) := by decide +kernel
theorem d_m_tidy_44 : decode b_m_tidy 44 = .ok (.getfield 179, 3) := by decide +kernel
theorem d_m_tidy_47 : decode b_m_tidy 47 = .ok (.if_icmp .gt 31, 3) := by decide +kernel
theorem d_m_tidy_50 : decode b_m_tidy 50 = .ok (.lload_n 2, 1) := by decide +kernel
theorem d_m_tidy_51 : decode b_m_tidy 51 = .ok (.lconst 1, 1) := by decide +kernel
theorem d_m_tidy_52 : decode b_m_tidy 52 = .ok (.lcmp, 1) := by decide +kernel
theorem d_m_tidy_53 : decode b_m_tidy 53 = .ok (.ifCond .le 25, 3) := by decide +kernel
theorem d_m_tidy_56 : decode b_m_tidy 56 = .ok (.aload_n 0, 1) := by decide +kernel
theorem d_m_tidy_57 : decode b_m_tidy 57 = .ok (.getfield 169, 3) := by decide +kernel
theorem d_m_tidy_60 : decode b_m_tidy 60 = .ok (.bipush 8, 2) := by decide +kernel
theorem d_m_tidy_62 : decode b_m_tidy 62 = .ok (.iload_n 1, 1) := by decide +kernel
theorem d_m_tidy_63 : decode b_m_tidy 63 = .ok (.imul, 1) := by decide +kernel
theorem d_m_tidy_64 : decode b_m_tidy 64 = .ok (.iload 4, 2) := by decide +kernel
theorem d_m_tidy_66 : decode b_m_tidy 66 = .ok (.iadd, 1) := by decide +kernel
theorem d_m_tidy_67 : decode b_m_tidy 67 = .ok (.dup2, 1) := by decide +kernel
theorem d_m_tidy_68 : decode b_m_tidy 68 = .ok (.laload, 1) := by decide +kernel
theorem d_m_tidy_69 : decode b_m_tidy 69 = .ok (.lload_n 2, 1) := by decide +kernel
theorem d_m_tidy_70 : decode b_m_tidy 70 = .ok (.ldiv, 1) := by decide +kernel
theorem d_m_tidy_71 : decode b_m_tidy 71 = .ok (.lastore, 1) := by decide +kernel
theorem d_m_tidy_72 : decode b_m_tidy 72 = .ok (.iinc 4 1, 3) := by decide +kernel
theorem d_m_tidy_75 : decode b_m_tidy 75 = .ok (.goto (-34), 3) := by decide +kernel
theorem d_m_tidy_78 : decode b_m_tidy 78 = .ok (.return_, 1) := by decide +kernel
abbrev b_m_placeOf : ByteArray := prog_14_method_56_code
abbrev y_m_placeOf : MethodName := ⟨"WhoRulesModel", "placeOf", "(I)I"⟩
theorem d_m_placeOf_0 : decode b_m_placeOf 0 = .ok (.iconst 0, 1) := by decide +kernel
theorem d_m_placeOf_1 : decode b_m_placeOf 1 = .ok (.istore_n 2, 1) := by decide +kernel
theorem d_m_placeOf_2 : decode b_m_placeOf 2 = .ok (.iload_n 2, 1) := by decide +kernel
theorem d_m_placeOf_3 : decode b_m_placeOf 3 = .ok (.aload_n 0, 1) := by decide +kernel
theorem d_m_placeOf_4 : decode b_m_placeOf 4 = .ok (.getfield 179, 3) := by decide +kernel
theorem d_m_placeOf_7 : decode b_m_placeOf 7 = .ok (.if_icmp .ge 21, 3) := by decide +kernel
theorem d_m_placeOf_10 : decode b_m_placeOf 10 = .ok (.aload_n 0, 1) := by decide +kernel
theorem d_m_placeOf_11 : decode b_m_placeOf 11 = .ok (.getfield 173, 3) := by decide +kernel
theorem d_m_placeOf_14 : decode b_m_placeOf 14 = .ok (.iload_n 2, 1) := by decide +kernel
theorem d_m_placeOf_15 : decode b_m_placeOf 15 = .ok (.iaload, 1) := by decide +kernel
theorem d_m_placeOf_16 : decode b_m_placeOf 16 = .ok (.iload_n 1, 1) := by decide +kernel
theorem d_m_placeOf_17 : decode b_m_placeOf 17 = .ok (.if_icmp .ne 5, 3) := by decide +kernel
theorem d_m_placeOf_20 : decode b_m_placeOf 20 = .ok (.iload_n 2, 1) := by decide +kernel
theorem d_m_placeOf_21 : decode b_m_placeOf 21 = .ok (.ireturn, 1) := by decide +kernel
theorem d_m_placeOf_22 : decode b_m_placeOf 22 = .ok (.iinc 2 1, 3) := by decide +kernel
theorem d_m_placeOf_25 : decode b_m_placeOf 25 = .ok (.goto (-23), 3) := by decide +kernel
theorem d_m_placeOf_28 : decode b_m_placeOf 28 = .ok (.iconst (-1), 1) := by decide +kernel
theorem d_m_placeOf_29 : decode b_m_placeOf 29 = .ok (.ireturn, 1) := by decide +kernel
abbrev b_m_putRows : ByteArray := prog_14_method_57_code
abbrev y_m_putRows : MethodName := ⟨"WhoRulesModel", "putRows", "(I)V"⟩
theorem d_m_putRows_0 : decode b_m_putRows 0 = .ok (.aload_n 0, 1) := by decide +kernel
theorem d_m_putRows_1 : decode b_m_putRows 1 = .ok (.iconst 0, 1) := by decide +kernel
theorem d_m_putRows_2 : decode b_m_putRows 2 = .ok (.putfield 179, 3) := by decide +kernel
theorem d_m_putRows_5 : decode b_m_putRows 5 = .ok (.iconst 0, 1) := by decide +kernel
theorem d_m_putRows_6 : decode b_m_putRows 6 = .ok (.istore_n 2, 1) := by decide +kernel
theorem d_m_putRows_7 : decode b_m_putRows 7 = .ok (.iload_n 2, 1) := by decide +kernel
theorem d_m_putRows_8 : decode b_m_putRows 8 = .ok (.aload_n 0, 1) := by decide +kernel
theorem d_m_putRows_9 : decode b_m_putRows 9 = .ok (.getfield 13, 3) := by decide +kernel
theorem d_m_putRows_12 : decode b_m_putRows 12 = .ok (.if_icmp .ge 51, 3) := by decide +kernel
theorem d_m_putRows_15 : decode b_m_putRows 15 = .ok (.aload_n 0, 1) := by decide +kernel
theorem d_m_putRows_16 : decode b_m_putRows 16 = .ok (.getfield 25, 3) := by decide +kernel
theorem d_m_putRows_19 : decode b_m_putRows 19 = .ok (.iload_n 2, 1) := by decide +kernel
theorem d_m_putRows_20 : decode b_m_putRows 20 = .ok (.iaload, 1) := by decide +kernel
theorem d_m_putRows_21 : decode b_m_putRows 21 = .ok (.iconst 1, 1) := by decide +kernel
theorem d_m_putRows_22 : decode b_m_putRows 22 = .ok (.if_icmp .ne 35, 3) := by decide +kernel
theorem d_m_putRows_25 : decode b_m_putRows 25 = .ok (.aload_n 0, 1) := by decide +kernel
theorem d_m_putRows_26 : decode b_m_putRows 26 = .ok (.getfield 176, 3) := by decide +kernel
theorem d_m_putRows_29 : decode b_m_putRows 29 = .ok (.iload_n 2, 1) := by decide +kernel
theorem d_m_putRows_30 : decode b_m_putRows 30 = .ok (.iaload, 1) := by decide +kernel
theorem d_m_putRows_31 : decode b_m_putRows 31 = .ok (.ifCond .ne 6, 3) := by decide +kernel
theorem d_m_putRows_34 : decode b_m_putRows 34 = .ok (.goto 23, 3) := by decide +kernel
theorem d_m_putRows_37 : decode b_m_putRows 37 = .ok (.aload_n 0, 1) := by decide +kernel
theorem d_m_putRows_38 : decode b_m_putRows 38 = .ok (.getfield 173, 3) := by decide +kernel
theorem d_m_putRows_41 : decode b_m_putRows 41 = .ok (.aload_n 0, 1) := by decide +kernel
theorem d_m_putRows_42 : decode b_m_putRows 42 = .ok (.getfield 179, 3) := by decide +kernel
theorem d_m_putRows_45 : decode b_m_putRows 45 = .ok (.iload_n 2, 1) := by decide +kernel
theorem d_m_putRows_46 : decode b_m_putRows 46 = .ok (.iastore, 1) := by decide +kernel
theorem d_m_putRows_47 : decode b_m_putRows 47 = .ok (.aload_n 0, 1) := by decide +kernel
theorem d_m_putRows_48 : decode b_m_putRows 48 = .ok (.dup, 1) := by decide +kernel
theorem d_m_putRows_49 : decode b_m_putRows 49 = .ok (.getfield 179, 3) := by decide +kernel
theorem d_m_putRows_52 : decode b_m_putRows 52 = .ok (.iconst 1, 1) := by decide +kernel
theorem d_m_putRows_53 : decode b_m_putRows 53 = .ok (.iadd, 1) := by decide +kernel
theorem d_m_putRows_54 : decode b_m_putRows 54 = .ok (.putfield 179, 3) := by decide +kernel
theorem d_m_putRows_57 : decode b_m_putRows 57 = .ok (.iinc 2 1, 3) := by decide +kernel
theorem d_m_putRows_60 : decode b_m_putRows 60 = .ok (.goto (-53), 3) := by decide +kernel
theorem d_m_putRows_63 : decode b_m_putRows 63 = .ok (.iconst 0, 1) := by decide +kernel
theorem d_m_putRows_64 : decode b_m_putRows 64 = .ok (.istore_n 2, 1) := by decide +kernel
theorem d_m_putRows_65 : decode b_m_putRows 65 = .ok (.iload_n 2, 1) := by decide +kernel
theorem d_m_putRows_66 : decode b_m_putRows 66 = .ok (.bipush 56, 2) := by decide +kernel
theorem d_m_putRows_68 : decode b_m_putRows 68 = .ok (.if_icmp .ge 16, 3) := by decide +kernel
theorem d_m_putRows_71 : decode b_m_putRows 71 = .ok (.aload_n 0, 1) := by decide +kernel
theorem d_m_putRows_72 : decode b_m_putRows 72 = .ok (.getfield 169, 3) := by decide +kernel
theorem d_m_putRows_75 : decode b_m_putRows 75 = .ok (.iload_n 2, 1) := by decide +kernel
theorem d_m_putRows_76 : decode b_m_putRows 76 = .ok (.lconst 0, 1) := by decide +kernel
theorem d_m_putRows_77 : decode b_m_putRows 77 = .ok (.lastore, 1) := by decide +kernel
theorem d_m_putRows_78 : decode b_m_putRows 78 = .ok (.iinc 2 1, 3) := by decide +kernel
theorem d_m_putRows_81 : decode b_m_putRows 81 = .ok (.goto (-16), 3) := by decide +kernel
theorem d_m_putRows_84 : decode b_m_putRows 84 = .ok (.iconst 0, 1) := by decide +kernel
theorem d_m_putRows_85 : decode b_m_putRows 85 = .ok (.istore_n 2, 1) := by decide +kernel
theorem d_m_putRows_86 : decode b_m_putRows 86 = .ok (.iload_n 2, 1) := by decide +kernel
theorem d_m_putRows_87 : decode b_m_putRows 87 = .ok (.aload_n 0, 1) := by decide +kernel
theorem d_m_putRows_88 : decode b_m_putRows 88 = .ok (.getfield 179, 3) := by decide +kernel
theorem d_m_putRows_91 : decode b_m_putRows 91 = .ok (.if_icmp .ge 163, 3) := by decide +kernel
theorem d_m_putRows_94 : decode b_m_putRows 94 = .ok (.aload_n 0, 1) := by decide +kernel
theorem d_m_putRows_95 : decode b_m_putRows 95 = .ok (.getfield 169, 3) := by decide +kernel
theorem d_m_putRows_98 : decode b_m_putRows 98 = .ok (.bipush 8, 2) := by decide +kernel
theorem d_m_putRows_100 : decode b_m_putRows 100 = .ok (.iload_n 2, 1) := by decide +kernel
theorem d_m_putRows_101 : decode b_m_putRows 101 = .ok (.imul, 1) := by decide +kernel
theorem d_m_putRows_102 : decode b_m_putRows 102 = .ok (.iload_n 2, 1) := by decide +kernel
theorem d_m_putRows_103 : decode b_m_putRows 103 = .ok (.iadd, 1) := by decide +kernel
theorem d_m_putRows_104 : decode b_m_putRows 104 = .ok (.ldc2_w 369, 3) := by decide +kernel
theorem d_m_putRows_107 : decode b_m_putRows 107 = .ok (.lastore, 1) := by decide +kernel
theorem d_m_putRows_108 : decode b_m_putRows 108 = .ok (.iconst 0, 1) := by decide +kernel
theorem d_m_putRows_109 : decode b_m_putRows 109 = .ok (.istore_n 3, 1) := by decide +kernel
theorem d_m_putRows_110 : decode b_m_putRows 110 = .ok (.iload_n 3, 1) := by decide +kernel
theorem d_m_putRows_111 : decode b_m_putRows 111 = .ok (.aload_n 0, 1) := by decide +kernel
theorem d_m_putRows_112 : decode b_m_putRows 112 = .ok (.getfield 19, 3) := by decide +kernel
theorem d_m_putRows_115 : decode b_m_putRows 115 = .ok (.if_icmp .ge 128, 3) := by decide +kernel
theorem d_m_putRows_118 : decode b_m_putRows 118 = .ok (.aload_n 0, 1) := by decide +kernel
theorem d_m_putRows_119 : decode b_m_putRows 119 = .ok (.getfield 32, 3) := by decide +kernel
theorem d_m_putRows_122 : decode b_m_putRows 122 = .ok (.iload_n 3, 1) := by decide +kernel
theorem d_m_putRows_123 : decode b_m_putRows 123 = .ok (.iaload, 1) := by decide +kernel
theorem d_m_putRows_124 : decode b_m_putRows 124 = .ok (.aload_n 0, 1) := by decide +kernel
theorem d_m_putRows_125 : decode b_m_putRows 125 = .ok (.getfield 173, 3) := by decide +kernel
theorem d_m_putRows_128 : decode b_m_putRows 128 = .ok (.iload_n 2, 1) := by decide +kernel
theorem d_m_putRows_129 : decode b_m_putRows 129 = .ok (.iaload, 1) := by decide +kernel
theorem d_m_putRows_130 : decode b_m_putRows 130 = .ok (.if_icmp .ne 107, 3) := by decide +kernel
theorem d_m_putRows_133 : decode b_m_putRows 133 = .ok (.aload_n 0, 1) := by decide +kernel
theorem d_m_putRows_134 : decode b_m_putRows 134 = .ok (.getfield 130, 3) := by decide +kernel
theorem d_m_putRows_137 : decode b_m_putRows 137 = .ok (.iload_n 3, 1) := by decide +kernel
theorem d_m_putRows_138 : decode b_m_putRows 138 = .ok (.iaload, 1) := by decide +kernel
theorem d_m_putRows_139 : decode b_m_putRows 139 = .ok (.ifCond .ge 6, 3) := by decide +kernel
theorem d_m_putRows_142 : decode b_m_putRows 142 = .ok (.goto 95, 3) := by decide +kernel
theorem d_m_putRows_145 : decode b_m_putRows 145 = .ok (.aload_n 0, 1) := by decide +kernel
theorem d_m_putRows_146 : decode b_m_putRows 146 = .ok (.getfield 25, 3) := by decide +kernel
theorem d_m_putRows_149 : decode b_m_putRows 149 = .ok (.aload_n 0, 1) := by decide +kernel
theorem d_m_putRows_150 : decode b_m_putRows 150 = .ok (.getfield 130, 3) := by decide +kernel
theorem d_m_putRows_153 : decode b_m_putRows 153 = .ok (.iload_n 3, 1) := by decide +kernel
theorem d_m_putRows_154 : decode b_m_putRows 154 = .ok (.iaload, 1) := by decide +kernel
theorem d_m_putRows_155 : decode b_m_putRows 155 = .ok (.iaload, 1) := by decide +kernel
theorem d_m_putRows_156 : decode b_m_putRows 156 = .ok (.iconst 1, 1) := by decide +kernel
theorem d_m_putRows_157 : decode b_m_putRows 157 = .ok (.if_icmp .ne 16, 3) := by decide +kernel
theorem d_m_putRows_160 : decode b_m_putRows 160 = .ok (.aload_n 0, 1) := by decide +kernel
theorem d_m_putRows_161 : decode b_m_putRows 161 = .ok (.aload_n 0, 1) := by decide +kernel
theorem d_m_putRows_162 : decode b_m_putRows 162 = .ok (.getfield 130, 3) := by decide +kernel
theorem d_m_putRows_165 : decode b_m_putRows 165 = .ok (.iload_n 3, 1) := by decide +kernel
theorem d_m_putRows_166 : decode b_m_putRows 166 = .ok (.iaload, 1) := by decide +kernel
theorem d_m_putRows_167 : decode b_m_putRows 167 = .ok (.invokevirtual 371, 3) := by decide +kernel
theorem d_m_putRows_170 : decode b_m_putRows 170 = .ok (.goto 4, 3) := by decide +kernel
theorem d_m_putRows_173 : decode b_m_putRows 173 = .ok (.iconst (-1), 1) := by decide +kernel
theorem d_m_putRows_174 : decode b_m_putRows 174 = .ok (.istore 4, 2) := by decide +kernel
theorem d_m_putRows_176 : decode b_m_putRows 176 = .ok (.iload 4, 2) := by decide +kernel
theorem d_m_putRows_178 : decode b_m_putRows 178 = .ok (.ifCond .lt 25, 3) := by decide +kernel
theorem d_m_putRows_181 : decode b_m_putRows 181 = .ok (.aload_n 0, 1) := by decide +kernel
theorem d_m_putRows_182 : decode b_m_putRows 182 = .ok (.getfield 169, 3) := by decide +kernel
theorem d_m_putRows_185 : decode b_m_putRows 185 = .ok (.bipush 8, 2) := by decide +kernel
theorem d_m_putRows_187 : decode b_m_putRows 187 = .ok (.iload_n 2, 1) := by decide +kernel
theorem d_m_putRows_188 : decode b_m_putRows 188 = .ok (.imul, 1) := by decide +kernel
theorem d_m_putRows_189 : decode b_m_putRows 189 = .ok (.iload 4, 2) := by decide +kernel
theorem d_m_putRows_191 : decode b_m_putRows 191 = .ok (.iadd, 1) := by decide +kernel
theorem d_m_putRows_192 : decode b_m_putRows 192 = .ok (.dup2, 1) := by decide +kernel
theorem d_m_putRows_193 : decode b_m_putRows 193 = .ok (.laload, 1) := by decide +kernel
theorem d_m_putRows_194 : decode b_m_putRows 194 = .ok (.aload_n 0, 1) := by decide +kernel
theorem d_m_putRows_195 : decode b_m_putRows 195 = .ok (.getfield 38, 3) := by decide +kernel
theorem d_m_putRows_198 : decode b_m_putRows 198 = .ok (.iload_n 3, 1) := by decide +kernel
theorem d_m_putRows_199 : decode b_m_putRows 199 = .ok (.iaload, 1) := by decide +kernel
theorem d_m_putRows_200 : decode b_m_putRows 200 = .ok (.i2l, 1) := by decide +kernel
theorem d_m_putRows_201 : decode b_m_putRows 201 = .ok (.lsub, 1) := by decide +kernel
theorem d_m_putRows_202 : decode b_m_putRows 202 = .ok (.lastore, 1) := by decide +kernel
theorem d_m_putRows_203 : decode b_m_putRows 203 = .ok (.aload_n 0, 1) := by decide +kernel
theorem d_m_putRows_204 : decode b_m_putRows 204 = .ok (.getfield 130, 3) := by decide +kernel
theorem d_m_putRows_207 : decode b_m_putRows 207 = .ok (.iload_n 3, 1) := by decide +kernel
theorem d_m_putRows_208 : decode b_m_putRows 208 = .ok (.iaload, 1) := by decide +kernel
theorem d_m_putRows_209 : decode b_m_putRows 209 = .ok (.iload_n 1, 1) := by decide +kernel
theorem d_m_putRows_210 : decode b_m_putRows 210 = .ok (.if_icmp .ne 27, 3) := by decide +kernel
theorem d_m_putRows_213 : decode b_m_putRows 213 = .ok (.aload_n 0, 1) := by decide +kernel
theorem d_m_putRows_214 : decode b_m_putRows 214 = .ok (.getfield 169, 3) := by decide +kernel
theorem d_m_putRows_217 : decode b_m_putRows 217 = .ok (.bipush 8, 2) := by decide +kernel
theorem d_m_putRows_219 : decode b_m_putRows 219 = .ok (.iload_n 2, 1) := by decide +kernel
theorem d_m_putRows_220 : decode b_m_putRows 220 = .ok (.imul, 1) := by decide +kernel
theorem d_m_putRows_221 : decode b_m_putRows 221 = .ok (.aload_n 0, 1) := by decide +kernel
theorem d_m_putRows_222 : decode b_m_putRows 222 = .ok (.getfield 179, 3) := by decide +kernel
theorem d_m_putRows_225 : decode b_m_putRows 225 = .ok (.iadd, 1) := by decide +kernel
theorem d_m_putRows_226 : decode b_m_putRows 226 = .ok (.dup2, 1) := by decide +kernel
theorem d_m_putRows_227 : decode b_m_putRows 227 = .ok (.laload, 1) := by decide +kernel
theorem d_m_putRows_228 : decode b_m_putRows 228 = .ok (.aload_n 0, 1) := by decide +kernel
theorem d_m_putRows_229 : decode b_m_putRows 229 = .ok (.getfield 38, 3) := by decide +kernel
theorem d_m_putRows_232 : decode b_m_putRows 232 = .ok (.iload_n 3, 1) := by decide +kernel
theorem d_m_putRows_233 : decode b_m_putRows 233 = .ok (.iaload, 1) := by decide +kernel
theorem d_m_putRows_234 : decode b_m_putRows 234 = .ok (.i2l, 1) := by decide +kernel
theorem d_m_putRows_235 : decode b_m_putRows 235 = .ok (.ladd, 1) := by decide +kernel
theorem d_m_putRows_236 : decode b_m_putRows 236 = .ok (.lastore, 1) := by decide +kernel
theorem d_m_putRows_237 : decode b_m_putRows 237 = .ok (.iinc 3 1, 3) := by decide +kernel
theorem d_m_putRows_240 : decode b_m_putRows 240 = .ok (.goto (-130), 3) := by decide +kernel
theorem d_m_putRows_243 : decode b_m_putRows 243 = .ok (.aload_n 0, 1) := by decide +kernel
theorem d_m_putRows_244 : decode b_m_putRows 244 = .ok (.iload_n 2, 1) := by decide +kernel
theorem d_m_putRows_245 : decode b_m_putRows 245 = .ok (.invokevirtual 374, 3) := by decide +kernel
theorem d_m_putRows_248 : decode b_m_putRows 248 = .ok (.iinc 2 1, 3) := by decide +kernel
theorem d_m_putRows_251 : decode b_m_putRows 251 = .ok (.goto (-165), 3) := by decide +kernel
theorem d_m_putRows_254 : decode b_m_putRows 254 = .ok (.return_, 1) := by decide +kernel
abbrev b_m_solve : ByteArray := prog_14_method_58_code
abbrev y_m_solve : MethodName := ⟨"WhoRulesModel", "solve", "()V"⟩
theorem d_m_solve_0 : decode b_m_solve 0 = .ok (.iconst 0, 1) := by decide +kernel
theorem d_m_solve_1 : decode b_m_solve 1 = .ok (.istore_n 1, 1) := by decide +kernel
theorem d_m_solve_2 : decode b_m_solve 2 = .ok (.iload_n 1, 1) := by decide +kernel
theorem d_m_solve_3 : decode b_m_solve 3 = .ok (.aload_n 0, 1) := by decide +kernel
theorem d_m_solve_4 : decode b_m_solve 4 = .ok (.getfield 179, 3) := by decide +kernel
theorem d_m_solve_7 : decode b_m_solve 7 = .ok (.if_icmp .ge 229, 3) := by decide +kernel
theorem d_m_solve_10 : decode b_m_solve 10 = .ok (.iload_n 1, 1) := by decide +kernel
theorem d_m_solve_11 : decode b_m_solve 11 = .ok (.istore_n 2, 1) := by decide +kernel
theorem d_m_solve_12 : decode b_m_solve 12 = .ok (.aload_n 0, 1) := by decide +kernel
theorem d_m_solve_13 : decode b_m_solve 13 = .ok (.getfield 169, 3) := by decide +kernel
theorem d_m_solve_16 : decode b_m_solve 16 = .ok (.bipush 8, 2) := by decide +kernel
theorem d_m_solve_18 : decode b_m_solve 18 = .ok (.iload_n 2, 1) := by decide +kernel
theorem d_m_solve_19 : decode b_m_solve 19 = .ok (.imul, 1) := by decide +kernel
theorem d_m_solve_20 : decode b_m_solve 20 = .ok (.iload_n 1, 1) := by decide +kernel
theorem d_m_solve_21 : decode b_m_solve 21 = .ok (.iadd, 1) := by decide +kernel
theorem d_m_solve_22 : decode b_m_solve 22 = .ok (.laload, 1) := by decide +kernel
theorem d_m_solve_23 : decode b_m_solve 23 = .ok (.lconst 0, 1) := by decide +kernel
theorem d_m_solve_24 : decode b_m_solve 24 = .ok (.lcmp, 1) := by decide +kernel
theorem d_m_solve_25 : decode b_m_solve 25 = .ok (.ifCond .ne 9, 3) := by decide +kernel
theorem d_m_solve_28 : decode b_m_solve 28 = .ok (.iinc 2 1, 3) := by decide +kernel
theorem d_m_solve_31 : decode b_m_solve 31 = .ok (.goto (-19), 3) := by decide +kernel
theorem d_m_solve_34 : decode b_m_solve 34 = .ok (.iconst 0, 1) := by decide +kernel
theorem d_m_solve_35 : decode b_m_solve 35 = .ok (.istore_n 3, 1) := by decide +kernel
theorem d_m_solve_36 : decode b_m_solve 36 = .ok (.iload_n 3, 1) := by decide +kernel
theorem d_m_solve_37 : decode b_m_solve 37 = .ok (.aload_n 0, 1) := by decide +kernel
theorem d_m_solve_38 : decode b_m_solve 38 = .ok (.getfield 179, 3) := by decide +kernel
theorem d_m_solve_41 : decode b_m_solve 41 = .ok (.if_icmp .gt 57, 3) := by decide +kernel
theorem d_m_solve_44 : decode b_m_solve 44 = .ok (.aload_n 0, 1) := by decide +kernel
theorem d_m_solve_45 : decode b_m_solve 45 = .ok (.getfield 169, 3) := by decide +kernel
theorem d_m_solve_48 : decode b_m_solve 48 = .ok (.bipush 8, 2) := by decide +kernel
theorem d_m_solve_50 : decode b_m_solve 50 = .ok (.iload_n 2, 1) := by decide +kernel
theorem d_m_solve_51 : decode b_m_solve 51 = .ok (.imul, 1) := by decide +kernel
theorem d_m_solve_52 : decode b_m_solve 52 = .ok (.iload_n 3, 1) := by decide +kernel
theorem d_m_solve_53 : decode b_m_solve 53 = .ok (.iadd, 1) := by decide +kernel
theorem d_m_solve_54 : decode b_m_solve 54 = .ok (.laload, 1) := by decide +kernel
theorem d_m_solve_55 : decode b_m_solve 55 = .ok (.lstore 4, 2) := by decide +kernel
theorem d_m_solve_57 : decode b_m_solve 57 = .ok (.aload_n 0, 1) := by decide +kernel
theorem d_m_solve_58 : decode b_m_solve 58 = .ok (.getfield 169, 3) := by decide +kernel
theorem d_m_solve_61 : decode b_m_solve 61 = .ok (.bipush 8, 2) := by decide +kernel
theorem d_m_solve_63 : decode b_m_solve 63 = .ok (.iload_n 2, 1) := by decide +kernel
theorem d_m_solve_64 : decode b_m_solve 64 = .ok (.imul, 1) := by decide +kernel
theorem d_m_solve_65 : decode b_m_solve 65 = .ok (.iload_n 3, 1) := by decide +kernel
theorem d_m_solve_66 : decode b_m_solve 66 = .ok (.iadd, 1) := by decide +kernel
theorem d_m_solve_67 : decode b_m_solve 67 = .ok (.aload_n 0, 1) := by decide +kernel
theorem d_m_solve_68 : decode b_m_solve 68 = .ok (.getfield 169, 3) := by decide +kernel
theorem d_m_solve_71 : decode b_m_solve 71 = .ok (.bipush 8, 2) := by decide +kernel
theorem d_m_solve_73 : decode b_m_solve 73 = .ok (.iload_n 1, 1) := by decide +kernel
theorem d_m_solve_74 : decode b_m_solve 74 = .ok (.imul, 1) := by decide +kernel
theorem d_m_solve_75 : decode b_m_solve 75 = .ok (.iload_n 3, 1) := by decide +kernel
theorem d_m_solve_76 : decode b_m_solve 76 = .ok (.iadd, 1) := by decide +kernel
theorem d_m_solve_77 : decode b_m_solve 77 = .ok (.laload, 1) := by decide +kernel
theorem d_m_solve_78 : decode b_m_solve 78 = .ok (.lastore, 1) := by decide +kernel
theorem d_m_solve_79 : decode b_m_solve 79 = .ok (.aload_n 0, 1) := by decide +kernel
theorem d_m_solve_80 : decode b_m_solve 80 = .ok (.getfield 169, 3) := by decide +kernel
theorem d_m_solve_83 : decode b_m_solve 83 = .ok (.bipush 8, 2) := by decide +kernel
theorem d_m_solve_85 : decode b_m_solve 85 = .ok (.iload_n 1, 1) := by decide +kernel
theorem d_m_solve_86 : decode b_m_solve 86 = .ok (.imul, 1) := by decide +kernel
theorem d_m_solve_87 : decode b_m_solve 87 = .ok (.iload_n 3, 1) := by decide +kernel
theorem d_m_solve_88 : decode b_m_solve 88 = .ok (.iadd, 1) := by decide +kernel
theorem d_m_solve_89 : decode b_m_solve 89 = .ok (.lload 4, 2) := by decide +kernel
theorem d_m_solve_91 : decode b_m_solve 91 = .ok (.lastore, 1) := by decide +kernel
theorem d_m_solve_92 : decode b_m_solve 92 = .ok (.iinc 3 1, 3) := by decide +kernel
theorem d_m_solve_95 : decode b_m_solve 95 = .ok (.goto (-59), 3) := by decide +kernel
theorem d_m_solve_98 : decode b_m_solve 98 = .ok (.iconst 0, 1) := by decide +kernel
theorem d_m_solve_99 : decode b_m_solve 99 = .ok (.istore_n 3, 1) := by decide +kernel
theorem d_m_solve_100 : decode b_m_solve 100 = .ok (.iload_n 3, 1) := by decide +kernel
theorem d_m_solve_101 : decode b_m_solve 101 = .ok (.aload_n 0, 1) := by decide +kernel
theorem d_m_solve_102 : decode b_m_solve 102 = .ok (.getfield 179, 3) := by decide +kernel
theorem d_m_solve_105 : decode b_m_solve 105 = .ok (.if_icmp .ge 125, 3) := by decide +kernel
theorem d_m_solve_108 : decode b_m_solve 108 = .ok (.iload_n 3, 1) := by decide +kernel
theorem d_m_solve_109 : decode b_m_solve 109 = .ok (.iload_n 1, 1) := by decide +kernel
theorem d_m_solve_110 : decode b_m_solve 110 = .ok (.if_icmp .eq 114, 3) := by decide +kernel
theorem d_m_solve_113 : decode b_m_solve 113 = .ok (.aload_n 0, 1) := by decide +kernel
theorem d_m_solve_114 : decode b_m_solve 114 = .ok (.getfield 169, 3) := by decide +kernel
theorem d_m_solve_117 : decode b_m_solve 117 = .ok (.bipush 8, 2) := by decide +kernel
theorem d_m_solve_119 : decode b_m_solve 119 = .ok (.iload_n 3, 1) := by decide +kernel
theorem d_m_solve_120 : decode b_m_solve 120 = .ok (.imul, 1) := by decide +kernel
theorem d_m_solve_121 : decode b_m_solve 121 = .ok (.iload_n 1, 1) := by decide +kernel
theorem d_m_solve_122 : decode b_m_solve 122 = .ok (.iadd, 1) := by decide +kernel
theorem d_m_solve_123 : decode b_m_solve 123 = .ok (.laload, 1) := by decide +kernel
theorem d_m_solve_124 : decode b_m_solve 124 = .ok (.lconst 0, 1) := by decide +kernel
theorem d_m_solve_125 : decode b_m_solve 125 = .ok (.lcmp, 1) := by decide +kernel
theorem d_m_solve_126 : decode b_m_solve 126 = .ok (.ifCond .ne 6, 3) := by decide +kernel
theorem d_m_solve_129 : decode b_m_solve 129 = .ok (.goto 95, 3) := by decide +kernel
theorem d_m_solve_132 : decode b_m_solve 132 = .ok (.aload_n 0, 1) := by decide +kernel
theorem d_m_solve_133 : decode b_m_solve 133 = .ok (.getfield 169, 3) := by decide +kernel
theorem d_m_solve_136 : decode b_m_solve 136 = .ok (.bipush 8, 2) := by decide +kernel
theorem d_m_solve_138 : decode b_m_solve 138 = .ok (.iload_n 1, 1) := by decide +kernel
theorem d_m_solve_139 : decode b_m_solve 139 = .ok (.imul, 1) := by decide +kernel
theorem d_m_solve_140 : decode b_m_solve 140 = .ok (.iload_n 1, 1) := by decide +kernel
theorem d_m_solve_141 : decode b_m_solve 141 = .ok (.iadd, 1) := by decide +kernel
theorem d_m_solve_142 : decode b_m_solve 142 = .ok (.laload, 1) := by decide +kernel
theorem d_m_solve_143 : decode b_m_solve 143 = .ok (.lstore 4, 2) := by decide +kernel
theorem d_m_solve_145 : decode b_m_solve 145 = .ok (.aload_n 0, 1) := by decide +kernel
theorem d_m_solve_146 : decode b_m_solve 146 = .ok (.getfield 169, 3) := by decide +kernel
theorem d_m_solve_149 : decode b_m_solve 149 = .ok (.bipush 8, 2) := by decide +kernel
theorem d_m_solve_151 : decode b_m_solve 151 = .ok (.iload_n 3, 1) := by decide +kernel
theorem d_m_solve_152 : decode b_m_solve 152 = .ok (.imul, 1) := by decide +kernel
theorem d_m_solve_153 : decode b_m_solve 153 = .ok (.iload_n 1, 1) := by decide +kernel
theorem d_m_solve_154 : decode b_m_solve 154 = .ok (.iadd, 1) := by decide +kernel
theorem d_m_solve_155 : decode b_m_solve 155 = .ok (.laload, 1) := by decide +kernel
theorem d_m_solve_156 : decode b_m_solve 156 = .ok (.lstore 6, 2) := by decide +kernel
theorem d_m_solve_158 : decode b_m_solve 158 = .ok (.iconst 0, 1) := by decide +kernel
theorem d_m_solve_159 : decode b_m_solve 159 = .ok (.istore 8, 2) := by decide +kernel
theorem d_m_solve_161 : decode b_m_solve 161 = .ok (.iload 8, 2) := by decide +kernel
theorem d_m_solve_163 : decode b_m_solve 163 = .ok (.aload_n 0, 1) := by decide +kernel
theorem d_m_solve_164 : decode b_m_solve 164 = .ok (.getfield 179, 3) := by decide +kernel
theorem d_m_solve_167 : decode b_m_solve 167 = .ok (.if_icmp .gt 52, 3) := by decide +kernel
theorem d_m_solve_170 : decode b_m_solve 170 = .ok (.aload_n 0, 1) := by decide +kernel
theorem d_m_solve_171 : decode b_m_solve 171 = .ok (.getfield 169, 3) := by decide +kernel
theorem d_m_solve_174 : decode b_m_solve 174 = .ok (.bipush 8, 2) := by decide +kernel
theorem d_m_solve_176 : decode b_m_solve 176 = .ok (.iload_n 3, 1) := by decide +kernel
theorem d_m_solve_177 : decode b_m_solve 177 = .ok (.imul, 1) := by decide +kernel
theorem d_m_solve_178 : decode b_m_solve 178 = .ok (.iload 8, 2) := by decide +kernel
theorem d_m_solve_180 : decode b_m_solve 180 = .ok (.iadd, 1) := by decide +kernel
theorem d_m_solve_181 : decode b_m_solve 181 = .ok (.aload_n 0, 1) := by decide +kernel
theorem d_m_solve_182 : decode b_m_solve 182 = .ok (.getfield 169, 3) := by decide +kernel
theorem d_m_solve_185 : decode b_m_solve 185 = .ok (.bipush 8, 2) := by decide +kernel
theorem d_m_solve_187 : decode b_m_solve 187 = .ok (.iload_n 3, 1) := by decide +kernel
theorem d_m_solve_188 : decode b_m_solve 188 = .ok (.imul, 1) := by decide +kernel
theorem d_m_solve_189 : decode b_m_solve 189 = .ok (.iload 8, 2) := by decide +kernel
theorem d_m_solve_191 : decode b_m_solve 191 = .ok (.iadd, 1) := by decide +kernel
theorem d_m_solve_192 : decode b_m_solve 192 = .ok (.laload, 1) := by decide +kernel
theorem d_m_solve_193 : decode b_m_solve 193 = .ok (.lload 4, 2) := by decide +kernel
theorem d_m_solve_195 : decode b_m_solve 195 = .ok (.lmul, 1) := by decide +kernel
theorem d_m_solve_196 : decode b_m_solve 196 = .ok (.aload_n 0, 1) := by decide +kernel
theorem d_m_solve_197 : decode b_m_solve 197 = .ok (.getfield 169, 3) := by decide +kernel
theorem d_m_solve_200 : decode b_m_solve 200 = .ok (.bipush 8, 2) := by decide +kernel
theorem d_m_solve_202 : decode b_m_solve 202 = .ok (.iload_n 1, 1) := by decide +kernel
theorem d_m_solve_203 : decode b_m_solve 203 = .ok (.imul, 1) := by decide +kernel
theorem d_m_solve_204 : decode b_m_solve 204 = .ok (.iload 8, 2) := by decide +kernel
theorem d_m_solve_206 : decode b_m_solve 206 = .ok (.iadd, 1) := by decide +kernel
theorem d_m_solve_207 : decode b_m_solve 207 = .ok (.laload, 1) := by decide +kernel
theorem d_m_solve_208 : decode b_m_solve 208 = .ok (.lload 6, 2) := by decide +kernel
theorem d_m_solve_210 : decode b_m_solve 210 = .ok (.lmul, 1) := by decide +kernel
theorem d_m_solve_211 : decode b_m_solve 211 = .ok (.lsub, 1) := by decide +kernel
theorem d_m_solve_212 : decode b_m_solve 212 = .ok (.lastore, 1) := by decide +kernel
theorem d_m_solve_213 : decode b_m_solve 213 = .ok (.iinc 8 1, 3) := by decide +kernel
theorem d_m_solve_216 : decode b_m_solve 216 = .ok (.goto (-55), 3) := by decide +kernel
theorem d_m_solve_219 : decode b_m_solve 219 = .ok (.aload_n 0, 1) := by decide +kernel
theorem d_m_solve_220 : decode b_m_solve 220 = .ok (.iload_n 3, 1) := by decide +kernel
theorem d_m_solve_221 : decode b_m_solve 221 = .ok (.invokevirtual 374, 3) := by decide +kernel
theorem d_m_solve_224 : decode b_m_solve 224 = .ok (.iinc 3 1, 3) := by decide +kernel
theorem d_m_solve_227 : decode b_m_solve 227 = .ok (.goto (-127), 3) := by decide +kernel
theorem d_m_solve_230 : decode b_m_solve 230 = .ok (.iinc 1 1, 3) := by decide +kernel
theorem d_m_solve_233 : decode b_m_solve 233 = .ok (.goto (-231), 3) := by decide +kernel
theorem d_m_solve_236 : decode b_m_solve 236 = .ok (.return_, 1) := by decide +kernel
abbrev b_m_worth : ByteArray := prog_14_method_59_code
abbrev y_m_worth : MethodName := ⟨"WhoRulesModel", "worth", "(III)J"⟩
theorem d_m_worth_0 : decode b_m_worth 0 = .ok (.aload_n 0, 1) := by decide +kernel
theorem d_m_worth_1 : decode b_m_worth 1 = .ok (.iload_n 1, 1) := by decide +kernel
theorem d_m_worth_2 : decode b_m_worth 2 = .ok (.invokevirtual 254, 3) := by decide +kernel
theorem d_m_worth_5 : decode b_m_worth 5 = .ok (.ifCond .eq 31, 3) := by decide +kernel
theorem d_m_worth_8 : decode b_m_worth 8 = .ok (.aload_n 0, 1) := by decide +kernel
theorem d_m_worth_9 : decode b_m_worth 9 = .ok (.iload_n 2, 1) := by decide +kernel
theorem d_m_worth_10 : decode b_m_worth 10 = .ok (.invokevirtual 250, 3) := by decide +kernel
theorem d_m_worth_13 : decode b_m_worth 13 = .ok (.ifCond .eq 23, 3) := by decide +kernel
theorem d_m_worth_16 : decode b_m_worth 16 = .ok (.aload_n 0, 1) := by decide +kernel
theorem d_m_worth_17 : decode b_m_worth 17 = .ok (.getfield 25, 3) := by decide +kernel
theorem d_m_worth_20 : decode b_m_worth 20 = .ok (.iload_n 2, 1) := by decide +kernel
theorem d_m_worth_21 : decode b_m_worth 21 = .ok (.iaload, 1) := by decide +kernel
theorem d_m_worth_22 : decode b_m_worth 22 = .ok (.iconst 1, 1) := by decide +kernel
theorem d_m_worth_23 : decode b_m_worth 23 = .ok (.if_icmp .eq 13, 3) := by decide +kernel
theorem d_m_worth_26 : decode b_m_worth 26 = .ok (.aload_n 0, 1) := by decide +kernel
theorem d_m_worth_27 : decode b_m_worth 27 = .ok (.iload_n 3, 1) := by decide +kernel
theorem d_m_worth_28 : decode b_m_worth 28 = .ok (.iconst 0, 1) := by decide +kernel
theorem d_m_worth_29 : decode b_m_worth 29 = .ok (.iconst 1, 1) := by decide +kernel
theorem d_m_worth_30 : decode b_m_worth 30 = .ok (.invokevirtual 246, 3) := by decide +kernel
theorem d_m_worth_33 : decode b_m_worth 33 = .ok (.ifCond .ne 7, 3) := by decide +kernel
theorem d_m_worth_36 : decode b_m_worth 36 = .ok (.ldc2_w 377, 3) := by decide +kernel
theorem d_m_worth_39 : decode b_m_worth 39 = .ok (.lreturn, 1) := by decide +kernel
theorem d_m_worth_40 : decode b_m_worth 40 = .ok (.aload_n 0, 1) := by decide +kernel
theorem d_m_worth_41 : decode b_m_worth 41 = .ok (.aload_n 0, 1) := by decide +kernel
theorem d_m_worth_42 : decode b_m_worth 42 = .ok (.getfield 7, 3) := by decide +kernel
theorem d_m_worth_45 : decode b_m_worth 45 = .ok (.invokevirtual 322, 3) := by decide +kernel
theorem d_m_worth_48 : decode b_m_worth 48 = .ok (.aload_n 0, 1) := by decide +kernel
theorem d_m_worth_49 : decode b_m_worth 49 = .ok (.invokevirtual 379, 3) := by decide +kernel
theorem d_m_worth_52 : decode b_m_worth 52 = .ok (.aload_n 0, 1) := by decide +kernel
theorem d_m_worth_53 : decode b_m_worth 53 = .ok (.getfield 176, 3) := by decide +kernel
theorem d_m_worth_56 : decode b_m_worth 56 = .ok (.iload_n 1, 1) := by decide +kernel
theorem d_m_worth_57 : decode b_m_worth 57 = .ok (.iaload, 1) := by decide +kernel
theorem d_m_worth_58 : decode b_m_worth 58 = .ok (.ifCond .ne 6, 3) := by decide +kernel
theorem d_m_worth_61 : decode b_m_worth 61 = .ok (.iload_n 3, 1) := by decide +kernel
theorem d_m_worth_62 : decode b_m_worth 62 = .ok (.i2l, 1) := by decide +kernel
theorem d_m_worth_63 : decode b_m_worth 63 = .ok (.lreturn, 1) := by decide +kernel
theorem d_m_worth_64 : decode b_m_worth 64 = .ok (.aload_n 0, 1) := by decide +kernel
theorem d_m_worth_65 : decode b_m_worth 65 = .ok (.iload_n 2, 1) := by decide +kernel
theorem d_m_worth_66 : decode b_m_worth 66 = .ok (.invokevirtual 382, 3) := by decide +kernel
theorem d_m_worth_69 : decode b_m_worth 69 = .ok (.aload_n 0, 1) := by decide +kernel
theorem d_m_worth_70 : decode b_m_worth 70 = .ok (.invokevirtual 385, 3) := by decide +kernel
theorem d_m_worth_73 : decode b_m_worth 73 = .ok (.aload_n 0, 1) := by decide +kernel
theorem d_m_worth_74 : decode b_m_worth 74 = .ok (.iload_n 1, 1) := by decide +kernel
theorem d_m_worth_75 : decode b_m_worth 75 = .ok (.invokevirtual 371, 3) := by decide +kernel
theorem d_m_worth_78 : decode b_m_worth 78 = .ok (.istore 4, 2) := by decide +kernel
theorem d_m_worth_80 : decode b_m_worth 80 = .ok (.aload_n 0, 1) := by decide +kernel
theorem d_m_worth_81 : decode b_m_worth 81 = .ok (.getfield 169, 3) := by decide +kernel
theorem d_m_worth_84 : decode b_m_worth 84 = .ok (.bipush 8, 2) := by decide +kernel
theorem d_m_worth_86 : decode b_m_worth 86 = .ok (.iload 4, 2) := by decide +kernel
theorem d_m_worth_88 : decode b_m_worth 88 = .ok (.imul, 1) := by decide +kernel
theorem d_m_worth_89 : decode b_m_worth 89 = .ok (.aload_n 0, 1) := by decide +kernel
theorem d_m_worth_90 : decode b_m_worth 90 = .ok (.getfield 179, 3) := by decide +kernel
theorem d_m_worth_93 : decode b_m_worth 93 = .ok (.iadd, 1) := by decide +kernel
theorem d_m_worth_94 : decode b_m_worth 94 = .ok (.laload, 1) := by decide +kernel
theorem d_m_worth_95 : decode b_m_worth 95 = .ok (.lstore 5, 2) := by decide +kernel
theorem d_m_worth_97 : decode b_m_worth 97 = .ok (.aload_n 0, 1) := by decide +kernel
theorem d_m_worth_98 : decode b_m_worth 98 = .ok (.getfield 169, 3) := by decide +kernel
theorem d_m_worth_101 : decode b_m_worth 101 = .ok (.bipush 8, 2) := by decide +kernel
theorem d_m_worth_103 : decode b_m_worth 103 = .ok (.iload 4, 2) := by decide +kernel
theorem d_m_worth_105 : decode b_m_worth 105 = .ok (.imul, 1) := by decide +kernel
theorem d_m_worth_106 : decode b_m_worth 106 = .ok (.iload 4, 2) := by decide +kernel
theorem d_m_worth_108 : decode b_m_worth 108 = .ok (.iadd, 1) := by decide +kernel
theorem d_m_worth_109 : decode b_m_worth 109 = .ok (.laload, 1) := by decide +kernel
theorem d_m_worth_110 : decode b_m_worth 110 = .ok (.lstore 7, 2) := by decide +kernel
theorem d_m_worth_112 : decode b_m_worth 112 = .ok (.aload_n 0, 1) := by decide +kernel
theorem d_m_worth_113 : decode b_m_worth 113 = .ok (.lload 5, 2) := by decide +kernel
theorem d_m_worth_115 : decode b_m_worth 115 = .ok (.lload 7, 2) := by decide +kernel
theorem d_m_worth_117 : decode b_m_worth 117 = .ok (.invokevirtual 365, 3) := by decide +kernel
theorem d_m_worth_120 : decode b_m_worth 120 = .ok (.lstore 9, 2) := by decide +kernel
theorem d_m_worth_122 : decode b_m_worth 122 = .ok (.lload 7, 2) := by decide +kernel
theorem d_m_worth_124 : decode b_m_worth 124 = .ok (.lconst 0, 1) := by decide +kernel
theorem d_m_worth_125 : decode b_m_worth 125 = .ok (.lcmp, 1) := by decide +kernel
theorem d_m_worth_126 : decode b_m_worth 126 = .ok (.ifCond .ge 8, 3) := by decide +kernel
theorem d_m_worth_129 : decode b_m_worth 129 = .ok (.lload 9, 2) := by decide +kernel
theorem d_m_worth_131 : decode b_m_worth 131 = .ok (.lneg, 1) := by decide +kernel
theorem d_m_worth_132 : decode b_m_worth 132 = .ok (.lstore 9, 2) := by decide +kernel
theorem d_m_worth_134 : decode b_m_worth 134 = .ok (.iload_n 3, 1) := by decide +kernel
theorem d_m_worth_135 : decode b_m_worth 135 = .ok (.ifCond .ne 11, 3) := by decide +kernel
theorem d_m_worth_138 : decode b_m_worth 138 = .ok (.lload 5, 2) := by decide +kernel
theorem d_m_worth_140 : decode b_m_worth 140 = .ok (.lload 9, 2) := by decide +kernel
theorem d_m_worth_142 : decode b_m_worth 142 = .ok (.ldiv, 1) := by decide +kernel
theorem d_m_worth_143 : decode b_m_worth 143 = .ok (.goto 8, 3) := by decide +kernel
theorem d_m_worth_146 : decode b_m_worth 146 = .ok (.lload 7, 2) := by decide +kernel
theorem d_m_worth_148 : decode b_m_worth 148 = .ok (.lload 9, 2) := by decide +kernel
theorem d_m_worth_150 : decode b_m_worth 150 = .ok (.ldiv, 1) := by decide +kernel
theorem d_m_worth_151 : decode b_m_worth 151 = .ok (.lreturn, 1) := by decide +kernel
abbrev b_m_hollow : ByteArray := prog_14_method_60_code
abbrev y_m_hollow : MethodName := ⟨"WhoRulesModel", "hollow", "(I)I"⟩
theorem d_m_hollow_0 : decode b_m_hollow 0 = .ok (.aload_n 0, 1) := by decide +kernel
theorem d_m_hollow_1 : decode b_m_hollow 1 = .ok (.iload_n 1, 1) := by decide +kernel
theorem d_m_hollow_2 : decode b_m_hollow 2 = .ok (.invokevirtual 254, 3) := by decide +kernel
theorem d_m_hollow_5 : decode b_m_hollow 5 = .ok (.ifCond .ne 5, 3) := by decide +kernel
theorem d_m_hollow_8 : decode b_m_hollow 8 = .ok (.iconst (-1), 1) := by decide +kernel
theorem d_m_hollow_9 : decode b_m_hollow 9 = .ok (.ireturn, 1) := by decide +kernel
theorem d_m_hollow_10 : decode b_m_hollow 10 = .ok (.aload_n 0, 1) := by decide +kernel
theorem d_m_hollow_11 : decode b_m_hollow 11 = .ok (.aload_n 0, 1) := by decide +kernel
theorem d_m_hollow_12 : decode b_m_hollow 12 = .ok (.getfield 7, 3) := by decide +kernel
theorem d_m_hollow_15 : decode b_m_hollow 15 = .ok (.invokevirtual 322, 3) := by decide +kernel
theorem d_m_hollow_18 : decode b_m_hollow 18 = .ok (.aload_n 0, 1) := by decide +kernel
theorem d_m_hollow_19 : decode b_m_hollow 19 = .ok (.invokevirtual 379, 3) := by decide +kernel
theorem d_m_hollow_22 : decode b_m_hollow 22 = .ok (.aload_n 0, 1) := by decide +kernel
theorem d_m_hollow_23 : decode b_m_hollow 23 = .ok (.getfield 176, 3) := by decide +kernel
theorem d_m_hollow_26 : decode b_m_hollow 26 = .ok (.iload_n 1, 1) := by decide +kernel
theorem d_m_hollow_27 : decode b_m_hollow 27 = .ok (.iaload, 1) := by decide +kernel
theorem d_m_hollow_28 : decode b_m_hollow 28 = .ok (.iconst 1, 1) := by decide +kernel
theorem d_m_hollow_29 : decode b_m_hollow 29 = .ok (.if_icmp .ne 7, 3) := by decide +kernel
theorem d_m_hollow_32 : decode b_m_hollow 32 = .ok (.iconst 0, 1) := by decide +kernel
theorem d_m_hollow_33 : decode b_m_hollow 33 = .ok (.goto 4, 3) := by decide +kernel
theorem d_m_hollow_36 : decode b_m_hollow 36 = .ok (.iconst 1, 1) := by decide +kernel
theorem d_m_hollow_37 : decode b_m_hollow 37 = .ok (.ireturn, 1) := by decide +kernel
abbrev b_m_headOf : ByteArray := prog_14_method_61_code
abbrev y_m_headOf : MethodName := ⟨"WhoRulesModel", "headOf", "(I)I"⟩
theorem d_m_headOf_0 : decode b_m_headOf 0 = .ok (.aload_n 0, 1) := by decide +kernel
theorem d_m_headOf_1 : decode b_m_headOf 1 = .ok (.getfield 25, 3) := by decide +kernel
theorem d_m_headOf_4 : decode b_m_headOf 4 = .ok (.iload_n 1, 1) := by decide +kernel
theorem d_m_headOf_5 : decode b_m_headOf 5 = .ok (.iaload, 1) := by decide +kernel
theorem d_m_headOf_6 : decode b_m_headOf 6 = .ok (.iconst 1, 1) := by decide +kernel
theorem d_m_headOf_7 : decode b_m_headOf 7 = .ok (.if_icmp .ne 25, 3) := by decide +kernel
theorem d_m_headOf_10 : decode b_m_headOf 10 = .ok (.aload_n 0, 1) := by decide +kernel
theorem d_m_headOf_11 : decode b_m_headOf 11 = .ok (.getfield 151, 3) := by decide +kernel
theorem d_m_headOf_14 : decode b_m_headOf 14 = .ok (.iload_n 1, 1) := by decide +kernel
theorem d_m_headOf_15 : decode b_m_headOf 15 = .ok (.iaload, 1) := by decide +kernel
theorem d_m_headOf_16 : decode b_m_headOf 16 = .ok (.ifCond .ge 7, 3) := by decide +kernel
theorem d_m_headOf_19 : decode b_m_headOf 19 = .ok (.iload_n 1, 1) := by decide +kernel
theorem d_m_headOf_20 : decode b_m_headOf 20 = .ok (.goto 31, 3) := by decide +kernel
theorem d_m_headOf_23 : decode b_m_headOf 23 = .ok (.aload_n 0, 1) := by decide +kernel
theorem d_m_headOf_24 : decode b_m_headOf 24 = .ok (.getfield 151, 3) := by decide +kernel
theorem d_m_headOf_27 : decode b_m_headOf 27 = .ok (.iload_n 1, 1) := by decide +kernel
theorem d_m_headOf_28 : decode b_m_headOf 28 = .ok (.iaload, 1) := by decide +kernel
theorem d_m_headOf_29 : decode b_m_headOf 29 = .ok (.goto 22, 3) := by decide +kernel
theorem d_m_headOf_32 : decode b_m_headOf 32 = .ok (.aload_n 0, 1) := by decide +kernel
theorem d_m_headOf_33 : decode b_m_headOf 33 = .ok (.getfield 25, 3) := by decide +kernel
theorem d_m_headOf_36 : decode b_m_headOf 36 = .ok (.iload_n 1, 1) := by decide +kernel
theorem d_m_headOf_37 : decode b_m_headOf 37 = .ok (.iaload, 1) := by decide +kernel
theorem d_m_headOf_38 : decode b_m_headOf 38 = .ok (.iconst 3, 1) := by decide +kernel
theorem d_m_headOf_39 : decode b_m_headOf 39 = .ok (.if_icmp .ne 11, 3) := by decide +kernel
theorem d_m_headOf_42 : decode b_m_headOf 42 = .ok (.aload_n 0, 1) := by decide +kernel
theorem d_m_headOf_43 : decode b_m_headOf 43 = .ok (.iload_n 1, 1) := by decide +kernel
theorem d_m_headOf_44 : decode b_m_headOf 44 = .ok (.invokevirtual 334, 3) := by decide +kernel
theorem d_m_headOf_47 : decode b_m_headOf 47 = .ok (.goto 4, 3) := by decide +kernel
theorem d_m_headOf_50 : decode b_m_headOf 50 = .ok (.iload_n 1, 1) := by decide +kernel
theorem d_m_headOf_51 : decode b_m_headOf 51 = .ok (.ireturn, 1) := by decide +kernel
abbrev b_m_pivot : ByteArray := prog_14_method_62_code
abbrev y_m_pivot : MethodName := ⟨"WhoRulesModel", "pivot", "(II)I"⟩
theorem d_m_pivot_0 : decode b_m_pivot 0 = .ok (.aload_n 0, 1) := by decide +kernel
theorem d_m_pivot_1 : decode b_m_pivot 1 = .ok (.iload_n 1, 1) := by decide +kernel
theorem d_m_pivot_2 : decode b_m_pivot 2 = .ok (.invokevirtual 254, 3) := by decide +kernel
theorem d_m_pivot_5 : decode b_m_pivot 5 = .ok (.ifCond .eq 11, 3) := by decide +kernel
theorem d_m_pivot_8 : decode b_m_pivot 8 = .ok (.aload_n 0, 1) := by decide +kernel
theorem d_m_pivot_9 : decode b_m_pivot 9 = .ok (.iload_n 2, 1) := by decide +kernel
theorem d_m_pivot_10 : decode b_m_pivot 10 = .ok (.invokevirtual 250, 3) := by decide +kernel
theorem d_m_pivot_13 : decode b_m_pivot 13 = .ok (.ifCond .ne 5, 3) := by decide +kernel
theorem d_m_pivot_16 : decode b_m_pivot 16 = .ok (.iconst (-1), 1) := by decide +kernel
theorem d_m_pivot_17 : decode b_m_pivot 17 = .ok (.ireturn, 1) := by decide +kernel
theorem d_m_pivot_18 : decode b_m_pivot 18 = .ok (.aload_n 0, 1) := by decide +kernel
theorem d_m_pivot_19 : decode b_m_pivot 19 = .ok (.aload_n 0, 1) := by decide +kernel
theorem d_m_pivot_20 : decode b_m_pivot 20 = .ok (.getfield 7, 3) := by decide +kernel
theorem d_m_pivot_23 : decode b_m_pivot 23 = .ok (.invokevirtual 350, 3) := by decide +kernel
theorem d_m_pivot_26 : decode b_m_pivot 26 = .ok (.iconst 0, 1) := by decide +kernel
theorem d_m_pivot_27 : decode b_m_pivot 27 = .ok (.istore_n 3, 1) := by decide +kernel
theorem d_m_pivot_28 : decode b_m_pivot 28 = .ok (.iload_n 3, 1) := by decide +kernel
theorem d_m_pivot_29 : decode b_m_pivot 29 = .ok (.bipush 16, 2) := by decide +kernel
theorem d_m_pivot_31 : decode b_m_pivot 31 = .ok (.if_icmp .ge 16, 3) := by decide +kernel
theorem d_m_pivot_34 : decode b_m_pivot 34 = .ok (.aload_n 0, 1) := by decide +kernel
theorem d_m_pivot_35 : decode b_m_pivot 35 = .ok (.getfield 182, 3) := by decide +kernel
theorem d_m_pivot_38 : decode b_m_pivot 38 = .ok (.iload_n 3, 1) := by decide +kernel
theorem d_m_pivot_39 : decode b_m_pivot 39 = .ok (.iconst 0, 1) := by decide +kernel
theorem d_m_pivot_40 : decode b_m_pivot 40 = .ok (.iastore, 1) := by decide +kernel
theorem d_m_pivot_41 : decode b_m_pivot 41 = .ok (.iinc 3 1, 3) := by decide +kernel
theorem d_m_pivot_44 : decode b_m_pivot 44 = .ok (.goto (-16), 3) := by decide +kernel
theorem d_m_pivot_47 : decode b_m_pivot 47 = .ok (.iconst 0, 1) := by decide +kernel
theorem d_m_pivot_48 : decode b_m_pivot 48 = .ok (.istore_n 3, 1) := by decide +kernel
theorem d_m_pivot_49 : decode b_m_pivot 49 = .ok (.iload_n 3, 1) := by decide +kernel
theorem d_m_pivot_50 : decode b_m_pivot 50 = .ok (.aload_n 0, 1) := by decide +kernel
theorem d_m_pivot_51 : decode b_m_pivot 51 = .ok (.getfield 13, 3) := by decide +kernel
theorem d_m_pivot_54 : decode b_m_pivot 54 = .ok (.if_icmp .ge 49, 3) := by decide +kernel
theorem d_m_pivot_57 : decode b_m_pivot 57 = .ok (.aload_n 0, 1) := by decide +kernel
theorem d_m_pivot_58 : decode b_m_pivot 58 = .ok (.getfield 136, 3) := by decide +kernel
theorem d_m_pivot_61 : decode b_m_pivot 61 = .ok (.bipush 16, 2) := by decide +kernel
theorem d_m_pivot_63 : decode b_m_pivot 63 = .ok (.iload_n 1, 1) := by decide +kernel
theorem d_m_pivot_64 : decode b_m_pivot 64 = .ok (.imul, 1) := by decide +kernel
theorem d_m_pivot_65 : decode b_m_pivot 65 = .ok (.iload_n 3, 1) := by decide +kernel
theorem d_m_pivot_66 : decode b_m_pivot 66 = .ok (.iadd, 1) := by decide +kernel
theorem d_m_pivot_67 : decode b_m_pivot 67 = .ok (.iaload, 1) := by decide +kernel
theorem d_m_pivot_68 : decode b_m_pivot 68 = .ok (.ifCond .gt 13, 3) := by decide +kernel
theorem d_m_pivot_71 : decode b_m_pivot 71 = .ok (.aload_n 0, 1) := by decide +kernel
theorem d_m_pivot_72 : decode b_m_pivot 72 = .ok (.getfield 148, 3) := by decide +kernel
theorem d_m_pivot_75 : decode b_m_pivot 75 = .ok (.iload_n 1, 1) := by decide +kernel
theorem d_m_pivot_76 : decode b_m_pivot 76 = .ok (.iaload, 1) := by decide +kernel
theorem d_m_pivot_77 : decode b_m_pivot 77 = .ok (.iload_n 3, 1) := by decide +kernel
theorem d_m_pivot_78 : decode b_m_pivot 78 = .ok (.if_icmp .ne 19, 3) := by decide +kernel
theorem d_m_pivot_81 : decode b_m_pivot 81 = .ok (.aload_n 0, 1) := by decide +kernel
theorem d_m_pivot_82 : decode b_m_pivot 82 = .ok (.getfield 182, 3) := by decide +kernel
theorem d_m_pivot_85 : decode b_m_pivot 85 = .ok (.aload_n 0, 1) := by decide +kernel
theorem d_m_pivot_86 : decode b_m_pivot 86 = .ok (.iload_n 3, 1) := by decide +kernel
theorem d_m_pivot_87 : decode b_m_pivot 87 = .ok (.invokevirtual 388, 3) := by decide +kernel
theorem d_m_pivot_90 : decode b_m_pivot 90 = .ok (.dup2, 1) := by decide +kernel
theorem d_m_pivot_91 : decode b_m_pivot 91 = .ok (.iaload, 1) := by decide +kernel
theorem d_m_pivot_92 : decode b_m_pivot 92 = .ok (.iconst 1, 1) := by decide +kernel
theorem d_m_pivot_93 : decode b_m_pivot 93 = .ok (.iload_n 3, 1) := by decide +kernel
theorem d_m_pivot_94 : decode b_m_pivot 94 = .ok (.ishl, 1) := by decide +kernel
theorem d_m_pivot_95 : decode b_m_pivot 95 = .ok (.ior, 1) := by decide +kernel
theorem d_m_pivot_96 : decode b_m_pivot 96 = .ok (.iastore, 1) := by decide +kernel
theorem d_m_pivot_97 : decode b_m_pivot 97 = .ok (.iinc 3 1, 3) := by decide +kernel
theorem d_m_pivot_100 : decode b_m_pivot 100 = .ok (.goto (-51), 3) := by decide +kernel
theorem d_m_pivot_103 : decode b_m_pivot 103 = .ok (.aload_n 0, 1) := by decide +kernel
theorem d_m_pivot_104 : decode b_m_pivot 104 = .ok (.getfield 182, 3) := by decide +kernel
theorem d_m_pivot_107 : decode b_m_pivot 107 = .ok (.aload_n 0, 1) := by decide +kernel
theorem d_m_pivot_108 : decode b_m_pivot 108 = .ok (.iload_n 2, 1) := by decide +kernel
theorem d_m_pivot_109 : decode b_m_pivot 109 = .ok (.invokevirtual 388, 3) := by decide +kernel
theorem d_m_pivot_112 : decode b_m_pivot 112 = .ok (.iaload, 1) := by decide +kernel
theorem d_m_pivot_113 : decode b_m_pivot 113 = .ok (.istore_n 3, 1) := by decide +kernel
theorem d_m_pivot_114 : decode b_m_pivot 114 = .ok (.iload_n 3, 1) := by decide +kernel
theorem d_m_pivot_115 : decode b_m_pivot 115 = .ok (.ifCond .ne 5, 3) := by decide +kernel
theorem d_m_pivot_118 : decode b_m_pivot 118 = .ok (.iconst 0, 1) := by decide +kernel
theorem d_m_pivot_119 : decode b_m_pivot 119 = .ok (.ireturn, 1) := by decide +kernel
theorem d_m_pivot_120 : decode b_m_pivot 120 = .ok (.iconst 0, 1) := by decide +kernel
theorem d_m_pivot_121 : decode b_m_pivot 121 = .ok (.istore 4, 2) := by decide +kernel
theorem d_m_pivot_123 : decode b_m_pivot 123 = .ok (.iconst 0, 1) := by decide +kernel
theorem d_m_pivot_124 : decode b_m_pivot 124 = .ok (.istore 5, 2) := by decide +kernel
theorem d_m_pivot_126 : decode b_m_pivot 126 = .ok (.iload 5, 2) := by decide +kernel
theorem d_m_pivot_128 : decode b_m_pivot 128 = .ok (.aload_n 0, 1) := by decide +kernel
theorem d_m_pivot_129 : decode b_m_pivot 129 = .ok (.getfield 13, 3) := by decide +kernel
theorem d_m_pivot_132 : decode b_m_pivot 132 = .ok (.if_icmp .ge 49, 3) := by decide +kernel
theorem d_m_pivot_135 : decode b_m_pivot 135 = .ok (.aload_n 0, 1) := by decide +kernel
theorem d_m_pivot_136 : decode b_m_pivot 136 = .ok (.getfield 182, 3) := by decide +kernel
theorem d_m_pivot_139 : decode b_m_pivot 139 = .ok (.iload 5, 2) := by decide +kernel
theorem d_m_pivot_141 : decode b_m_pivot 141 = .ok (.iaload, 1) := by decide +kernel
theorem d_m_pivot_142 : decode b_m_pivot 142 = .ok (.ifCond .eq 33, 3) := by decide +kernel
theorem d_m_pivot_145 : decode b_m_pivot 145 = .ok (.iload 5, 2) := by decide +kernel
theorem d_m_pivot_147 : decode b_m_pivot 147 = .ok (.aload_n 0, 1) := by decide +kernel
theorem d_m_pivot_148 : decode b_m_pivot 148 = .ok (.iload_n 2, 1) := by decide +kernel
theorem d_m_pivot_149 : decode b_m_pivot 149 = .ok (.invokevirtual 388, 3) := by decide +kernel
theorem d_m_pivot_152 : decode b_m_pivot 152 = .ok (.if_icmp .ne 6, 3) := by decide +kernel
theorem d_m_pivot_155 : decode b_m_pivot 155 = .ok (.goto 20, 3) := by decide +kernel
theorem d_m_pivot_158 : decode b_m_pivot 158 = .ok (.aload_n 0, 1) := by decide +kernel
theorem d_m_pivot_159 : decode b_m_pivot 159 = .ok (.getfield 185, 3) := by decide +kernel
theorem d_m_pivot_162 : decode b_m_pivot 162 = .ok (.iload 4, 2) := by decide +kernel
theorem d_m_pivot_164 : decode b_m_pivot 164 = .ok (.aload_n 0, 1) := by decide +kernel
theorem d_m_pivot_165 : decode b_m_pivot 165 = .ok (.getfield 182, 3) := by decide +kernel
theorem d_m_pivot_168 : decode b_m_pivot 168 = .ok (.iload 5, 2) := by decide +kernel
theorem d_m_pivot_170 : decode b_m_pivot 170 = .ok (.iaload, 1) := by decide +kernel
theorem d_m_pivot_171 : decode b_m_pivot 171 = .ok (.iastore, 1) := by decide +kernel
theorem d_m_pivot_172 : decode b_m_pivot 172 = .ok (.iinc 4 1, 3) := by decide +kernel
theorem d_m_pivot_175 : decode b_m_pivot 175 = .ok (.iinc 5 1, 3) := by decide +kernel
theorem d_m_pivot_178 : decode b_m_pivot 178 = .ok (.goto (-52), 3) := by decide +kernel
theorem d_m_pivot_181 : decode b_m_pivot 181 = .ok (.iconst 0, 1) := by decide +kernel
theorem d_m_pivot_182 : decode b_m_pivot 182 = .ok (.istore 5, 2) := by decide +kernel
theorem d_m_pivot_184 : decode b_m_pivot 184 = .ok (.iconst 0, 1) := by decide +kernel
theorem d_m_pivot_185 : decode b_m_pivot 185 = .ok (.istore 6, 2) := by decide +kernel
theorem d_m_pivot_187 : decode b_m_pivot 187 = .ok (.iload 6, 2) := by decide +kernel
theorem d_m_pivot_189 : decode b_m_pivot 189 = .ok (.iconst 1, 1) := by decide +kernel
theorem d_m_pivot_190 : decode b_m_pivot 190 = .ok (.iload 4, 2) := by decide +kernel
theorem d_m_pivot_192 : decode b_m_pivot 192 = .ok (.ishl, 1) := by decide +kernel
theorem d_m_pivot_193 : decode b_m_pivot 193 = .ok (.if_icmp .ge 87, 3) := by decide +kernel
theorem d_m_pivot_196 : decode b_m_pivot 196 = .ok (.iconst 0, 1) := by decide +kernel
theorem d_m_pivot_197 : decode b_m_pivot 197 = .ok (.istore 7, 2) := by decide +kernel
theorem d_m_pivot_199 : decode b_m_pivot 199 = .ok (.iconst 0, 1) := by decide +kernel
theorem d_m_pivot_200 : decode b_m_pivot 200 = .ok (.istore 8, 2) := by decide +kernel
theorem d_m_pivot_202 : decode b_m_pivot 202 = .ok (.iload 8, 2) := by decide +kernel
theorem d_m_pivot_204 : decode b_m_pivot 204 = .ok (.iload 4, 2) := by decide +kernel
theorem d_m_pivot_206 : decode b_m_pivot 206 = .ok (.if_icmp .ge 36, 3) := by decide +kernel
theorem d_m_pivot_209 : decode b_m_pivot 209 = .ok (.iload 7, 2) := by decide +kernel
theorem d_m_pivot_211 : decode b_m_pivot 211 = .ok (.iload 6, 2) := by decide +kernel
theorem d_m_pivot_213 : decode b_m_pivot 213 = .ok (.iload 8, 2) := by decide +kernel
theorem d_m_pivot_215 : decode b_m_pivot 215 = .ok (.ishr, 1) := by decide +kernel
theorem d_m_pivot_216 : decode b_m_pivot 216 = .ok (.iconst 1, 1) := by decide +kernel
theorem d_m_pivot_217 : decode b_m_pivot 217 = .ok (.iand, 1) := by decide +kernel
theorem d_m_pivot_218 : decode b_m_pivot 218 = .ok (.iconst 1, 1) := by decide +kernel
theorem d_m_pivot_219 : decode b_m_pivot 219 = .ok (.if_icmp .ne 13, 3) := by decide +kernel
theorem d_m_pivot_222 : decode b_m_pivot 222 = .ok (.aload_n 0, 1) := by decide +kernel
theorem d_m_pivot_223 : decode b_m_pivot 223 = .ok (.getfield 185, 3) := by decide +kernel
theorem d_m_pivot_226 : decode b_m_pivot 226 = .ok (.iload 8, 2) := by decide +kernel
theorem d_m_pivot_228 : decode b_m_pivot 228 = .ok (.iaload, 1) := by decide +kernel
theorem d_m_pivot_229 : decode b_m_pivot 229 = .ok (.goto 4, 3) := by decide +kernel
theorem d_m_pivot_232 : decode b_m_pivot 232 = .ok (.iconst 0, 1) := by decide +kernel
theorem d_m_pivot_233 : decode b_m_pivot 233 = .ok (.ior, 1) := by decide +kernel
theorem d_m_pivot_234 : decode b_m_pivot 234 = .ok (.istore 7, 2) := by decide +kernel
theorem d_m_pivot_236 : decode b_m_pivot 236 = .ok (.iinc 8 1, 3) := by decide +kernel
theorem d_m_pivot_239 : decode b_m_pivot 239 = .ok (.goto (-37), 3) := by decide +kernel
theorem d_m_pivot_242 : decode b_m_pivot 242 = .ok (.iload 5, 2) := by decide +kernel
theorem d_m_pivot_244 : decode b_m_pivot 244 = .ok (.aload_n 0, 1) := by decide +kernel
theorem d_m_pivot_245 : decode b_m_pivot 245 = .ok (.iload_n 1, 1) := by decide +kernel
theorem d_m_pivot_246 : decode b_m_pivot 246 = .ok (.iload 7, 2) := by decide +kernel
theorem d_m_pivot_248 : decode b_m_pivot 248 = .ok (.iload_n 3, 1) := by decide +kernel
theorem d_m_pivot_249 : decode b_m_pivot 249 = .ok (.ior, 1) := by decide +kernel
theorem d_m_pivot_250 : decode b_m_pivot 250 = .ok (.invokevirtual 331, 3) := by decide +kernel
theorem d_m_pivot_253 : decode b_m_pivot 253 = .ok (.ifCond .eq 17, 3) := by decide +kernel
theorem d_m_pivot_256 : decode b_m_pivot 256 = .ok (.aload_n 0, 1) := by decide +kernel
theorem d_m_pivot_257 : decode b_m_pivot 257 = .ok (.iload_n 1, 1) := by decide +kernel
theorem d_m_pivot_258 : decode b_m_pivot 258 = .ok (.iload 7, 2) := by decide +kernel
theorem d_m_pivot_260 : decode b_m_pivot 260 = .ok (.invokevirtual 331, 3) := by decide +kernel
theorem d_m_pivot_263 : decode b_m_pivot 263 = .ok (.ifCond .ne 7, 3) := by decide +kernel
theorem d_m_pivot_266 : decode b_m_pivot 266 = .ok (.iconst 1, 1) := by decide +kernel
theorem d_m_pivot_267 : decode b_m_pivot 267 = .ok (.goto 4, 3) := by decide +kernel
theorem d_m_pivot_270 : decode b_m_pivot 270 = .ok (.iconst 0, 1) := by decide +kernel
theorem d_m_pivot_271 : decode b_m_pivot 271 = .ok (.iadd, 1) := by decide +kernel
theorem d_m_pivot_272 : decode b_m_pivot 272 = .ok (.istore 5, 2) := by decide +kernel
theorem d_m_pivot_274 : decode b_m_pivot 274 = .ok (.iinc 6 1, 3) := by decide +kernel
theorem d_m_pivot_277 : decode b_m_pivot 277 = .ok (.goto (-90), 3) := by decide +kernel
theorem d_m_pivot_280 : decode b_m_pivot 280 = .ok (.iload 5, 2) := by decide +kernel
theorem d_m_pivot_282 : decode b_m_pivot 282 = .ok (.ireturn, 1) := by decide +kernel
abbrev b_m_good : ByteArray := prog_14_method_63_code
abbrev y_m_good : MethodName := ⟨"WhoRulesModel", "good", "(I)V"⟩
theorem d_m_good_0 : decode b_m_good 0 = .ok (.aload_n 0, 1) := by decide +kernel
theorem d_m_good_1 : decode b_m_good 1 = .ok (.getfield 194, 3) := by decide +kernel
theorem d_m_good_4 : decode b_m_good 4 = .ok (.bipush 8, 2) := by decide +kernel
theorem d_m_good_6 : decode b_m_good 6 = .ok (.if_icmp .ne 4, 3) := by decide +kernel
theorem d_m_good_9 : decode b_m_good 9 = .ok (.return_, 1) := by decide +kernel
theorem d_m_good_10 : decode b_m_good 10 = .ok (.aload_n 0, 1) := by decide +kernel
theorem d_m_good_11 : decode b_m_good 11 = .ok (.getfield 188, 3) := by decide +kernel
theorem d_m_good_14 : decode b_m_good 14 = .ok (.aload_n 0, 1) := by decide +kernel
theorem d_m_good_15 : decode b_m_good 15 = .ok (.getfield 194, 3) := by decide +kernel
theorem d_m_good_18 : decode b_m_good 18 = .ok (.iload_n 1, 1) := by decide +kernel
theorem d_m_good_19 : decode b_m_good 19 = .ok (.iastore, 1) := by decide +kernel
theorem d_m_good_20 : decode b_m_good 20 = .ok (.aload_n 0, 1) := by decide +kernel
theorem d_m_good_21 : decode b_m_good 21 = .ok (.dup, 1) := by decide +kernel
theorem d_m_good_22 : decode b_m_good 22 = .ok (.getfield 194, 3) := by decide +kernel
theorem d_m_good_25 : decode b_m_good 25 = .ok (.iconst 1, 1) := by decide +kernel
theorem d_m_good_26 : decode b_m_good 26 = .ok (.iadd, 1) := by decide +kernel
theorem d_m_good_27 : decode b_m_good 27 = .ok (.putfield 194, 3) := by decide +kernel
theorem d_m_good_30 : decode b_m_good 30 = .ok (.return_, 1) := by decide +kernel
abbrev b_m_bitsOf : ByteArray := prog_14_method_64_code
abbrev y_m_bitsOf : MethodName := ⟨"WhoRulesModel", "bitsOf", "(I)J"⟩
theorem d_m_bitsOf_0 : decode b_m_bitsOf 0 = .ok (.lconst 0, 1) := by decide +kernel
theorem d_m_bitsOf_1 : decode b_m_bitsOf 1 = .ok (.lstore_n 2, 1) := by decide +kernel
theorem d_m_bitsOf_2 : decode b_m_bitsOf 2 = .ok (.iconst 0, 1) := by decide +kernel
theorem d_m_bitsOf_3 : decode b_m_bitsOf 3 = .ok (.istore 4, 2) := by decide +kernel
theorem d_m_bitsOf_5 : decode b_m_bitsOf 5 = .ok (.iload 4, 2) := by decide +kernel
theorem d_m_bitsOf_7 : decode b_m_bitsOf 7 = .ok (.aload_n 0, 1) := by decide +kernel
theorem d_m_bitsOf_8 : decode b_m_bitsOf 8 = .ok (.getfield 194, 3) := by decide +kernel
theorem d_m_bitsOf_11 : decode b_m_bitsOf 11 = .ok (.if_icmp .ge 35, 3) := by decide +kernel
theorem d_m_bitsOf_14 : decode b_m_bitsOf 14 = .ok (.lload_n 2, 1) := by decide +kernel
theorem d_m_bitsOf_15 : decode b_m_bitsOf 15 = .ok (.iload_n 1, 1) := by decide +kernel
theorem d_m_bitsOf_16 : decode b_m_bitsOf 16 = .ok (.iload 4, 2) := by decide +kernel
theorem d_m_bitsOf_18 : decode b_m_bitsOf 18 = .ok (.ishr, 1) := by decide +kernel
theorem d_m_bitsOf_19 : decode b_m_bitsOf 19 = .ok (.iconst 1, 1) := by decide +kernel
theorem d_m_bitsOf_20 : decode b_m_bitsOf 20 = .ok (.iand, 1) := by decide +kernel
theorem d_m_bitsOf_21 : decode b_m_bitsOf 21 = .ok (.iconst 1, 1) := by decide +kernel
theorem d_m_bitsOf_22 : decode b_m_bitsOf 22 = .ok (.if_icmp .ne 15, 3) := by decide +kernel
theorem d_m_bitsOf_25 : decode b_m_bitsOf 25 = .ok (.lconst 1, 1) := by decide +kernel
theorem d_m_bitsOf_26 : decode b_m_bitsOf 26 = .ok (.aload_n 0, 1) := by decide +kernel
theorem d_m_bitsOf_27 : decode b_m_bitsOf 27 = .ok (.getfield 188, 3) := by decide +kernel
theorem d_m_bitsOf_30 : decode b_m_bitsOf 30 = .ok (.iload 4, 2) := by decide +kernel
theorem d_m_bitsOf_32 : decode b_m_bitsOf 32 = .ok (.iaload, 1) := by decide +kernel
theorem d_m_bitsOf_33 : decode b_m_bitsOf 33 = .ok (.lshl, 1) := by decide +kernel
theorem d_m_bitsOf_34 : decode b_m_bitsOf 34 = .ok (.goto 4, 3) := by decide +kernel
theorem d_m_bitsOf_37 : decode b_m_bitsOf 37 = .ok (.lconst 0, 1) := by decide +kernel
theorem d_m_bitsOf_38 : decode b_m_bitsOf 38 = .ok (.lor, 1) := by decide +kernel
theorem d_m_bitsOf_39 : decode b_m_bitsOf 39 = .ok (.lstore_n 2, 1) := by decide +kernel
theorem d_m_bitsOf_40 : decode b_m_bitsOf 40 = .ok (.iinc 4 1, 3) := by decide +kernel
theorem d_m_bitsOf_43 : decode b_m_bitsOf 43 = .ok (.goto (-38), 3) := by decide +kernel
theorem d_m_bitsOf_46 : decode b_m_bitsOf 46 = .ok (.lload_n 2, 1) := by decide +kernel
theorem d_m_bitsOf_47 : decode b_m_bitsOf 47 = .ok (.lreturn, 1) := by decide +kernel
abbrev b_m_findBought : ByteArray := prog_14_method_65_code
abbrev y_m_findBought : MethodName := ⟨"WhoRulesModel", "findBought", "(II)Z"⟩
theorem d_m_findBought_0 : decode b_m_findBought 0 = .ok (.aload_n 0, 1) := by decide +kernel
theorem d_m_findBought_1 : decode b_m_findBought 1 = .ok (.iconst 0, 1) := by decide +kernel
theorem d_m_findBought_2 : decode b_m_findBought 2 = .ok (.putfield 194, 3) := by decide +kernel
theorem d_m_findBought_5 : decode b_m_findBought 5 = .ok (.aload_n 0, 1) := by decide +kernel
theorem d_m_findBought_6 : decode b_m_findBought 6 = .ok (.aload_n 0, 1) := by decide +kernel
theorem d_m_findBought_7 : decode b_m_findBought 7 = .ok (.getfield 7, 3) := by decide +kernel
theorem d_m_findBought_10 : decode b_m_findBought 10 = .ok (.invokevirtual 322, 3) := by decide +kernel
theorem d_m_findBought_13 : decode b_m_findBought 13 = .ok (.iconst 0, 1) := by decide +kernel
theorem d_m_findBought_14 : decode b_m_findBought 14 = .ok (.istore_n 3, 1) := by decide +kernel
theorem d_m_findBought_15 : decode b_m_findBought 15 = .ok (.iload_n 3, 1) := by decide +kernel
theorem d_m_findBought_16 : decode b_m_findBought 16 = .ok (.aload_n 0, 1) := by decide +kernel
theorem d_m_findBought_17 : decode b_m_findBought 17 = .ok (.getfield 19, 3) := by decide +kernel
theorem d_m_findBought_20 : decode b_m_findBought 20 = .ok (.if_icmp .ge 33, 3) := by decide +kernel
theorem d_m_findBought_23 : decode b_m_findBought 23 = .ok (.aload_n 0, 1) := by decide +kernel
theorem d_m_findBought_24 : decode b_m_findBought 24 = .ok (.getfield 44, 3) := by decide +kernel
theorem d_m_findBought_27 : decode b_m_findBought 27 = .ok (.iload_n 3, 1) := by decide +kernel
theorem d_m_findBought_28 : decode b_m_findBought 28 = .ok (.iaload, 1) := by decide +kernel
theorem d_m_findBought_29 : decode b_m_findBought 29 = .ok (.ifCond .le 18, 3) := by decide +kernel
theorem d_m_findBought_32 : decode b_m_findBought 32 = .ok (.aload_n 0, 1) := by decide +kernel
theorem d_m_findBought_33 : decode b_m_findBought 33 = .ok (.getfield 130, 3) := by decide +kernel
theorem d_m_findBought_36 : decode b_m_findBought 36 = .ok (.iload_n 3, 1) := by decide +kernel
theorem d_m_findBought_37 : decode b_m_findBought 37 = .ok (.iaload, 1) := by decide +kernel
theorem d_m_findBought_38 : decode b_m_findBought 38 = .ok (.iload_n 1, 1) := by decide +kernel
theorem d_m_findBought_39 : decode b_m_findBought 39 = .ok (.if_icmp .eq 8, 3) := by decide +kernel
theorem d_m_findBought_42 : decode b_m_findBought 42 = .ok (.aload_n 0, 1) := by decide +kernel
theorem d_m_findBought_43 : decode b_m_findBought 43 = .ok (.iload_n 3, 1) := by decide +kernel
theorem d_m_findBought_44 : decode b_m_findBought 44 = .ok (.invokevirtual 391, 3) := by decide +kernel
theorem d_m_findBought_47 : decode b_m_findBought 47 = .ok (.iinc 3 1, 3) := by decide +kernel
theorem d_m_findBought_50 : decode b_m_findBought 50 = .ok (.goto (-35), 3) := by decide +kernel
theorem d_m_findBought_53 : decode b_m_findBought 53 = .ok (.iconst 0, 1) := by decide +kernel
theorem d_m_findBought_54 : decode b_m_findBought 54 = .ok (.istore_n 3, 1) := by decide +kernel
theorem d_m_findBought_55 : decode b_m_findBought 55 = .ok (.iconst 0, 1) := by decide +kernel
theorem d_m_findBought_56 : decode b_m_findBought 56 = .ok (.istore 4, 2) := by decide +kernel
theorem d_m_findBought_58 : decode b_m_findBought 58 = .ok (.iconst 0, 1) := by decide +kernel
theorem d_m_findBought_59 : decode b_m_findBought 59 = .ok (.istore 5, 2) := by decide +kernel
theorem d_m_findBought_61 : decode b_m_findBought 61 = .ok (.iload 5, 2) := by decide +kernel
theorem d_m_findBought_63 : decode b_m_findBought 63 = .ok (.iconst 1, 1) := by decide +kernel
theorem d_m_findBought_64 : decode b_m_findBought 64 = .ok (.aload_n 0, 1) := by decide +kernel
theorem d_m_findBought_65 : decode b_m_findBought 65 = .ok (.getfield 194, 3) := by decide +kernel
theorem d_m_findBought_68 : decode b_m_findBought 68 = .ok (.ishl, 1) := by decide +kernel
theorem d_m_findBought_69 : decode b_m_findBought 69 = .ok (.if_icmp .ge 219, 3) := by decide +kernel
theorem d_m_findBought_72 : decode b_m_findBought 72 = .ok (.iconst 0, 1) := by decide +kernel
theorem d_m_findBought_73 : decode b_m_findBought 73 = .ok (.istore 6, 2) := by decide +kernel
theorem d_m_findBought_75 : decode b_m_findBought 75 = .ok (.iconst 0, 1) := by decide +kernel
theorem d_m_findBought_76 : decode b_m_findBought 76 = .ok (.istore 7, 2) := by decide +kernel
theorem d_m_findBought_78 : decode b_m_findBought 78 = .ok (.iload 7, 2) := by decide +kernel
theorem d_m_findBought_80 : decode b_m_findBought 80 = .ok (.aload_n 0, 1) := by decide +kernel
theorem d_m_findBought_81 : decode b_m_findBought 81 = .ok (.getfield 194, 3) := by decide +kernel
theorem d_m_findBought_84 : decode b_m_findBought 84 = .ok (.if_icmp .ge 41, 3) := by decide +kernel
theorem d_m_findBought_87 : decode b_m_findBought 87 = .ok (.iload 6, 2) := by decide +kernel
theorem d_m_findBought_89 : decode b_m_findBought 89 = .ok (.iload 5, 2) := by decide +kernel
theorem d_m_findBought_91 : decode b_m_findBought 91 = .ok (.iload 7, 2) := by decide +kernel
theorem d_m_findBought_93 : decode b_m_findBought 93 = .ok (.ishr, 1) := by decide +kernel
theorem d_m_findBought_94 : decode b_m_findBought 94 = .ok (.iconst 1, 1) := by decide +kernel
theorem d_m_findBought_95 : decode b_m_findBought 95 = .ok (.iand, 1) := by decide +kernel
theorem d_m_findBought_96 : decode b_m_findBought 96 = .ok (.iconst 1, 1) := by decide +kernel
theorem d_m_findBought_97 : decode b_m_findBought 97 = .ok (.if_icmp .ne 18, 3) := by decide +kernel
theorem d_m_findBought_100 : decode b_m_findBought 100 = .ok (.aload_n 0, 1) := by decide +kernel
theorem d_m_findBought_101 : decode b_m_findBought 101 = .ok (.getfield 44, 3) := by decide +kernel
theorem d_m_findBought_104 : decode b_m_findBought 104 = .ok (.aload_n 0, 1) := by decide +kernel
theorem d_m_findBought_105 : decode b_m_findBought 105 = .ok (.getfield 188, 3) := by decide +kernel
theorem d_m_findBought_108 : decode b_m_findBought 108 = .ok (.iload 7, 2) := by decide +kernel
theorem d_m_findBought_110 : decode b_m_findBought 110 = .ok (.iaload, 1) := by decide +kernel
theorem d_m_findBought_111 : decode b_m_findBought 111 = .ok (.iaload, 1) := by decide +kernel
theorem d_m_findBought_112 : decode b_m_findBought 112 = .ok (.goto 4, 3) := by decide +kernel
theorem d_m_findBought_115 : decode b_m_findBought 115 = .ok (.iconst 0, 1) := by decide +kernel
theorem d_m_findBought_116 : decode b_m_findBought 116 = .ok (.iadd, 1) := by decide +kernel
theorem d_m_findBought_117 : decode b_m_findBought 117 = .ok (.istore 6, 2) := by decide +kernel
theorem d_m_findBought_119 : decode b_m_findBought 119 = .ok (.iinc 7 1, 3) := by decide +kernel
theorem d_m_findBought_122 : decode b_m_findBought 122 = .ok (.goto (-44), 3) := by decide +kernel
theorem d_m_findBought_125 : decode b_m_findBought 125 = .ok (.iload_n 3, 1) := by decide +kernel
theorem d_m_findBought_126 : decode b_m_findBought 126 = .ok (.ifCond .eq 36, 3) := by decide +kernel
theorem d_m_findBought_129 : decode b_m_findBought 129 = .ok (.iload 6, 2) := by decide +kernel
theorem d_m_findBought_131 : decode b_m_findBought 131 = .ok (.aload_n 0, 1) := by decide +kernel
theorem d_m_findBought_132 : decode b_m_findBought 132 = .ok (.getfield 201, 3) := by decide +kernel
theorem d_m_findBought_135 : decode b_m_findBought 135 = .ok (.if_icmp .gt 147, 3) := by decide +kernel
theorem d_m_findBought_138 : decode b_m_findBought 138 = .ok (.iload 6, 2) := by decide +kernel
theorem d_m_findBought_140 : decode b_m_findBought 140 = .ok (.aload_n 0, 1) := by decide +kernel
theorem d_m_findBought_141 : decode b_m_findBought 141 = .ok (.getfield 201, 3) := by decide +kernel
theorem d_m_findBought_144 : decode b_m_findBought 144 = .ok (.if_icmp .ne 18, 3) := by decide +kernel
theorem d_m_findBought_147 : decode b_m_findBought 147 = .ok (.aload_n 0, 1) := by decide +kernel
theorem d_m_findBought_148 : decode b_m_findBought 148 = .ok (.iload 5, 2) := by decide +kernel
theorem d_m_findBought_150 : decode b_m_findBought 150 = .ok (.i2l, 1) := by decide +kernel
theorem d_m_findBought_151 : decode b_m_findBought 151 = .ok (.invokevirtual 394, 3) := by decide +kernel
theorem d_m_findBought_154 : decode b_m_findBought 154 = .ok (.iload 4, 2) := by decide +kernel
theorem d_m_findBought_156 : decode b_m_findBought 156 = .ok (.if_icmp .lt 6, 3) := by decide +kernel
theorem d_m_findBought_159 : decode b_m_findBought 159 = .ok (.goto 123, 3) := by decide +kernel
theorem d_m_findBought_162 : decode b_m_findBought 162 = .ok (.aload_n 0, 1) := by decide +kernel
theorem d_m_findBought_163 : decode b_m_findBought 163 = .ok (.aload_n 0, 1) := by decide +kernel
theorem d_m_findBought_164 : decode b_m_findBought 164 = .ok (.getfield 7, 3) := by decide +kernel
theorem d_m_findBought_167 : decode b_m_findBought 167 = .ok (.invokevirtual 322, 3) := by decide +kernel
theorem d_m_findBought_170 : decode b_m_findBought 170 = .ok (.iconst 0, 1) := by decide +kernel
theorem d_m_findBought_171 : decode b_m_findBought 171 = .ok (.istore 7, 2) := by decide +kernel
theorem d_m_findBought_173 : decode b_m_findBought 173 = .ok (.iload 7, 2) := by decide +kernel
theorem d_m_findBought_175 : decode b_m_findBought 175 = .ok (.aload_n 0, 1) := by decide +kernel
theorem d_m_findBought_176 : decode b_m_findBought 176 = .ok (.getfield 194, 3) := by decide +kernel
theorem d_m_findBought_179 : decode b_m_findBought 179 = .ok (.if_icmp .ge 51, 3) := by decide +kernel
theorem d_m_findBought_182 : decode b_m_findBought 182 = .ok (.iload 5, 2) := by decide +kernel
theorem d_m_findBought_184 : decode b_m_findBought 184 = .ok (.iload 7, 2) := by decide +kernel
theorem d_m_findBought_186 : decode b_m_findBought 186 = .ok (.ishr, 1) := by decide +kernel
theorem d_m_findBought_187 : decode b_m_findBought 187 = .ok (.iconst 1, 1) := by decide +kernel
theorem d_m_findBought_188 : decode b_m_findBought 188 = .ok (.iand, 1) := by decide +kernel
theorem d_m_findBought_189 : decode b_m_findBought 189 = .ok (.ifCond .ne 6, 3) := by decide +kernel
theorem d_m_findBought_192 : decode b_m_findBought 192 = .ok (.goto 32, 3) := by decide +kernel
theorem d_m_findBought_195 : decode b_m_findBought 195 = .ok (.aload_n 0, 1) := by decide +kernel
theorem d_m_findBought_196 : decode b_m_findBought 196 = .ok (.getfield 130, 3) := by decide +kernel
theorem d_m_findBought_199 : decode b_m_findBought 199 = .ok (.aload_n 0, 1) := by decide +kernel
theorem d_m_findBought_200 : decode b_m_findBought 200 = .ok (.getfield 188, 3) := by decide +kernel
theorem d_m_findBought_203 : decode b_m_findBought 203 = .ok (.iload 7, 2) := by decide +kernel
theorem d_m_findBought_205 : decode b_m_findBought 205 = .ok (.iaload, 1) := by decide +kernel
theorem d_m_findBought_206 : decode b_m_findBought 206 = .ok (.iload_n 1, 1) := by decide +kernel
theorem d_m_findBought_207 : decode b_m_findBought 207 = .ok (.iastore, 1) := by decide +kernel
theorem d_m_findBought_208 : decode b_m_findBought 208 = .ok (.aload_n 0, 1) := by decide +kernel
theorem d_m_findBought_209 : decode b_m_findBought 209 = .ok (.getfield 133, 3) := by decide +kernel
theorem d_m_findBought_212 : decode b_m_findBought 212 = .ok (.aload_n 0, 1) := by decide +kernel
theorem d_m_findBought_213 : decode b_m_findBought 213 = .ok (.getfield 188, 3) := by decide +kernel
theorem d_m_findBought_216 : decode b_m_findBought 216 = .ok (.iload 7, 2) := by decide +kernel
theorem d_m_findBought_218 : decode b_m_findBought 218 = .ok (.iaload, 1) := by decide +kernel
theorem d_m_findBought_219 : decode b_m_findBought 219 = .ok (.aload_n 0, 1) := by decide +kernel
theorem d_m_findBought_220 : decode b_m_findBought 220 = .ok (.getfield 7, 3) := by decide +kernel
theorem d_m_findBought_223 : decode b_m_findBought 223 = .ok (.iastore, 1) := by decide +kernel
theorem d_m_findBought_224 : decode b_m_findBought 224 = .ok (.iinc 7 1, 3) := by decide +kernel
theorem d_m_findBought_227 : decode b_m_findBought 227 = .ok (.goto (-54), 3) := by decide +kernel
theorem d_m_findBought_230 : decode b_m_findBought 230 = .ok (.aload_n 0, 1) := by decide +kernel
theorem d_m_findBought_231 : decode b_m_findBought 231 = .ok (.aload_n 0, 1) := by decide +kernel
theorem d_m_findBought_232 : decode b_m_findBought 232 = .ok (.getfield 7, 3) := by decide +kernel
theorem d_m_findBought_235 : decode b_m_findBought 235 = .ok (.invokevirtual 325, 3) := by decide +kernel
theorem d_m_findBought_238 : decode b_m_findBought 238 = .ok (.aload_n 0, 1) := by decide +kernel
theorem d_m_findBought_239 : decode b_m_findBought 239 = .ok (.invokevirtual 347, 3) := by decide +kernel
theorem d_m_findBought_242 : decode b_m_findBought 242 = .ok (.aload_n 0, 1) := by decide +kernel
theorem d_m_findBought_243 : decode b_m_findBought 243 = .ok (.getfield 151, 3) := by decide +kernel
theorem d_m_findBought_246 : decode b_m_findBought 246 = .ok (.iload_n 2, 1) := by decide +kernel
theorem d_m_findBought_247 : decode b_m_findBought 247 = .ok (.iaload, 1) := by decide +kernel
theorem d_m_findBought_248 : decode b_m_findBought 248 = .ok (.iload_n 1, 1) := by decide +kernel
theorem d_m_findBought_249 : decode b_m_findBought 249 = .ok (.if_icmp .eq 6, 3) := by decide +kernel
theorem d_m_findBought_252 : decode b_m_findBought 252 = .ok (.goto 30, 3) := by decide +kernel
theorem d_m_findBought_255 : decode b_m_findBought 255 = .ok (.iconst 1, 1) := by decide +kernel
theorem d_m_findBought_256 : decode b_m_findBought 256 = .ok (.istore_n 3, 1) := by decide +kernel
theorem d_m_findBought_257 : decode b_m_findBought 257 = .ok (.aload_n 0, 1) := by decide +kernel
theorem d_m_findBought_258 : decode b_m_findBought 258 = .ok (.iload 6, 2) := by decide +kernel
theorem d_m_findBought_260 : decode b_m_findBought 260 = .ok (.putfield 201, 3) := by decide +kernel
theorem d_m_findBought_263 : decode b_m_findBought 263 = .ok (.aload_n 0, 1) := by decide +kernel
theorem d_m_findBought_264 : decode b_m_findBought 264 = .ok (.iload 5, 2) := by decide +kernel
theorem d_m_findBought_266 : decode b_m_findBought 266 = .ok (.i2l, 1) := by decide +kernel
theorem d_m_findBought_267 : decode b_m_findBought 267 = .ok (.invokevirtual 394, 3) := by decide +kernel
theorem d_m_findBought_270 : decode b_m_findBought 270 = .ok (.istore 4, 2) := by decide +kernel
theorem d_m_findBought_272 : decode b_m_findBought 272 = .ok (.aload_n 0, 1) := by decide +kernel
theorem d_m_findBought_273 : decode b_m_findBought 273 = .ok (.aload_n 0, 1) := by decide +kernel
theorem d_m_findBought_274 : decode b_m_findBought 274 = .ok (.iload 5, 2) := by decide +kernel
theorem d_m_findBought_276 : decode b_m_findBought 276 = .ok (.invokevirtual 398, 3) := by decide +kernel
theorem d_m_findBought_279 : decode b_m_findBought 279 = .ok (.putfield 197, 3) := by decide +kernel
theorem d_m_findBought_282 : decode b_m_findBought 282 = .ok (.iinc 5 1, 3) := by decide +kernel
theorem d_m_findBought_285 : decode b_m_findBought 285 = .ok (.goto (-224), 3) := by decide +kernel
theorem d_m_findBought_288 : decode b_m_findBought 288 = .ok (.iload_n 3, 1) := by decide +kernel
theorem d_m_findBought_289 : decode b_m_findBought 289 = .ok (.ireturn, 1) := by decide +kernel
abbrev b_m_buy : ByteArray := prog_14_method_66_code
abbrev y_m_buy : MethodName := ⟨"WhoRulesModel", "buy", "(III)J"⟩
theorem d_m_buy_0 : decode b_m_buy 0 = .ok (.aload_n 0, 1) := by decide +kernel
theorem d_m_buy_1 : decode b_m_buy 1 = .ok (.iload_n 1, 1) := by decide +kernel
theorem d_m_buy_2 : decode b_m_buy 2 = .ok (.invokevirtual 341, 3) := by decide +kernel
theorem d_m_buy_5 : decode b_m_buy 5 = .ok (.ifCond .eq 21, 3) := by decide +kernel
theorem d_m_buy_8 : decode b_m_buy 8 = .ok (.aload_n 0, 1) := by decide +kernel
theorem d_m_buy_9 : decode b_m_buy 9 = .ok (.iload_n 2, 1) := by decide +kernel
theorem d_m_buy_10 : decode b_m_buy 10 = .ok (.invokevirtual 254, 3) := by decide +kernel
theorem d_m_buy_13 : decode b_m_buy 13 = .ok (.ifCond .eq 13, 3) := by decide +kernel
theorem d_m_buy_16 : decode b_m_buy 16 = .ok (.aload_n 0, 1) := by decide +kernel
theorem d_m_buy_17 : decode b_m_buy 17 = .ok (.iload_n 3, 1) := by decide +kernel
theorem d_m_buy_18 : decode b_m_buy 18 = .ok (.iconst 0, 1) := by decide +kernel
theorem d_m_buy_19 : decode b_m_buy 19 = .ok (.iconst 1, 1) := by decide +kernel
theorem d_m_buy_20 : decode b_m_buy 20 = .ok (.invokevirtual 246, 3) := by decide +kernel
theorem d_m_buy_23 : decode b_m_buy 23 = .ok (.ifCond .ne 7, 3) := by decide +kernel
theorem d_m_buy_26 : decode b_m_buy 26 = .ok (.ldc2_w 377, 3) := by decide +kernel
theorem d_m_buy_29 : decode b_m_buy 29 = .ok (.lreturn, 1) := by decide +kernel
theorem d_m_buy_30 : decode b_m_buy 30 = .ok (.aload_n 0, 1) := by decide +kernel
theorem d_m_buy_31 : decode b_m_buy 31 = .ok (.iload_n 1, 1) := by decide +kernel
theorem d_m_buy_32 : decode b_m_buy 32 = .ok (.iload_n 2, 1) := by decide +kernel
theorem d_m_buy_33 : decode b_m_buy 33 = .ok (.invokevirtual 402, 3) := by decide +kernel
theorem d_m_buy_36 : decode b_m_buy 36 = .ok (.ifCond .ne 7, 3) := by decide +kernel
theorem d_m_buy_39 : decode b_m_buy 39 = .ok (.ldc2_w 405, 3) := by decide +kernel
theorem d_m_buy_42 : decode b_m_buy 42 = .ok (.lreturn, 1) := by decide +kernel
theorem d_m_buy_43 : decode b_m_buy 43 = .ok (.iload_n 3, 1) := by decide +kernel
theorem d_m_buy_44 : decode b_m_buy 44 = .ok (.ifCond .ne 10, 3) := by decide +kernel
theorem d_m_buy_47 : decode b_m_buy 47 = .ok (.aload_n 0, 1) := by decide +kernel
theorem d_m_buy_48 : decode b_m_buy 48 = .ok (.getfield 197, 3) := by decide +kernel
theorem d_m_buy_51 : decode b_m_buy 51 = .ok (.goto 8, 3) := by decide +kernel
theorem d_m_buy_54 : decode b_m_buy 54 = .ok (.aload_n 0, 1) := by decide +kernel
theorem d_m_buy_55 : decode b_m_buy 55 = .ok (.getfield 201, 3) := by decide +kernel
theorem d_m_buy_58 : decode b_m_buy 58 = .ok (.i2l, 1) := by decide +kernel
theorem d_m_buy_59 : decode b_m_buy 59 = .ok (.lreturn, 1) := by decide +kernel
abbrev b_m_sold : ByteArray := prog_14_method_67_code
abbrev y_m_sold : MethodName := ⟨"WhoRulesModel", "sold", "(I)I"⟩
theorem d_m_sold_0 : decode b_m_sold 0 = .ok (.aload_n 0, 1) := by decide +kernel
theorem d_m_sold_1 : decode b_m_sold 1 = .ok (.iload_n 1, 1) := by decide +kernel
theorem d_m_sold_2 : decode b_m_sold 2 = .ok (.invokevirtual 257, 3) := by decide +kernel
theorem d_m_sold_5 : decode b_m_sold 5 = .ok (.ifCond .ne 5, 3) := by decide +kernel
theorem d_m_sold_8 : decode b_m_sold 8 = .ok (.iconst (-1), 1) := by decide +kernel
theorem d_m_sold_9 : decode b_m_sold 9 = .ok (.ireturn, 1) := by decide +kernel
theorem d_m_sold_10 : decode b_m_sold 10 = .ok (.aload_n 0, 1) := by decide +kernel
theorem d_m_sold_11 : decode b_m_sold 11 = .ok (.aload_n 0, 1) := by decide +kernel
theorem d_m_sold_12 : decode b_m_sold 12 = .ok (.getfield 7, 3) := by decide +kernel
theorem d_m_sold_15 : decode b_m_sold 15 = .ok (.invokevirtual 350, 3) := by decide +kernel
theorem d_m_sold_18 : decode b_m_sold 18 = .ok (.iconst 0, 1) := by decide +kernel
theorem d_m_sold_19 : decode b_m_sold 19 = .ok (.istore_n 2, 1) := by decide +kernel
theorem d_m_sold_20 : decode b_m_sold 20 = .ok (.iload_n 2, 1) := by decide +kernel
theorem d_m_sold_21 : decode b_m_sold 21 = .ok (.bipush 16, 2) := by decide +kernel
theorem d_m_sold_23 : decode b_m_sold 23 = .ok (.if_icmp .ge 21, 3) := by decide +kernel
theorem d_m_sold_26 : decode b_m_sold 26 = .ok (.aload_n 0, 1) := by decide +kernel
theorem d_m_sold_27 : decode b_m_sold 27 = .ok (.getfield 191, 3) := by decide +kernel
theorem d_m_sold_30 : decode b_m_sold 30 = .ok (.iload_n 2, 1) := by decide +kernel
theorem d_m_sold_31 : decode b_m_sold 31 = .ok (.aload_n 0, 1) := by decide +kernel
theorem d_m_sold_32 : decode b_m_sold 32 = .ok (.getfield 151, 3) := by decide +kernel
theorem d_m_sold_35 : decode b_m_sold 35 = .ok (.iload_n 2, 1) := by decide +kernel
theorem d_m_sold_36 : decode b_m_sold 36 = .ok (.iaload, 1) := by decide +kernel
theorem d_m_sold_37 : decode b_m_sold 37 = .ok (.iastore, 1) := by decide +kernel
theorem d_m_sold_38 : decode b_m_sold 38 = .ok (.iinc 2 1, 3) := by decide +kernel
theorem d_m_sold_41 : decode b_m_sold 41 = .ok (.goto (-21), 3) := by decide +kernel
theorem d_m_sold_44 : decode b_m_sold 44 = .ok (.aload_n 0, 1) := by decide +kernel
theorem d_m_sold_45 : decode b_m_sold 45 = .ok (.getfield 130, 3) := by decide +kernel
theorem d_m_sold_48 : decode b_m_sold 48 = .ok (.iload_n 1, 1) := by decide +kernel
theorem d_m_sold_49 : decode b_m_sold 49 = .ok (.iconst (-1), 1) := by decide +kernel
theorem d_m_sold_50 : decode b_m_sold 50 = .ok (.iastore, 1) := by decide +kernel
theorem d_m_sold_51 : decode b_m_sold 51 = .ok (.aload_n 0, 1) := by decide +kernel
theorem d_m_sold_52 : decode b_m_sold 52 = .ok (.aload_n 0, 1) := by decide +kernel
theorem d_m_sold_53 : decode b_m_sold 53 = .ok (.getfield 7, 3) := by decide +kernel
theorem d_m_sold_56 : decode b_m_sold 56 = .ok (.invokevirtual 325, 3) := by decide +kernel
theorem d_m_sold_59 : decode b_m_sold 59 = .ok (.aload_n 0, 1) := by decide +kernel
theorem d_m_sold_60 : decode b_m_sold 60 = .ok (.invokevirtual 347, 3) := by decide +kernel
theorem d_m_sold_63 : decode b_m_sold 63 = .ok (.iconst 0, 1) := by decide +kernel
theorem d_m_sold_64 : decode b_m_sold 64 = .ok (.istore_n 2, 1) := by decide +kernel
theorem d_m_sold_65 : decode b_m_sold 65 = .ok (.iconst 0, 1) := by decide +kernel
theorem d_m_sold_66 : decode b_m_sold 66 = .ok (.istore_n 3, 1) := by decide +kernel
theorem d_m_sold_67 : decode b_m_sold 67 = .ok (.iload_n 3, 1) := by decide +kernel
theorem d_m_sold_68 : decode b_m_sold 68 = .ok (.aload_n 0, 1) := by decide +kernel
theorem d_m_sold_69 : decode b_m_sold 69 = .ok (.getfield 13, 3) := by decide +kernel
theorem d_m_sold_72 : decode b_m_sold 72 = .ok (.if_icmp .ge 44, 3) := by decide +kernel
theorem d_m_sold_75 : decode b_m_sold 75 = .ok (.iload_n 2, 1) := by decide +kernel
theorem d_m_sold_76 : decode b_m_sold 76 = .ok (.aload_n 0, 1) := by decide +kernel
theorem d_m_sold_77 : decode b_m_sold 77 = .ok (.getfield 25, 3) := by decide +kernel
theorem d_m_sold_80 : decode b_m_sold 80 = .ok (.iload_n 3, 1) := by decide +kernel
theorem d_m_sold_81 : decode b_m_sold 81 = .ok (.iaload, 1) := by decide +kernel
theorem d_m_sold_82 : decode b_m_sold 82 = .ok (.iconst 1, 1) := by decide +kernel
theorem d_m_sold_83 : decode b_m_sold 83 = .ok (.if_icmp .ne 24, 3) := by decide +kernel
theorem d_m_sold_86 : decode b_m_sold 86 = .ok (.aload_n 0, 1) := by decide +kernel
theorem d_m_sold_87 : decode b_m_sold 87 = .ok (.getfield 151, 3) := by decide +kernel
theorem d_m_sold_90 : decode b_m_sold 90 = .ok (.iload_n 3, 1) := by decide +kernel
theorem d_m_sold_91 : decode b_m_sold 91 = .ok (.iaload, 1) := by decide +kernel
theorem d_m_sold_92 : decode b_m_sold 92 = .ok (.aload_n 0, 1) := by decide +kernel
theorem d_m_sold_93 : decode b_m_sold 93 = .ok (.getfield 191, 3) := by decide +kernel
theorem d_m_sold_96 : decode b_m_sold 96 = .ok (.iload_n 3, 1) := by decide +kernel
theorem d_m_sold_97 : decode b_m_sold 97 = .ok (.iaload, 1) := by decide +kernel
theorem d_m_sold_98 : decode b_m_sold 98 = .ok (.if_icmp .eq 9, 3) := by decide +kernel
theorem d_m_sold_101 : decode b_m_sold 101 = .ok (.iconst 1, 1) := by decide +kernel
theorem d_m_sold_102 : decode b_m_sold 102 = .ok (.iload_n 3, 1) := by decide +kernel
theorem d_m_sold_103 : decode b_m_sold 103 = .ok (.ishl, 1) := by decide +kernel
theorem d_m_sold_104 : decode b_m_sold 104 = .ok (.goto 4, 3) := by decide +kernel
theorem d_m_sold_107 : decode b_m_sold 107 = .ok (.iconst 0, 1) := by decide +kernel
theorem d_m_sold_108 : decode b_m_sold 108 = .ok (.ior, 1) := by decide +kernel
theorem d_m_sold_109 : decode b_m_sold 109 = .ok (.istore_n 2, 1) := by decide +kernel
theorem d_m_sold_110 : decode b_m_sold 110 = .ok (.iinc 3 1, 3) := by decide +kernel
theorem d_m_sold_113 : decode b_m_sold 113 = .ok (.goto (-46), 3) := by decide +kernel
theorem d_m_sold_116 : decode b_m_sold 116 = .ok (.iload_n 2, 1) := by decide +kernel
theorem d_m_sold_117 : decode b_m_sold 117 = .ok (.ireturn, 1) := by decide +kernel
abbrev b_m_free : ByteArray := prog_14_method_68_code
abbrev y_m_free : MethodName := ⟨"WhoRulesModel", "free", "(I)J"⟩
theorem d_m_free_0 : decode b_m_free 0 = .ok (.aload_n 0, 1) := by decide +kernel
theorem d_m_free_1 : decode b_m_free 1 = .ok (.iload_n 1, 1) := by decide +kernel
theorem d_m_free_2 : decode b_m_free 2 = .ok (.invokevirtual 254, 3) := by decide +kernel
theorem d_m_free_5 : decode b_m_free 5 = .ok (.ifCond .ne 7, 3) := by decide +kernel
theorem d_m_free_8 : decode b_m_free 8 = .ok (.ldc2_w 377, 3) := by decide +kernel
theorem d_m_free_11 : decode b_m_free 11 = .ok (.lreturn, 1) := by decide +kernel
theorem d_m_free_12 : decode b_m_free 12 = .ok (.aload_n 0, 1) := by decide +kernel
theorem d_m_free_13 : decode b_m_free 13 = .ok (.aload_n 0, 1) := by decide +kernel
theorem d_m_free_14 : decode b_m_free 14 = .ok (.getfield 7, 3) := by decide +kernel
theorem d_m_free_17 : decode b_m_free 17 = .ok (.invokevirtual 350, 3) := by decide +kernel
theorem d_m_free_20 : decode b_m_free 20 = .ok (.aload_n 0, 1) := by decide +kernel
theorem d_m_free_21 : decode b_m_free 21 = .ok (.getfield 151, 3) := by decide +kernel
theorem d_m_free_24 : decode b_m_free 24 = .ok (.iload_n 1, 1) := by decide +kernel
theorem d_m_free_25 : decode b_m_free 25 = .ok (.iaload, 1) := by decide +kernel
theorem d_m_free_26 : decode b_m_free 26 = .ok (.ifCond .ge 7, 3) := by decide +kernel
theorem d_m_free_29 : decode b_m_free 29 = .ok (.ldc2_w 377, 3) := by decide +kernel
theorem d_m_free_32 : decode b_m_free 32 = .ok (.lreturn, 1) := by decide +kernel
theorem d_m_free_33 : decode b_m_free 33 = .ok (.aload_n 0, 1) := by decide +kernel
theorem d_m_free_34 : decode b_m_free 34 = .ok (.aload_n 0, 1) := by decide +kernel
theorem d_m_free_35 : decode b_m_free 35 = .ok (.getfield 151, 3) := by decide +kernel
theorem d_m_free_38 : decode b_m_free 38 = .ok (.iload_n 1, 1) := by decide +kernel
theorem d_m_free_39 : decode b_m_free 39 = .ok (.iaload, 1) := by decide +kernel
theorem d_m_free_40 : decode b_m_free 40 = .ok (.invokevirtual 344, 3) := by decide +kernel
theorem d_m_free_43 : decode b_m_free 43 = .ok (.istore_n 2, 1) := by decide +kernel
theorem d_m_free_44 : decode b_m_free 44 = .ok (.aload_n 0, 1) := by decide +kernel
theorem d_m_free_45 : decode b_m_free 45 = .ok (.iconst 0, 1) := by decide +kernel
theorem d_m_free_46 : decode b_m_free 46 = .ok (.putfield 194, 3) := by decide +kernel
theorem d_m_free_49 : decode b_m_free 49 = .ok (.iconst 0, 1) := by decide +kernel
theorem d_m_free_50 : decode b_m_free 50 = .ok (.istore_n 3, 1) := by decide +kernel
theorem d_m_free_51 : decode b_m_free 51 = .ok (.iload_n 3, 1) := by decide +kernel
theorem d_m_free_52 : decode b_m_free 52 = .ok (.aload_n 0, 1) := by decide +kernel
theorem d_m_free_53 : decode b_m_free 53 = .ok (.getfield 19, 3) := by decide +kernel
theorem d_m_free_56 : decode b_m_free 56 = .ok (.if_icmp .ge 37, 3) := by decide +kernel
theorem d_m_free_59 : decode b_m_free 59 = .ok (.aload_n 0, 1) := by decide +kernel
theorem d_m_free_60 : decode b_m_free 60 = .ok (.getfield 130, 3) := by decide +kernel
theorem d_m_free_63 : decode b_m_free 63 = .ok (.iload_n 3, 1) := by decide +kernel
theorem d_m_free_64 : decode b_m_free 64 = .ok (.iaload, 1) := by decide +kernel
theorem d_m_free_65 : decode b_m_free 65 = .ok (.ifCond .lt 22, 3) := by decide +kernel
theorem d_m_free_68 : decode b_m_free 68 = .ok (.iload_n 2, 1) := by decide +kernel
theorem d_m_free_69 : decode b_m_free 69 = .ok (.aload_n 0, 1) := by decide +kernel
theorem d_m_free_70 : decode b_m_free 70 = .ok (.getfield 130, 3) := by decide +kernel
theorem d_m_free_73 : decode b_m_free 73 = .ok (.iload_n 3, 1) := by decide +kernel
theorem d_m_free_74 : decode b_m_free 74 = .ok (.iaload, 1) := by decide +kernel
theorem d_m_free_75 : decode b_m_free 75 = .ok (.ishr, 1) := by decide +kernel
theorem d_m_free_76 : decode b_m_free 76 = .ok (.iconst 1, 1) := by decide +kernel
theorem d_m_free_77 : decode b_m_free 77 = .ok (.iand, 1) := by decide +kernel
theorem d_m_free_78 : decode b_m_free 78 = .ok (.iconst 1, 1) := by decide +kernel
theorem d_m_free_79 : decode b_m_free 79 = .ok (.if_icmp .ne 8, 3) := by decide +kernel
theorem d_m_free_82 : decode b_m_free 82 = .ok (.aload_n 0, 1) := by decide +kernel
theorem d_m_free_83 : decode b_m_free 83 = .ok (.iload_n 3, 1) := by decide +kernel
theorem d_m_free_84 : decode b_m_free 84 = .ok (.invokevirtual 391, 3) := by decide +kernel
theorem d_m_free_87 : decode b_m_free 87 = .ok (.iinc 3 1, 3) := by decide +kernel
theorem d_m_free_90 : decode b_m_free 90 = .ok (.goto (-39), 3) := by decide +kernel
theorem d_m_free_93 : decode b_m_free 93 = .ok (.iconst (-1), 1) := by decide +kernel
theorem d_m_free_94 : decode b_m_free 94 = .ok (.istore_n 3, 1) := by decide +kernel
theorem d_m_free_95 : decode b_m_free 95 = .ok (.iconst 1, 1) := by decide +kernel
theorem d_m_free_96 : decode b_m_free 96 = .ok (.istore 4, 2) := by decide +kernel
theorem d_m_free_98 : decode b_m_free 98 = .ok (.iload 4, 2) := by decide +kernel
theorem d_m_free_100 : decode b_m_free 100 = .ok (.iconst 1, 1) := by decide +kernel
theorem d_m_free_101 : decode b_m_free 101 = .ok (.aload_n 0, 1) := by decide +kernel
theorem d_m_free_102 : decode b_m_free 102 = .ok (.getfield 194, 3) := by decide +kernel
theorem d_m_free_105 : decode b_m_free 105 = .ok (.ishl, 1) := by decide +kernel
theorem d_m_free_106 : decode b_m_free 106 = .ok (.if_icmp .ge 106, 3) := by decide +kernel
theorem d_m_free_109 : decode b_m_free 109 = .ok (.iload_n 3, 1) := by decide +kernel
theorem d_m_free_110 : decode b_m_free 110 = .ok (.ifCond .lt 22, 3) := by decide +kernel
theorem d_m_free_113 : decode b_m_free 113 = .ok (.aload_n 0, 1) := by decide +kernel
theorem d_m_free_114 : decode b_m_free 114 = .ok (.iload 4, 2) := by decide +kernel
theorem d_m_free_116 : decode b_m_free 116 = .ok (.i2l, 1) := by decide +kernel
theorem d_m_free_117 : decode b_m_free 117 = .ok (.invokevirtual 394, 3) := by decide +kernel
theorem d_m_free_120 : decode b_m_free 120 = .ok (.aload_n 0, 1) := by decide +kernel
theorem d_m_free_121 : decode b_m_free 121 = .ok (.iload_n 3, 1) := by decide +kernel
theorem d_m_free_122 : decode b_m_free 122 = .ok (.i2l, 1) := by decide +kernel
theorem d_m_free_123 : decode b_m_free 123 = .ok (.invokevirtual 394, 3) := by decide +kernel
theorem d_m_free_126 : decode b_m_free 126 = .ok (.if_icmp .lt 6, 3) := by decide +kernel
theorem d_m_free_129 : decode b_m_free 129 = .ok (.goto 77, 3) := by decide +kernel
theorem d_m_free_132 : decode b_m_free 132 = .ok (.aload_n 0, 1) := by decide +kernel
theorem d_m_free_133 : decode b_m_free 133 = .ok (.aload_n 0, 1) := by decide +kernel
theorem d_m_free_134 : decode b_m_free 134 = .ok (.getfield 7, 3) := by decide +kernel
theorem d_m_free_137 : decode b_m_free 137 = .ok (.invokevirtual 322, 3) := by decide +kernel
theorem d_m_free_140 : decode b_m_free 140 = .ok (.iconst 0, 1) := by decide +kernel
theorem d_m_free_141 : decode b_m_free 141 = .ok (.istore 5, 2) := by decide +kernel
theorem d_m_free_143 : decode b_m_free 143 = .ok (.iload 5, 2) := by decide +kernel
theorem d_m_free_145 : decode b_m_free 145 = .ok (.aload_n 0, 1) := by decide +kernel
theorem d_m_free_146 : decode b_m_free 146 = .ok (.getfield 194, 3) := by decide +kernel
theorem d_m_free_149 : decode b_m_free 149 = .ok (.if_icmp .ge 33, 3) := by decide +kernel
theorem d_m_free_152 : decode b_m_free 152 = .ok (.iload 4, 2) := by decide +kernel
theorem d_m_free_154 : decode b_m_free 154 = .ok (.iload 5, 2) := by decide +kernel
theorem d_m_free_156 : decode b_m_free 156 = .ok (.ishr, 1) := by decide +kernel
theorem d_m_free_157 : decode b_m_free 157 = .ok (.iconst 1, 1) := by decide +kernel
theorem d_m_free_158 : decode b_m_free 158 = .ok (.iand, 1) := by decide +kernel
theorem d_m_free_159 : decode b_m_free 159 = .ok (.iconst 1, 1) := by decide +kernel
theorem d_m_free_160 : decode b_m_free 160 = .ok (.if_icmp .ne 16, 3) := by decide +kernel
theorem d_m_free_163 : decode b_m_free 163 = .ok (.aload_n 0, 1) := by decide +kernel
theorem d_m_free_164 : decode b_m_free 164 = .ok (.getfield 130, 3) := by decide +kernel
theorem d_m_free_167 : decode b_m_free 167 = .ok (.aload_n 0, 1) := by decide +kernel
theorem d_m_free_168 : decode b_m_free 168 = .ok (.getfield 188, 3) := by decide +kernel
theorem d_m_free_171 : decode b_m_free 171 = .ok (.iload 5, 2) := by decide +kernel
theorem d_m_free_173 : decode b_m_free 173 = .ok (.iaload, 1) := by decide +kernel
theorem d_m_free_174 : decode b_m_free 174 = .ok (.iconst (-1), 1) := by decide +kernel
theorem d_m_free_175 : decode b_m_free 175 = .ok (.iastore, 1) := by decide +kernel
theorem d_m_free_176 : decode b_m_free 176 = .ok (.iinc 5 1, 3) := by decide +kernel
theorem d_m_free_179 : decode b_m_free 179 = .ok (.goto (-36), 3) := by decide +kernel
theorem d_m_free_182 : decode b_m_free 182 = .ok (.aload_n 0, 1) := by decide +kernel
theorem d_m_free_183 : decode b_m_free 183 = .ok (.aload_n 0, 1) := by decide +kernel
theorem d_m_free_184 : decode b_m_free 184 = .ok (.getfield 7, 3) := by decide +kernel
theorem d_m_free_187 : decode b_m_free 187 = .ok (.invokevirtual 325, 3) := by decide +kernel
theorem d_m_free_190 : decode b_m_free 190 = .ok (.aload_n 0, 1) := by decide +kernel
theorem d_m_free_191 : decode b_m_free 191 = .ok (.invokevirtual 347, 3) := by decide +kernel
theorem d_m_free_194 : decode b_m_free 194 = .ok (.aload_n 0, 1) := by decide +kernel
theorem d_m_free_195 : decode b_m_free 195 = .ok (.getfield 151, 3) := by decide +kernel
theorem d_m_free_198 : decode b_m_free 198 = .ok (.iload_n 1, 1) := by decide +kernel
theorem d_m_free_199 : decode b_m_free 199 = .ok (.iaload, 1) := by decide +kernel
theorem d_m_free_200 : decode b_m_free 200 = .ok (.ifCond .ge 6, 3) := by decide +kernel
theorem d_m_free_203 : decode b_m_free 203 = .ok (.iload 4, 2) := by decide +kernel
theorem d_m_free_205 : decode b_m_free 205 = .ok (.istore_n 3, 1) := by decide +kernel
theorem d_m_free_206 : decode b_m_free 206 = .ok (.iinc 4 1, 3) := by decide +kernel
theorem d_m_free_209 : decode b_m_free 209 = .ok (.goto (-111), 3) := by decide +kernel
theorem d_m_free_212 : decode b_m_free 212 = .ok (.iload_n 3, 1) := by decide +kernel
theorem d_m_free_213 : decode b_m_free 213 = .ok (.ifCond .ge 9, 3) := by decide +kernel
theorem d_m_free_216 : decode b_m_free 216 = .ok (.ldc2_w 405, 3) := by decide +kernel
theorem d_m_free_219 : decode b_m_free 219 = .ok (.goto 8, 3) := by decide +kernel
theorem d_m_free_222 : decode b_m_free 222 = .ok (.aload_n 0, 1) := by decide +kernel
theorem d_m_free_223 : decode b_m_free 223 = .ok (.iload_n 3, 1) := by decide +kernel
theorem d_m_free_224 : decode b_m_free 224 = .ok (.invokevirtual 398, 3) := by decide +kernel
theorem d_m_free_227 : decode b_m_free 227 = .ok (.lreturn, 1) := by decide +kernel
abbrev b_m_may : ByteArray := prog_14_method_69_code
abbrev y_m_may : MethodName := ⟨"WhoRulesModel", "may", "(IIII)I"⟩
theorem d_m_may_0 : decode b_m_may 0 = .ok (.aload_n 0, 1) := by decide +kernel
theorem d_m_may_1 : decode b_m_may 1 = .ok (.iload_n 1, 1) := by decide +kernel
theorem d_m_may_2 : decode b_m_may 2 = .ok (.invokevirtual 341, 3) := by decide +kernel
theorem d_m_may_5 : decode b_m_may 5 = .ok (.ifCond .eq 22, 3) := by decide +kernel
theorem d_m_may_8 : decode b_m_may 8 = .ok (.aload_n 0, 1) := by decide +kernel
theorem d_m_may_9 : decode b_m_may 9 = .ok (.iload_n 2, 1) := by decide +kernel
theorem d_m_may_10 : decode b_m_may 10 = .ok (.invokevirtual 254, 3) := by decide +kernel
theorem d_m_may_13 : decode b_m_may 13 = .ok (.ifCond .eq 14, 3) := by decide +kernel
theorem d_m_may_16 : decode b_m_may 16 = .ok (.aload_n 0, 1) := by decide +kernel
theorem d_m_may_17 : decode b_m_may 17 = .ok (.iload 4, 2) := by decide +kernel
theorem d_m_may_19 : decode b_m_may 19 = .ok (.iconst 0, 1) := by decide +kernel
theorem d_m_may_20 : decode b_m_may 20 = .ok (.iconst 1, 1) := by decide +kernel
theorem d_m_may_21 : decode b_m_may 21 = .ok (.invokevirtual 246, 3) := by decide +kernel
theorem d_m_may_24 : decode b_m_may 24 = .ok (.ifCond .ne 5, 3) := by decide +kernel
theorem d_m_may_27 : decode b_m_may 27 = .ok (.iconst (-1), 1) := by decide +kernel
theorem d_m_may_28 : decode b_m_may 28 = .ok (.ireturn, 1) := by decide +kernel
theorem d_m_may_29 : decode b_m_may 29 = .ok (.aload_n 0, 1) := by decide +kernel
theorem d_m_may_30 : decode b_m_may 30 = .ok (.iload_n 3, 1) := by decide +kernel
theorem d_m_may_31 : decode b_m_may 31 = .ok (.iconst 0, 1) := by decide +kernel
theorem d_m_may_32 : decode b_m_may 32 = .ok (.bipush 12, 2) := by decide +kernel
theorem d_m_may_34 : decode b_m_may 34 = .ok (.invokevirtual 246, 3) := by decide +kernel
theorem d_m_may_37 : decode b_m_may 37 = .ok (.ifCond .ne 6, 3) := by decide +kernel
theorem d_m_may_40 : decode b_m_may 40 = .ok (.bipush (-2), 2) := by decide +kernel
theorem d_m_may_42 : decode b_m_may 42 = .ok (.ireturn, 1) := by decide +kernel
theorem d_m_may_43 : decode b_m_may 43 = .ok (.aload_n 0, 1) := by decide +kernel
theorem d_m_may_44 : decode b_m_may 44 = .ok (.aload_n 0, 1) := by decide +kernel
theorem d_m_may_45 : decode b_m_may 45 = .ok (.getfield 7, 3) := by decide +kernel
theorem d_m_may_48 : decode b_m_may 48 = .ok (.invokevirtual 322, 3) := by decide +kernel
theorem d_m_may_51 : decode b_m_may 51 = .ok (.iconst 0, 1) := by decide +kernel
theorem d_m_may_52 : decode b_m_may 52 = .ok (.istore 5, 2) := by decide +kernel
theorem d_m_may_54 : decode b_m_may 54 = .ok (.iload 5, 2) := by decide +kernel
theorem d_m_may_56 : decode b_m_may 56 = .ok (.aload_n 0, 1) := by decide +kernel
theorem d_m_may_57 : decode b_m_may 57 = .ok (.getfield 19, 3) := by decide +kernel
theorem d_m_may_60 : decode b_m_may 60 = .ok (.if_icmp .ge 67, 3) := by decide +kernel
theorem d_m_may_63 : decode b_m_may 63 = .ok (.aload_n 0, 1) := by decide +kernel
theorem d_m_may_64 : decode b_m_may 64 = .ok (.getfield 38, 3) := by decide +kernel
theorem d_m_may_67 : decode b_m_may 67 = .ok (.iload 5, 2) := by decide +kernel
theorem d_m_may_69 : decode b_m_may 69 = .ok (.iaload, 1) := by decide +kernel
theorem d_m_may_70 : decode b_m_may 70 = .ok (.iload_n 3, 1) := by decide +kernel
theorem d_m_may_71 : decode b_m_may 71 = .ok (.if_icmp .ge 50, 3) := by decide +kernel
theorem d_m_may_74 : decode b_m_may 74 = .ok (.iload 4, 2) := by decide +kernel
theorem d_m_may_76 : decode b_m_may 76 = .ok (.ifCond .ne 17, 3) := by decide +kernel
theorem d_m_may_79 : decode b_m_may 79 = .ok (.aload_n 0, 1) := by decide +kernel
theorem d_m_may_80 : decode b_m_may 80 = .ok (.getfield 130, 3) := by decide +kernel
theorem d_m_may_83 : decode b_m_may 83 = .ok (.iload 5, 2) := by decide +kernel
theorem d_m_may_85 : decode b_m_may 85 = .ok (.iaload, 1) := by decide +kernel
theorem d_m_may_86 : decode b_m_may 86 = .ok (.iload_n 1, 1) := by decide +kernel
theorem d_m_may_87 : decode b_m_may 87 = .ok (.if_icmp .ne 6, 3) := by decide +kernel
theorem d_m_may_90 : decode b_m_may 90 = .ok (.goto 31, 3) := by decide +kernel
theorem d_m_may_93 : decode b_m_may 93 = .ok (.aload_n 0, 1) := by decide +kernel
theorem d_m_may_94 : decode b_m_may 94 = .ok (.getfield 130, 3) := by decide +kernel
theorem d_m_may_97 : decode b_m_may 97 = .ok (.iload 5, 2) := by decide +kernel
theorem d_m_may_99 : decode b_m_may 99 = .ok (.iload 4, 2) := by decide +kernel
theorem d_m_may_101 : decode b_m_may 101 = .ok (.ifCond .ne 7, 3) := by decide +kernel
theorem d_m_may_104 : decode b_m_may 104 = .ok (.iload_n 1, 1) := by decide +kernel
theorem d_m_may_105 : decode b_m_may 105 = .ok (.goto 4, 3) := by decide +kernel
theorem d_m_may_108 : decode b_m_may 108 = .ok (.iconst (-1), 1) := by decide +kernel
theorem d_m_may_109 : decode b_m_may 109 = .ok (.iastore, 1) := by decide +kernel
theorem d_m_may_110 : decode b_m_may 110 = .ok (.aload_n 0, 1) := by decide +kernel
theorem d_m_may_111 : decode b_m_may 111 = .ok (.getfield 133, 3) := by decide +kernel
theorem d_m_may_114 : decode b_m_may 114 = .ok (.iload 5, 2) := by decide +kernel
theorem d_m_may_116 : decode b_m_may 116 = .ok (.aload_n 0, 1) := by decide +kernel
theorem d_m_may_117 : decode b_m_may 117 = .ok (.getfield 7, 3) := by decide +kernel
theorem d_m_may_120 : decode b_m_may 120 = .ok (.iastore, 1) := by decide +kernel
theorem d_m_may_121 : decode b_m_may 121 = .ok (.iinc 5 1, 3) := by decide +kernel
theorem d_m_may_124 : decode b_m_may 124 = .ok (.goto (-70), 3) := by decide +kernel
theorem d_m_may_127 : decode b_m_may 127 = .ok (.aload_n 0, 1) := by decide +kernel
theorem d_m_may_128 : decode b_m_may 128 = .ok (.aload_n 0, 1) := by decide +kernel
theorem d_m_may_129 : decode b_m_may 129 = .ok (.getfield 7, 3) := by decide +kernel
theorem d_m_may_132 : decode b_m_may 132 = .ok (.invokevirtual 325, 3) := by decide +kernel
theorem d_m_may_135 : decode b_m_may 135 = .ok (.aload_n 0, 1) := by decide +kernel
theorem d_m_may_136 : decode b_m_may 136 = .ok (.invokevirtual 347, 3) := by decide +kernel
theorem d_m_may_139 : decode b_m_may 139 = .ok (.aload_n 0, 1) := by decide +kernel
theorem d_m_may_140 : decode b_m_may 140 = .ok (.getfield 151, 3) := by decide +kernel
theorem d_m_may_143 : decode b_m_may 143 = .ok (.iload_n 2, 1) := by decide +kernel
theorem d_m_may_144 : decode b_m_may 144 = .ok (.iaload, 1) := by decide +kernel
theorem d_m_may_145 : decode b_m_may 145 = .ok (.iload_n 1, 1) := by decide +kernel
theorem d_m_may_146 : decode b_m_may 146 = .ok (.if_icmp .ne 7, 3) := by decide +kernel
theorem d_m_may_149 : decode b_m_may 149 = .ok (.iconst 1, 1) := by decide +kernel
theorem d_m_may_150 : decode b_m_may 150 = .ok (.goto 4, 3) := by decide +kernel
theorem d_m_may_153 : decode b_m_may 153 = .ok (.iconst 0, 1) := by decide +kernel
theorem d_m_may_154 : decode b_m_may 154 = .ok (.ireturn, 1) := by decide +kernel
abbrev b_m_motion : ByteArray := prog_14_method_70_code
abbrev y_m_motion : MethodName := ⟨"WhoRulesModel", "motion", "(II)I"⟩
theorem d_m_motion_0 : decode b_m_motion 0 = .ok (.aload_n 0, 1) := by decide +kernel
theorem d_m_motion_1 : decode b_m_motion 1 = .ok (.iload_n 1, 1) := by decide +kernel
theorem d_m_motion_2 : decode b_m_motion 2 = .ok (.iconst 0, 1) := by decide +kernel
theorem d_m_motion_3 : decode b_m_motion 3 = .ok (.iconst 1, 1) := by decide +kernel
theorem d_m_motion_4 : decode b_m_motion 4 = .ok (.aload_n 0, 1) := by decide +kernel
theorem d_m_motion_5 : decode b_m_motion 5 = .ok (.getfield 13, 3) := by decide +kernel
theorem d_m_motion_8 : decode b_m_motion 8 = .ok (.ishl, 1) := by decide +kernel
theorem d_m_motion_9 : decode b_m_motion 9 = .ok (.iconst 1, 1) := by decide +kernel
theorem d_m_motion_10 : decode b_m_motion 10 = .ok (.isub, 1) := by decide +kernel
theorem d_m_motion_11 : decode b_m_motion 11 = .ok (.invokevirtual 246, 3) := by decide +kernel
theorem d_m_motion_14 : decode b_m_motion 14 = .ok (.ifCond .eq 26, 3) := by decide +kernel
theorem d_m_motion_17 : decode b_m_motion 17 = .ok (.aload_n 0, 1) := by decide +kernel
theorem d_m_motion_18 : decode b_m_motion 18 = .ok (.iload_n 2, 1) := by decide +kernel
theorem d_m_motion_19 : decode b_m_motion 19 = .ok (.iconst 0, 1) := by decide +kernel
theorem d_m_motion_20 : decode b_m_motion 20 = .ok (.iconst 1, 1) := by decide +kernel
theorem d_m_motion_21 : decode b_m_motion 21 = .ok (.aload_n 0, 1) := by decide +kernel
theorem d_m_motion_22 : decode b_m_motion 22 = .ok (.getfield 13, 3) := by decide +kernel
theorem d_m_motion_25 : decode b_m_motion 25 = .ok (.ishl, 1) := by decide +kernel
theorem d_m_motion_26 : decode b_m_motion 26 = .ok (.iconst 1, 1) := by decide +kernel
theorem d_m_motion_27 : decode b_m_motion 27 = .ok (.isub, 1) := by decide +kernel
theorem d_m_motion_28 : decode b_m_motion 28 = .ok (.invokevirtual 246, 3) := by decide +kernel
theorem d_m_motion_31 : decode b_m_motion 31 = .ok (.ifCond .eq 9, 3) := by decide +kernel
theorem d_m_motion_34 : decode b_m_motion 34 = .ok (.iload_n 1, 1) := by decide +kernel
theorem d_m_motion_35 : decode b_m_motion 35 = .ok (.iload_n 2, 1) := by decide +kernel
theorem d_m_motion_36 : decode b_m_motion 36 = .ok (.iand, 1) := by decide +kernel
theorem d_m_motion_37 : decode b_m_motion 37 = .ok (.ifCond .eq 6, 3) := by decide +kernel
theorem d_m_motion_40 : decode b_m_motion 40 = .ok (.bipush (-2), 2) := by decide +kernel
theorem d_m_motion_42 : decode b_m_motion 42 = .ok (.ireturn, 1) := by decide +kernel
theorem d_m_motion_43 : decode b_m_motion 43 = .ok (.aload_n 0, 1) := by decide +kernel
theorem d_m_motion_44 : decode b_m_motion 44 = .ok (.getfield 204, 3) := by decide +kernel
theorem d_m_motion_47 : decode b_m_motion 47 = .ok (.bipush 30, 2) := by decide +kernel
theorem d_m_motion_49 : decode b_m_motion 49 = .ok (.if_icmp .ne 6, 3) := by decide +kernel
theorem d_m_motion_52 : decode b_m_motion 52 = .ok (.bipush (-4), 2) := by decide +kernel
theorem d_m_motion_54 : decode b_m_motion 54 = .ok (.ireturn, 1) := by decide +kernel
theorem d_m_motion_55 : decode b_m_motion 55 = .ok (.aload_n 0, 1) := by decide +kernel
theorem d_m_motion_56 : decode b_m_motion 56 = .ok (.getfield 207, 3) := by decide +kernel
theorem d_m_motion_59 : decode b_m_motion 59 = .ok (.aload_n 0, 1) := by decide +kernel
theorem d_m_motion_60 : decode b_m_motion 60 = .ok (.getfield 204, 3) := by decide +kernel
theorem d_m_motion_63 : decode b_m_motion 63 = .ok (.iload_n 1, 1) := by decide +kernel
theorem d_m_motion_64 : decode b_m_motion 64 = .ok (.iastore, 1) := by decide +kernel
theorem d_m_motion_65 : decode b_m_motion 65 = .ok (.aload_n 0, 1) := by decide +kernel
theorem d_m_motion_66 : decode b_m_motion 66 = .ok (.getfield 210, 3) := by decide +kernel
theorem d_m_motion_69 : decode b_m_motion 69 = .ok (.aload_n 0, 1) := by decide +kernel
theorem d_m_motion_70 : decode b_m_motion 70 = .ok (.getfield 204, 3) := by decide +kernel
theorem d_m_motion_73 : decode b_m_motion 73 = .ok (.iload_n 2, 1) := by decide +kernel
theorem d_m_motion_74 : decode b_m_motion 74 = .ok (.iastore, 1) := by decide +kernel
theorem d_m_motion_75 : decode b_m_motion 75 = .ok (.aload_n 0, 1) := by decide +kernel
theorem d_m_motion_76 : decode b_m_motion 76 = .ok (.dup, 1) := by decide +kernel
theorem d_m_motion_77 : decode b_m_motion 77 = .ok (.getfield 204, 3) := by decide +kernel
theorem d_m_motion_80 : decode b_m_motion 80 = .ok (.iconst 1, 1) := by decide +kernel
theorem d_m_motion_81 : decode b_m_motion 81 = .ok (.iadd, 1) := by decide +kernel
theorem d_m_motion_82 : decode b_m_motion 82 = .ok (.putfield 204, 3) := by decide +kernel
theorem d_m_motion_85 : decode b_m_motion 85 = .ok (.aload_n 0, 1) := by decide +kernel
theorem d_m_motion_86 : decode b_m_motion 86 = .ok (.getfield 204, 3) := by decide +kernel
theorem d_m_motion_89 : decode b_m_motion 89 = .ok (.iconst 1, 1) := by decide +kernel
theorem d_m_motion_90 : decode b_m_motion 90 = .ok (.isub, 1) := by decide +kernel
theorem d_m_motion_91 : decode b_m_motion 91 = .ok (.ireturn, 1) := by decide +kernel
abbrev b_m_times : ByteArray := prog_14_method_71_code
abbrev y_m_times : MethodName := ⟨"WhoRulesModel", "times", "(IIZ)I"⟩
theorem d_m_times_0 : decode b_m_times 0 = .ok (.iconst 0, 1) := by decide +kernel
theorem d_m_times_1 : decode b_m_times 1 = .ok (.istore 4, 2) := by decide +kernel
theorem d_m_times_3 : decode b_m_times 3 = .ok (.iconst 0, 1) := by decide +kernel
theorem d_m_times_4 : decode b_m_times 4 = .ok (.istore 5, 2) := by decide +kernel
theorem d_m_times_6 : decode b_m_times 6 = .ok (.iload 5, 2) := by decide +kernel
theorem d_m_times_8 : decode b_m_times 8 = .ok (.aload_n 0, 1) := by decide +kernel
theorem d_m_times_9 : decode b_m_times 9 = .ok (.getfield 204, 3) := by decide +kernel
theorem d_m_times_12 : decode b_m_times 12 = .ok (.if_icmp .ge 86, 3) := by decide +kernel
theorem d_m_times_15 : decode b_m_times 15 = .ok (.aload_n 0, 1) := by decide +kernel
theorem d_m_times_16 : decode b_m_times 16 = .ok (.getfield 207, 3) := by decide +kernel
theorem d_m_times_19 : decode b_m_times 19 = .ok (.iload 5, 2) := by decide +kernel
theorem d_m_times_21 : decode b_m_times 21 = .ok (.iaload, 1) := by decide +kernel
theorem d_m_times_22 : decode b_m_times 22 = .ok (.iload_n 1, 1) := by decide +kernel
theorem d_m_times_23 : decode b_m_times 23 = .ok (.ishr, 1) := by decide +kernel
theorem d_m_times_24 : decode b_m_times 24 = .ok (.iconst 1, 1) := by decide +kernel
theorem d_m_times_25 : decode b_m_times 25 = .ok (.iand, 1) := by decide +kernel
theorem d_m_times_26 : decode b_m_times 26 = .ok (.aload_n 0, 1) := by decide +kernel
theorem d_m_times_27 : decode b_m_times 27 = .ok (.getfield 210, 3) := by decide +kernel
theorem d_m_times_30 : decode b_m_times 30 = .ok (.iload 5, 2) := by decide +kernel
theorem d_m_times_32 : decode b_m_times 32 = .ok (.iaload, 1) := by decide +kernel
theorem d_m_times_33 : decode b_m_times 33 = .ok (.iload_n 1, 1) := by decide +kernel
theorem d_m_times_34 : decode b_m_times 34 = .ok (.ishr, 1) := by decide +kernel
theorem d_m_times_35 : decode b_m_times 35 = .ok (.iconst 1, 1) := by decide +kernel
theorem d_m_times_36 : decode b_m_times 36 = .ok (.iand, 1) := by decide +kernel
theorem d_m_times_37 : decode b_m_times 37 = .ok (.isub, 1) := by decide +kernel
theorem d_m_times_38 : decode b_m_times 38 = .ok (.istore 6, 2) := by decide +kernel
theorem d_m_times_40 : decode b_m_times 40 = .ok (.aload_n 0, 1) := by decide +kernel
theorem d_m_times_41 : decode b_m_times 41 = .ok (.getfield 207, 3) := by decide +kernel
theorem d_m_times_44 : decode b_m_times 44 = .ok (.iload 5, 2) := by decide +kernel
theorem d_m_times_46 : decode b_m_times 46 = .ok (.iaload, 1) := by decide +kernel
theorem d_m_times_47 : decode b_m_times 47 = .ok (.iload_n 2, 1) := by decide +kernel
theorem d_m_times_48 : decode b_m_times 48 = .ok (.ishr, 1) := by decide +kernel
theorem d_m_times_49 : decode b_m_times 49 = .ok (.iconst 1, 1) := by decide +kernel
theorem d_m_times_50 : decode b_m_times 50 = .ok (.iand, 1) := by decide +kernel
theorem d_m_times_51 : decode b_m_times 51 = .ok (.aload_n 0, 1) := by decide +kernel
theorem d_m_times_52 : decode b_m_times 52 = .ok (.getfield 210, 3) := by decide +kernel
theorem d_m_times_55 : decode b_m_times 55 = .ok (.iload 5, 2) := by decide +kernel
theorem d_m_times_57 : decode b_m_times 57 = .ok (.iaload, 1) := by decide +kernel
theorem d_m_times_58 : decode b_m_times 58 = .ok (.iload_n 2, 1) := by decide +kernel
theorem d_m_times_59 : decode b_m_times 59 = .ok (.ishr, 1) := by decide +kernel
theorem d_m_times_60 : decode b_m_times 60 = .ok (.iconst 1, 1) := by decide +kernel
theorem d_m_times_61 : decode b_m_times 61 = .ok (.iand, 1) := by decide +kernel
theorem d_m_times_62 : decode b_m_times 62 = .ok (.isub, 1) := by decide +kernel
theorem d_m_times_63 : decode b_m_times 63 = .ok (.istore 7, 2) := by decide +kernel
theorem d_m_times_65 : decode b_m_times 65 = .ok (.iload 4, 2) := by decide +kernel
theorem d_m_times_67 : decode b_m_times 67 = .ok (.iload 6, 2) := by decide +kernel
theorem d_m_times_69 : decode b_m_times 69 = .ok (.iload 7, 2) := by decide +kernel
theorem d_m_times_71 : decode b_m_times 71 = .ok (.imul, 1) := by decide +kernel
theorem d_m_times_72 : decode b_m_times 72 = .ok (.iload_n 3, 1) := by decide +kernel
theorem d_m_times_73 : decode b_m_times 73 = .ok (.ifCond .eq 7, 3) := by decide +kernel
theorem d_m_times_76 : decode b_m_times 76 = .ok (.iconst 1, 1) := by decide +kernel
theorem d_m_times_77 : decode b_m_times 77 = .ok (.goto 4, 3) := by decide +kernel
theorem d_m_times_80 : decode b_m_times 80 = .ok (.iconst (-1), 1) := by decide +kernel
theorem d_m_times_81 : decode b_m_times 81 = .ok (.if_icmp .ne 7, 3) := by decide +kernel
theorem d_m_times_84 : decode b_m_times 84 = .ok (.iconst 1, 1) := by decide +kernel
theorem d_m_times_85 : decode b_m_times 85 = .ok (.goto 4, 3) := by decide +kernel
theorem d_m_times_88 : decode b_m_times 88 = .ok (.iconst 0, 1) := by decide +kernel
theorem d_m_times_89 : decode b_m_times 89 = .ok (.iadd, 1) := by decide +kernel
theorem d_m_times_90 : decode b_m_times 90 = .ok (.istore 4, 2) := by decide +kernel
theorem d_m_times_92 : decode b_m_times 92 = .ok (.iinc 5 1, 3) := by decide +kernel
theorem d_m_times_95 : decode b_m_times 95 = .ok (.goto (-89), 3) := by decide +kernel
theorem d_m_times_98 : decode b_m_times 98 = .ok (.iload 4, 2) := by decide +kernel
theorem d_m_times_100 : decode b_m_times 100 = .ok (.ireturn, 1) := by decide +kernel
abbrev b_m_alike : ByteArray := prog_14_method_72_code
abbrev y_m_alike : MethodName := ⟨"WhoRulesModel", "alike", "(III)I"⟩
theorem d_m_alike_0 : decode b_m_alike 0 = .ok (.aload_n 0, 1) := by decide +kernel
theorem d_m_alike_1 : decode b_m_alike 1 = .ok (.iload_n 1, 1) := by decide +kernel
theorem d_m_alike_2 : decode b_m_alike 2 = .ok (.invokevirtual 250, 3) := by decide +kernel
theorem d_m_alike_5 : decode b_m_alike 5 = .ok (.ifCond .eq 21, 3) := by decide +kernel
theorem d_m_alike_8 : decode b_m_alike 8 = .ok (.aload_n 0, 1) := by decide +kernel
theorem d_m_alike_9 : decode b_m_alike 9 = .ok (.iload_n 2, 1) := by decide +kernel
theorem d_m_alike_10 : decode b_m_alike 10 = .ok (.invokevirtual 250, 3) := by decide +kernel
theorem d_m_alike_13 : decode b_m_alike 13 = .ok (.ifCond .eq 13, 3) := by decide +kernel
theorem d_m_alike_16 : decode b_m_alike 16 = .ok (.aload_n 0, 1) := by decide +kernel
theorem d_m_alike_17 : decode b_m_alike 17 = .ok (.iload_n 3, 1) := by decide +kernel
theorem d_m_alike_18 : decode b_m_alike 18 = .ok (.iconst 0, 1) := by decide +kernel
theorem d_m_alike_19 : decode b_m_alike 19 = .ok (.iconst 1, 1) := by decide +kernel
theorem d_m_alike_20 : decode b_m_alike 20 = .ok (.invokevirtual 246, 3) := by decide +kernel
theorem d_m_alike_23 : decode b_m_alike 23 = .ok (.ifCond .ne 5, 3) := by decide +kernel
theorem d_m_alike_26 : decode b_m_alike 26 = .ok (.iconst (-1), 1) := by decide +kernel
theorem d_m_alike_27 : decode b_m_alike 27 = .ok (.ireturn, 1) := by decide +kernel
theorem d_m_alike_28 : decode b_m_alike 28 = .ok (.iload_n 1, 1) := by decide +kernel
theorem d_m_alike_29 : decode b_m_alike 29 = .ok (.iload_n 2, 1) := by decide +kernel
theorem d_m_alike_30 : decode b_m_alike 30 = .ok (.if_icmp .ne 8, 3) := by decide +kernel
theorem d_m_alike_33 : decode b_m_alike 33 = .ok (.bipush (-2), 2) := by decide +kernel
theorem d_m_alike_35 : decode b_m_alike 35 = .ok (.goto 18, 3) := by decide +kernel
theorem d_m_alike_38 : decode b_m_alike 38 = .ok (.aload_n 0, 1) := by decide +kernel
theorem d_m_alike_39 : decode b_m_alike 39 = .ok (.iload_n 1, 1) := by decide +kernel
theorem d_m_alike_40 : decode b_m_alike 40 = .ok (.iload_n 2, 1) := by decide +kernel
theorem d_m_alike_41 : decode b_m_alike 41 = .ok (.iload_n 3, 1) := by decide +kernel
theorem d_m_alike_42 : decode b_m_alike 42 = .ok (.ifCond .ne 7, 3) := by decide +kernel
theorem d_m_alike_45 : decode b_m_alike 45 = .ok (.iconst 1, 1) := by decide +kernel
theorem d_m_alike_46 : decode b_m_alike 46 = .ok (.goto 4, 3) := by decide +kernel
theorem d_m_alike_49 : decode b_m_alike 49 = .ok (.iconst 0, 1) := by decide +kernel
theorem d_m_alike_50 : decode b_m_alike 50 = .ok (.invokevirtual 407, 3) := by decide +kernel
theorem d_m_alike_53 : decode b_m_alike 53 = .ok (.ireturn, 1) := by decide +kernel
abbrev b_m_isPerson : ByteArray := prog_14_method_73_code
abbrev y_m_isPerson : MethodName := ⟨"WhoRulesModel", "isPerson", "(I)Z"⟩
theorem d_m_isPerson_0 : decode b_m_isPerson 0 = .ok (.aload_n 0, 1) := by decide +kernel
theorem d_m_isPerson_1 : decode b_m_isPerson 1 = .ok (.getfield 25, 3) := by decide +kernel
theorem d_m_isPerson_4 : decode b_m_isPerson 4 = .ok (.iload_n 1, 1) := by decide +kernel
theorem d_m_isPerson_5 : decode b_m_isPerson 5 = .ok (.iaload, 1) := by decide +kernel
theorem d_m_isPerson_6 : decode b_m_isPerson 6 = .ok (.iconst 2, 1) := by decide +kernel
theorem d_m_isPerson_7 : decode b_m_isPerson 7 = .ok (.if_icmp .eq 13, 3) := by decide +kernel
theorem d_m_isPerson_10 : decode b_m_isPerson 10 = .ok (.aload_n 0, 1) := by decide +kernel
theorem d_m_isPerson_11 : decode b_m_isPerson 11 = .ok (.getfield 25, 3) := by decide +kernel
theorem d_m_isPerson_14 : decode b_m_isPerson 14 = .ok (.iload_n 1, 1) := by decide +kernel
theorem d_m_isPerson_15 : decode b_m_isPerson 15 = .ok (.iaload, 1) := by decide +kernel
theorem d_m_isPerson_16 : decode b_m_isPerson 16 = .ok (.iconst 3, 1) := by decide +kernel
theorem d_m_isPerson_17 : decode b_m_isPerson 17 = .ok (.if_icmp .ne 7, 3) := by decide +kernel
theorem d_m_isPerson_20 : decode b_m_isPerson 20 = .ok (.iconst 1, 1) := by decide +kernel
theorem d_m_isPerson_21 : decode b_m_isPerson 21 = .ok (.goto 4, 3) := by decide +kernel
theorem d_m_isPerson_24 : decode b_m_isPerson 24 = .ok (.iconst 0, 1) := by decide +kernel
theorem d_m_isPerson_25 : decode b_m_isPerson 25 = .ok (.ireturn, 1) := by decide +kernel
abbrev b_m_found : ByteArray := prog_14_method_74_code
abbrev y_m_found : MethodName := ⟨"WhoRulesModel", "found", "(I)I"⟩
theorem d_m_found_0 : decode b_m_found 0 = .ok (.aload_n 0, 1) := by decide +kernel
theorem d_m_found_1 : decode b_m_found 1 = .ok (.iload_n 1, 1) := by decide +kernel
theorem d_m_found_2 : decode b_m_found 2 = .ok (.iconst 1, 1) := by decide +kernel
theorem d_m_found_3 : decode b_m_found 3 = .ok (.bipush 30, 2) := by decide +kernel
theorem d_m_found_5 : decode b_m_found 5 = .ok (.invokevirtual 246, 3) := by decide +kernel
theorem d_m_found_8 : decode b_m_found 8 = .ok (.ifCond .ne 6, 3) := by decide +kernel
theorem d_m_found_11 : decode b_m_found 11 = .ok (.bipush (-2), 2) := by decide +kernel
theorem d_m_found_13 : decode b_m_found 13 = .ok (.ireturn, 1) := by decide +kernel
theorem d_m_found_14 : decode b_m_found 14 = .ok (.iconst 0, 1) := by decide +kernel
theorem d_m_found_15 : decode b_m_found 15 = .ok (.istore_n 2, 1) := by decide +kernel
theorem d_m_found_16 : decode b_m_found 16 = .ok (.iload_n 2, 1) := by decide +kernel
theorem d_m_found_17 : decode b_m_found 17 = .ok (.aload_n 0, 1) := by decide +kernel
theorem d_m_found_18 : decode b_m_found 18 = .ok (.getfield 13, 3) := by decide +kernel
theorem d_m_found_21 : decode b_m_found 21 = .ok (.if_icmp .ge 16, 3) := by decide +kernel
theorem d_m_found_24 : decode b_m_found 24 = .ok (.aload_n 0, 1) := by decide +kernel
theorem d_m_found_25 : decode b_m_found 25 = .ok (.getfield 213, 3) := by decide +kernel
theorem d_m_found_28 : decode b_m_found 28 = .ok (.iload_n 2, 1) := by decide +kernel
theorem d_m_found_29 : decode b_m_found 29 = .ok (.iload_n 2, 1) := by decide +kernel
theorem d_m_found_30 : decode b_m_found 30 = .ok (.iastore, 1) := by decide +kernel
theorem d_m_found_31 : decode b_m_found 31 = .ok (.iinc 2 1, 3) := by decide +kernel
theorem d_m_found_34 : decode b_m_found 34 = .ok (.goto (-18), 3) := by decide +kernel
theorem d_m_found_37 : decode b_m_found 37 = .ok (.iconst 1, 1) := by decide +kernel
theorem d_m_found_38 : decode b_m_found 38 = .ok (.istore_n 2, 1) := by decide +kernel
theorem d_m_found_39 : decode b_m_found 39 = .ok (.iload_n 2, 1) := by decide +kernel
theorem d_m_found_40 : decode b_m_found 40 = .ok (.ifCond .eq 122, 3) := by decide +kernel
theorem d_m_found_43 : decode b_m_found 43 = .ok (.iconst 0, 1) := by decide +kernel
theorem d_m_found_44 : decode b_m_found 44 = .ok (.istore_n 2, 1) := by decide +kernel
theorem d_m_found_45 : decode b_m_found 45 = .ok (.iconst 0, 1) := by decide +kernel
theorem d_m_found_46 : decode b_m_found 46 = .ok (.istore_n 3, 1) := by decide +kernel
theorem d_m_found_47 : decode b_m_found 47 = .ok (.iload_n 3, 1) := by decide +kernel
theorem d_m_found_48 : decode b_m_found 48 = .ok (.aload_n 0, 1) := by decide +kernel
theorem d_m_found_49 : decode b_m_found 49 = .ok (.getfield 13, 3) := by decide +kernel
theorem d_m_found_52 : decode b_m_found 52 = .ok (.if_icmp .ge 107, 3) := by decide +kernel
theorem d_m_found_55 : decode b_m_found 55 = .ok (.iconst 0, 1) := by decide +kernel
theorem d_m_found_56 : decode b_m_found 56 = .ok (.istore 4, 2) := by decide +kernel
theorem d_m_found_58 : decode b_m_found 58 = .ok (.iload 4, 2) := by decide +kernel
theorem d_m_found_60 : decode b_m_found 60 = .ok (.aload_n 0, 1) := by decide +kernel
theorem d_m_found_61 : decode b_m_found 61 = .ok (.getfield 13, 3) := by decide +kernel
theorem d_m_found_64 : decode b_m_found 64 = .ok (.if_icmp .ge 89, 3) := by decide +kernel
theorem d_m_found_67 : decode b_m_found 67 = .ok (.iload_n 3, 1) := by decide +kernel
theorem d_m_found_68 : decode b_m_found 68 = .ok (.iload 4, 2) := by decide +kernel
theorem d_m_found_70 : decode b_m_found 70 = .ok (.if_icmp .eq 77, 3) := by decide +kernel
theorem d_m_found_73 : decode b_m_found 73 = .ok (.aload_n 0, 1) := by decide +kernel
theorem d_m_found_74 : decode b_m_found 74 = .ok (.iload_n 3, 1) := by decide +kernel
theorem d_m_found_75 : decode b_m_found 75 = .ok (.invokevirtual 411, 3) := by decide +kernel
theorem d_m_found_78 : decode b_m_found 78 = .ok (.ifCond .eq 69, 3) := by decide +kernel
theorem d_m_found_81 : decode b_m_found 81 = .ok (.aload_n 0, 1) := by decide +kernel
theorem d_m_found_82 : decode b_m_found 82 = .ok (.iload 4, 2) := by decide +kernel
theorem d_m_found_84 : decode b_m_found 84 = .ok (.invokevirtual 411, 3) := by decide +kernel
theorem d_m_found_87 : decode b_m_found 87 = .ok (.ifCond .eq 60, 3) := by decide +kernel
theorem d_m_found_90 : decode b_m_found 90 = .ok (.aload_n 0, 1) := by decide +kernel
theorem d_m_found_91 : decode b_m_found 91 = .ok (.getfield 213, 3) := by decide +kernel
theorem d_m_found_94 : decode b_m_found 94 = .ok (.iload 4, 2) := by decide +kernel
theorem d_m_found_96 : decode b_m_found 96 = .ok (.iaload, 1) := by decide +kernel
theorem d_m_found_97 : decode b_m_found 97 = .ok (.aload_n 0, 1) := by decide +kernel
theorem d_m_found_98 : decode b_m_found 98 = .ok (.getfield 213, 3) := by decide +kernel
theorem d_m_found_101 : decode b_m_found 101 = .ok (.iload_n 3, 1) := by decide +kernel
theorem d_m_found_102 : decode b_m_found 102 = .ok (.iaload, 1) := by decide +kernel
theorem d_m_found_103 : decode b_m_found 103 = .ok (.if_icmp .le 44, 3) := by decide +kernel
theorem d_m_found_106 : decode b_m_found 106 = .ok (.aload_n 0, 1) := by decide +kernel
theorem d_m_found_107 : decode b_m_found 107 = .ok (.iload_n 3, 1) := by decide +kernel
theorem d_m_found_108 : decode b_m_found 108 = .ok (.iload 4, 2) := by decide +kernel
theorem d_m_found_110 : decode b_m_found 110 = .ok (.iconst 1, 1) := by decide +kernel
theorem d_m_found_111 : decode b_m_found 111 = .ok (.invokevirtual 407, 3) := by decide +kernel
theorem d_m_found_114 : decode b_m_found 114 = .ok (.iload_n 1, 1) := by decide +kernel
theorem d_m_found_115 : decode b_m_found 115 = .ok (.if_icmp .lt 32, 3) := by decide +kernel
theorem d_m_found_118 : decode b_m_found 118 = .ok (.aload_n 0, 1) := by decide +kernel
theorem d_m_found_119 : decode b_m_found 119 = .ok (.iload_n 3, 1) := by decide +kernel
theorem d_m_found_120 : decode b_m_found 120 = .ok (.iload 4, 2) := by decide +kernel
theorem d_m_found_122 : decode b_m_found 122 = .ok (.iconst 0, 1) := by decide +kernel
theorem d_m_found_123 : decode b_m_found 123 = .ok (.invokevirtual 407, 3) := by decide +kernel
theorem d_m_found_126 : decode b_m_found 126 = .ok (.ifCond .le 6, 3) := by decide +kernel
theorem d_m_found_129 : decode b_m_found 129 = .ok (.goto 18, 3) := by decide +kernel
theorem d_m_found_132 : decode b_m_found 132 = .ok (.aload_n 0, 1) := by decide +kernel
theorem d_m_found_133 : decode b_m_found 133 = .ok (.getfield 213, 3) := by decide +kernel
theorem d_m_found_136 : decode b_m_found 136 = .ok (.iload 4, 2) := by decide +kernel
theorem d_m_found_138 : decode b_m_found 138 = .ok (.aload_n 0, 1) := by decide +kernel
theorem d_m_found_139 : decode b_m_found 139 = .ok (.getfield 213, 3) := by decide +kernel
theorem d_m_found_142 : decode b_m_found 142 = .ok (.iload_n 3, 1) := by decide +kernel
theorem d_m_found_143 : decode b_m_found 143 = .ok (.iaload, 1) := by decide +kernel
theorem d_m_found_144 : decode b_m_found 144 = .ok (.iastore, 1) := by decide +kernel
theorem d_m_found_145 : decode b_m_found 145 = .ok (.iconst 1, 1) := by decide +kernel
theorem d_m_found_146 : decode b_m_found 146 = .ok (.istore_n 2, 1) := by decide +kernel
theorem d_m_found_147 : decode b_m_found 147 = .ok (.iinc 4 1, 3) := by decide +kernel
theorem d_m_found_150 : decode b_m_found 150 = .ok (.goto (-92), 3) := by decide +kernel
theorem d_m_found_153 : decode b_m_found 153 = .ok (.iinc 3 1, 3) := by decide +kernel
theorem d_m_found_156 : decode b_m_found 156 = .ok (.goto (-109), 3) := by decide +kernel
theorem d_m_found_159 : decode b_m_found 159 = .ok (.goto (-120), 3) := by decide +kernel
theorem d_m_found_162 : decode b_m_found 162 = .ok (.iconst 0, 1) := by decide +kernel
theorem d_m_found_163 : decode b_m_found 163 = .ok (.istore_n 3, 1) := by decide +kernel
theorem d_m_found_164 : decode b_m_found 164 = .ok (.iconst 0, 1) := by decide +kernel
theorem d_m_found_165 : decode b_m_found 165 = .ok (.istore 4, 2) := by decide +kernel
theorem d_m_found_167 : decode b_m_found 167 = .ok (.iload 4, 2) := by decide +kernel
theorem d_m_found_169 : decode b_m_found 169 = .ok (.aload_n 0, 1) := by decide +kernel
theorem d_m_found_170 : decode b_m_found 170 = .ok (.getfield 13, 3) := by decide +kernel
theorem d_m_found_173 : decode b_m_found 173 = .ok (.if_icmp .ge 66, 3) := by decide +kernel
theorem d_m_found_176 : decode b_m_found 176 = .ok (.iconst 0, 1) := by decide +kernel
theorem d_m_found_177 : decode b_m_found 177 = .ok (.istore 5, 2) := by decide +kernel
theorem d_m_found_179 : decode b_m_found 179 = .ok (.iconst 0, 1) := by decide +kernel
theorem d_m_found_180 : decode b_m_found 180 = .ok (.istore 6, 2) := by decide +kernel
theorem d_m_found_182 : decode b_m_found 182 = .ok (.iload 6, 2) := by decide +kernel
theorem d_m_found_184 : decode b_m_found 184 = .ok (.aload_n 0, 1) := by decide +kernel
theorem d_m_found_185 : decode b_m_found 185 = .ok (.getfield 13, 3) := by decide +kernel
theorem d_m_found_188 : decode b_m_found 188 = .ok (.if_icmp .ge 31, 3) := by decide +kernel
theorem d_m_found_191 : decode b_m_found 191 = .ok (.iload 5, 2) := by decide +kernel
theorem d_m_found_193 : decode b_m_found 193 = .ok (.aload_n 0, 1) := by decide +kernel
theorem d_m_found_194 : decode b_m_found 194 = .ok (.getfield 213, 3) := by decide +kernel
theorem d_m_found_197 : decode b_m_found 197 = .ok (.iload 6, 2) := by decide +kernel
theorem d_m_found_199 : decode b_m_found 199 = .ok (.iaload, 1) := by decide +kernel
theorem d_m_found_200 : decode b_m_found 200 = .ok (.iload 4, 2) := by decide +kernel
theorem d_m_found_202 : decode b_m_found 202 = .ok (.if_icmp .ne 7, 3) := by decide +kernel
theorem d_m_found_205 : decode b_m_found 205 = .ok (.iconst 1, 1) := by decide +kernel
theorem d_m_found_206 : decode b_m_found 206 = .ok (.goto 4, 3) := by decide +kernel
theorem d_m_found_209 : decode b_m_found 209 = .ok (.iconst 0, 1) := by decide +kernel
theorem d_m_found_210 : decode b_m_found 210 = .ok (.iadd, 1) := by decide +kernel
theorem d_m_found_211 : decode b_m_found 211 = .ok (.istore 5, 2) := by decide +kernel
theorem d_m_found_213 : decode b_m_found 213 = .ok (.iinc 6 1, 3) := by decide +kernel
theorem d_m_found_216 : decode b_m_found 216 = .ok (.goto (-34), 3) := by decide +kernel
theorem d_m_found_219 : decode b_m_found 219 = .ok (.iload_n 3, 1) := by decide +kernel
theorem d_m_found_220 : decode b_m_found 220 = .ok (.iload 5, 2) := by decide +kernel
theorem d_m_found_222 : decode b_m_found 222 = .ok (.iconst 1, 1) := by decide +kernel
theorem d_m_found_223 : decode b_m_found 223 = .ok (.if_icmp .le 7, 3) := by decide +kernel
theorem d_m_found_226 : decode b_m_found 226 = .ok (.iconst 1, 1) := by decide +kernel
theorem d_m_found_227 : decode b_m_found 227 = .ok (.goto 4, 3) := by decide +kernel
theorem d_m_found_230 : decode b_m_found 230 = .ok (.iconst 0, 1) := by decide +kernel
theorem d_m_found_231 : decode b_m_found 231 = .ok (.iadd, 1) := by decide +kernel
theorem d_m_found_232 : decode b_m_found 232 = .ok (.istore_n 3, 1) := by decide +kernel
theorem d_m_found_233 : decode b_m_found 233 = .ok (.iinc 4 1, 3) := by decide +kernel
theorem d_m_found_236 : decode b_m_found 236 = .ok (.goto (-69), 3) := by decide +kernel
theorem d_m_found_239 : decode b_m_found 239 = .ok (.iload_n 3, 1) := by decide +kernel
theorem d_m_found_240 : decode b_m_found 240 = .ok (.ireturn, 1) := by decide +kernel
abbrev b_m_findInto : ByteArray := prog_14_method_75_code
abbrev y_m_findInto : MethodName := ⟨"WhoRulesModel", "findInto", "()V"⟩
theorem d_m_findInto_0 : decode b_m_findInto 0 = .ok (.iconst 0, 1) := by decide +kernel
theorem d_m_findInto_1 : decode b_m_findInto 1 = .ok (.istore_n 1, 1) := by decide +kernel
theorem d_m_findInto_2 : decode b_m_findInto 2 = .ok (.iload_n 1, 1) := by decide +kernel
theorem d_m_findInto_3 : decode b_m_findInto 3 = .ok (.bipush 16, 2) := by decide +kernel
theorem d_m_findInto_5 : decode b_m_findInto 5 = .ok (.if_icmp .ge 16, 3) := by decide +kernel
theorem d_m_findInto_8 : decode b_m_findInto 8 = .ok (.aload_n 0, 1) := by decide +kernel
theorem d_m_findInto_9 : decode b_m_findInto 9 = .ok (.getfield 216, 3) := by decide +kernel
theorem d_m_findInto_12 : decode b_m_findInto 12 = .ok (.iload_n 1, 1) := by decide +kernel
theorem d_m_findInto_13 : decode b_m_findInto 13 = .ok (.iconst 0, 1) := by decide +kernel
theorem d_m_findInto_14 : decode b_m_findInto 14 = .ok (.iastore, 1) := by decide +kernel
theorem d_m_findInto_15 : decode b_m_findInto 15 = .ok (.iinc 1 1, 3) := by decide +kernel
theorem d_m_findInto_18 : decode b_m_findInto 18 = .ok (.goto (-16), 3) := by decide +kernel
theorem d_m_findInto_21 : decode b_m_findInto 21 = .ok (.iconst 0, 1) := by decide +kernel
theorem d_m_findInto_22 : decode b_m_findInto 22 = .ok (.istore_n 1, 1) := by decide +kernel
theorem d_m_findInto_23 : decode b_m_findInto 23 = .ok (.iload_n 1, 1) := by decide +kernel
theorem d_m_findInto_24 : decode b_m_findInto 24 = .ok (.aload_n 0, 1) := by decide +kernel
theorem d_m_findInto_25 : decode b_m_findInto 25 = .ok (.getfield 19, 3) := by decide +kernel
theorem d_m_findInto_28 : decode b_m_findInto 28 = .ok (.if_icmp .ge 64, 3) := by decide +kernel
theorem d_m_findInto_31 : decode b_m_findInto 31 = .ok (.aload_n 0, 1) := by decide +kernel
theorem d_m_findInto_32 : decode b_m_findInto 32 = .ok (.getfield 38, 3) := by decide +kernel
theorem d_m_findInto_35 : decode b_m_findInto 35 = .ok (.iload_n 1, 1) := by decide +kernel
theorem d_m_findInto_36 : decode b_m_findInto 36 = .ok (.iaload, 1) := by decide +kernel
theorem d_m_findInto_37 : decode b_m_findInto 37 = .ok (.ifCond .le 49, 3) := by decide +kernel
theorem d_m_findInto_40 : decode b_m_findInto 40 = .ok (.aload_n 0, 1) := by decide +kernel
theorem d_m_findInto_41 : decode b_m_findInto 41 = .ok (.getfield 130, 3) := by decide +kernel
theorem d_m_findInto_44 : decode b_m_findInto 44 = .ok (.iload_n 1, 1) := by decide +kernel
theorem d_m_findInto_45 : decode b_m_findInto 45 = .ok (.iaload, 1) := by decide +kernel
theorem d_m_findInto_46 : decode b_m_findInto 46 = .ok (.ifCond .lt 40, 3) := by decide +kernel
theorem d_m_findInto_49 : decode b_m_findInto 49 = .ok (.aload_n 0, 1) := by decide +kernel
theorem d_m_findInto_50 : decode b_m_findInto 50 = .ok (.getfield 25, 3) := by decide +kernel
theorem d_m_findInto_53 : decode b_m_findInto 53 = .ok (.aload_n 0, 1) := by decide +kernel
theorem d_m_findInto_54 : decode b_m_findInto 54 = .ok (.getfield 130, 3) := by decide +kernel
theorem d_m_findInto_57 : decode b_m_findInto 57 = .ok (.iload_n 1, 1) := by decide +kernel
theorem d_m_findInto_58 : decode b_m_findInto 58 = .ok (.iaload, 1) := by decide +kernel
theorem d_m_findInto_59 : decode b_m_findInto 59 = .ok (.iaload, 1) := by decide +kernel
theorem d_m_findInto_60 : decode b_m_findInto 60 = .ok (.iconst 1, 1) := by decide +kernel
theorem d_m_findInto_61 : decode b_m_findInto 61 = .ok (.if_icmp .ne 25, 3) := by decide +kernel
theorem d_m_findInto_64 : decode b_m_findInto 64 = .ok (.aload_n 0, 1) := by decide +kernel
theorem d_m_findInto_65 : decode b_m_findInto 65 = .ok (.getfield 216, 3) := by decide +kernel
theorem d_m_findInto_68 : decode b_m_findInto 68 = .ok (.aload_n 0, 1) := by decide +kernel
theorem d_m_findInto_69 : decode b_m_findInto 69 = .ok (.getfield 130, 3) := by decide +kernel
theorem d_m_findInto_72 : decode b_m_findInto 72 = .ok (.iload_n 1, 1) := by decide +kernel
theorem d_m_findInto_73 : decode b_m_findInto 73 = .ok (.iaload, 1) := by decide +kernel
theorem d_m_findInto_74 : decode b_m_findInto 74 = .ok (.dup2, 1) := by decide +kernel
theorem d_m_findInto_75 : decode b_m_findInto 75 = .ok (.iaload, 1) := by decide +kernel
theorem d_m_findInto_76 : decode b_m_findInto 76 = .ok (.iconst 1, 1) := by decide +kernel
theorem d_m_findInto_77 : decode b_m_findInto 77 = .ok (.aload_n 0, 1) := by decide +kernel
theorem d_m_findInto_78 : decode b_m_findInto 78 = .ok (.getfield 32, 3) := by decide +kernel
theorem d_m_findInto_81 : decode b_m_findInto 81 = .ok (.iload_n 1, 1) := by decide +kernel
theorem d_m_findInto_82 : decode b_m_findInto 82 = .ok (.iaload, 1) := by decide +kernel
theorem d_m_findInto_83 : decode b_m_findInto 83 = .ok (.ishl, 1) := by decide +kernel
theorem d_m_findInto_84 : decode b_m_findInto 84 = .ok (.ior, 1) := by decide +kernel
theorem d_m_findInto_85 : decode b_m_findInto 85 = .ok (.iastore, 1) := by decide +kernel
theorem d_m_findInto_86 : decode b_m_findInto 86 = .ok (.iinc 1 1, 3) := by decide +kernel
theorem d_m_findInto_89 : decode b_m_findInto 89 = .ok (.goto (-66), 3) := by decide +kernel
theorem d_m_findInto_92 : decode b_m_findInto 92 = .ok (.return_, 1) := by decide +kernel
abbrev b_m_around : ByteArray := prog_14_method_76_code
abbrev y_m_around : MethodName := ⟨"WhoRulesModel", "around", "(I)I"⟩
theorem d_m_around_0 : decode b_m_around 0 = .ok (.iconst 0, 1) := by decide +kernel
theorem d_m_around_1 : decode b_m_around 1 = .ok (.istore_n 2, 1) := by decide +kernel
theorem d_m_around_2 : decode b_m_around 2 = .ok (.iload_n 2, 1) := by decide +kernel
theorem d_m_around_3 : decode b_m_around 3 = .ok (.bipush 16, 2) := by decide +kernel
theorem d_m_around_5 : decode b_m_around 5 = .ok (.if_icmp .ge 17, 3) := by decide +kernel
theorem d_m_around_8 : decode b_m_around 8 = .ok (.aload_n 0, 1) := by decide +kernel
theorem d_m_around_9 : decode b_m_around 9 = .ok (.getfield 219, 3) := by decide +kernel
theorem d_m_around_12 : decode b_m_around 12 = .ok (.iload_n 2, 1) := by decide +kernel
theorem d_m_around_13 : decode b_m_around 13 = .ok (.bipush 99, 2) := by decide +kernel
theorem d_m_around_15 : decode b_m_around 15 = .ok (.iastore, 1) := by decide +kernel
theorem d_m_around_16 : decode b_m_around 16 = .ok (.iinc 2 1, 3) := by decide +kernel
theorem d_m_around_19 : decode b_m_around 19 = .ok (.goto (-17), 3) := by decide +kernel
theorem d_m_around_22 : decode b_m_around 22 = .ok (.aload_n 0, 1) := by decide +kernel
theorem d_m_around_23 : decode b_m_around 23 = .ok (.getfield 216, 3) := by decide +kernel
theorem d_m_around_26 : decode b_m_around 26 = .ok (.iload_n 1, 1) := by decide +kernel
theorem d_m_around_27 : decode b_m_around 27 = .ok (.iaload, 1) := by decide +kernel
theorem d_m_around_28 : decode b_m_around 28 = .ok (.iload_n 1, 1) := by decide +kernel
theorem d_m_around_29 : decode b_m_around 29 = .ok (.ishr, 1) := by decide +kernel
theorem d_m_around_30 : decode b_m_around 30 = .ok (.iconst 1, 1) := by decide +kernel
theorem d_m_around_31 : decode b_m_around 31 = .ok (.iand, 1) := by decide +kernel
theorem d_m_around_32 : decode b_m_around 32 = .ok (.iconst 1, 1) := by decide +kernel
theorem d_m_around_33 : decode b_m_around 33 = .ok (.if_icmp .ne 7, 3) := by decide +kernel
theorem d_m_around_36 : decode b_m_around 36 = .ok (.iconst 1, 1) := by decide +kernel
theorem d_m_around_37 : decode b_m_around 37 = .ok (.goto 5, 3) := by decide +kernel
theorem d_m_around_40 : decode b_m_around 40 = .ok (.bipush 99, 2) := by decide +kernel
theorem d_m_around_42 : decode b_m_around 42 = .ok (.istore_n 2, 1) := by decide +kernel
theorem d_m_around_43 : decode b_m_around 43 = .ok (.iconst 1, 1) := by decide +kernel
theorem d_m_around_44 : decode b_m_around 44 = .ok (.istore_n 3, 1) := by decide +kernel
theorem d_m_around_45 : decode b_m_around 45 = .ok (.iload_n 3, 1) := by decide +kernel
theorem d_m_around_46 : decode b_m_around 46 = .ok (.bipush 8, 2) := by decide +kernel
theorem d_m_around_48 : decode b_m_around 48 = .ok (.if_icmp .ge 119, 3) := by decide +kernel
theorem d_m_around_51 : decode b_m_around 51 = .ok (.iload_n 1, 1) := by decide +kernel
theorem d_m_around_52 : decode b_m_around 52 = .ok (.iconst 1, 1) := by decide +kernel
theorem d_m_around_53 : decode b_m_around 53 = .ok (.iadd, 1) := by decide +kernel
theorem d_m_around_54 : decode b_m_around 54 = .ok (.istore 4, 2) := by decide +kernel
theorem d_m_around_56 : decode b_m_around 56 = .ok (.iload 4, 2) := by decide +kernel
theorem d_m_around_58 : decode b_m_around 58 = .ok (.aload_n 0, 1) := by decide +kernel
theorem d_m_around_59 : decode b_m_around 59 = .ok (.getfield 13, 3) := by decide +kernel
theorem d_m_around_62 : decode b_m_around 62 = .ok (.if_icmp .ge 99, 3) := by decide +kernel
theorem d_m_around_65 : decode b_m_around 65 = .ok (.aload_n 0, 1) := by decide +kernel
theorem d_m_around_66 : decode b_m_around 66 = .ok (.getfield 219, 3) := by decide +kernel
theorem d_m_around_69 : decode b_m_around 69 = .ok (.iload 4, 2) := by decide +kernel
theorem d_m_around_71 : decode b_m_around 71 = .ok (.iaload, 1) := by decide +kernel
theorem d_m_around_72 : decode b_m_around 72 = .ok (.bipush 99, 2) := by decide +kernel
theorem d_m_around_74 : decode b_m_around 74 = .ok (.if_icmp .eq 6, 3) := by decide +kernel
theorem d_m_around_77 : decode b_m_around 77 = .ok (.goto 78, 3) := by decide +kernel
theorem d_m_around_80 : decode b_m_around 80 = .ok (.iload_n 1, 1) := by decide +kernel
theorem d_m_around_81 : decode b_m_around 81 = .ok (.istore 5, 2) := by decide +kernel
theorem d_m_around_83 : decode b_m_around 83 = .ok (.iload 5, 2) := by decide +kernel
theorem d_m_around_85 : decode b_m_around 85 = .ok (.aload_n 0, 1) := by decide +kernel
theorem d_m_around_86 : decode b_m_around 86 = .ok (.getfield 13, 3) := by decide +kernel
theorem d_m_around_89 : decode b_m_around 89 = .ok (.if_icmp .ge 66, 3) := by decide +kernel
theorem d_m_around_92 : decode b_m_around 92 = .ok (.aload_n 0, 1) := by decide +kernel
theorem d_m_around_93 : decode b_m_around 93 = .ok (.getfield 216, 3) := by decide +kernel
theorem d_m_around_96 : decode b_m_around 96 = .ok (.iload 4, 2) := by decide +kernel
theorem d_m_around_98 : decode b_m_around 98 = .ok (.iaload, 1) := by decide +kernel
theorem d_m_around_99 : decode b_m_around 99 = .ok (.iload 5, 2) := by decide +kernel
theorem d_m_around_101 : decode b_m_around 101 = .ok (.ishr, 1) := by decide +kernel
theorem d_m_around_102 : decode b_m_around 102 = .ok (.iconst 1, 1) := by decide +kernel
theorem d_m_around_103 : decode b_m_around 103 = .ok (.iand, 1) := by decide +kernel
theorem d_m_around_104 : decode b_m_around 104 = .ok (.iconst 1, 1) := by decide +kernel
theorem d_m_around_105 : decode b_m_around 105 = .ok (.if_icmp .ne 44, 3) := by decide +kernel
theorem d_m_around_108 : decode b_m_around 108 = .ok (.iload_n 3, 1) := by decide +kernel
theorem d_m_around_109 : decode b_m_around 109 = .ok (.iconst 1, 1) := by decide +kernel
theorem d_m_around_110 : decode b_m_around 110 = .ok (.if_icmp .ne 12, 3) := by decide +kernel
theorem d_m_around_113 : decode b_m_around 113 = .ok (.iload 5, 2) := by decide +kernel
theorem d_m_around_115 : decode b_m_around 115 = .ok (.iload_n 1, 1) := by decide +kernel
theorem d_m_around_116 : decode b_m_around 116 = .ok (.if_icmp .ne 33, 3) := by decide +kernel
theorem d_m_around_119 : decode b_m_around 119 = .ok (.goto 22, 3) := by decide +kernel
theorem d_m_around_122 : decode b_m_around 122 = .ok (.iload 5, 2) := by decide +kernel
theorem d_m_around_124 : decode b_m_around 124 = .ok (.iload_n 1, 1) := by decide +kernel
theorem d_m_around_125 : decode b_m_around 125 = .ok (.if_icmp .le 24, 3) := by decide +kernel
theorem d_m_around_128 : decode b_m_around 128 = .ok (.aload_n 0, 1) := by decide +kernel
theorem d_m_around_129 : decode b_m_around 129 = .ok (.getfield 219, 3) := by decide +kernel
theorem d_m_around_132 : decode b_m_around 132 = .ok (.iload 5, 2) := by decide +kernel
theorem d_m_around_134 : decode b_m_around 134 = .ok (.iaload, 1) := by decide +kernel
theorem d_m_around_135 : decode b_m_around 135 = .ok (.iload_n 3, 1) := by decide +kernel
theorem d_m_around_136 : decode b_m_around 136 = .ok (.iconst 1, 1) := by decide +kernel
theorem d_m_around_137 : decode b_m_around 137 = .ok (.isub, 1) := by decide +kernel
theorem d_m_around_138 : decode b_m_around 138 = .ok (.if_icmp .ne 11, 3) := by decide +kernel
theorem d_m_around_141 : decode b_m_around 141 = .ok (.aload_n 0, 1) := by decide +kernel
theorem d_m_around_142 : decode b_m_around 142 = .ok (.getfield 219, 3) := by decide +kernel
theorem d_m_around_145 : decode b_m_around 145 = .ok (.iload 4, 2) := by decide +kernel
theorem d_m_around_147 : decode b_m_around 147 = .ok (.iload_n 3, 1) := by decide +kernel
theorem d_m_around_148 : decode b_m_around 148 = .ok (.iastore, 1) := by decide +kernel
theorem d_m_around_149 : decode b_m_around 149 = .ok (.iinc 5 1, 3) := by decide +kernel
theorem d_m_around_152 : decode b_m_around 152 = .ok (.goto (-69), 3) := by decide +kernel
theorem d_m_around_155 : decode b_m_around 155 = .ok (.iinc 4 1, 3) := by decide +kernel
theorem d_m_around_158 : decode b_m_around 158 = .ok (.goto (-102), 3) := by decide +kernel
theorem d_m_around_161 : decode b_m_around 161 = .ok (.iinc 3 1, 3) := by decide +kernel
theorem d_m_around_164 : decode b_m_around 164 = .ok (.goto (-119), 3) := by decide +kernel
theorem d_m_around_167 : decode b_m_around 167 = .ok (.iload_n 1, 1) := by decide +kernel
theorem d_m_around_168 : decode b_m_around 168 = .ok (.iconst 1, 1) := by decide +kernel
theorem d_m_around_169 : decode b_m_around 169 = .ok (.iadd, 1) := by decide +kernel
theorem d_m_around_170 : decode b_m_around 170 = .ok (.istore_n 3, 1) := by decide +kernel
theorem d_m_around_171 : decode b_m_around 171 = .ok (.iload_n 3, 1) := by decide +kernel
theorem d_m_around_172 : decode b_m_around 172 = .ok (.aload_n 0, 1) := by decide +kernel
theorem d_m_around_173 : decode b_m_around 173 = .ok (.getfield 13, 3) := by decide +kernel
theorem d_m_around_176 : decode b_m_around 176 = .ok (.if_icmp .ge 44, 3) := by decide +kernel
theorem d_m_around_179 : decode b_m_around 179 = .ok (.aload_n 0, 1) := by decide +kernel
theorem d_m_around_180 : decode b_m_around 180 = .ok (.getfield 216, 3) := by decide +kernel
theorem d_m_around_183 : decode b_m_around 183 = .ok (.iload_n 1, 1) := by decide +kernel
theorem d_m_around_184 : decode b_m_around 184 = .ok (.iaload, 1) := by decide +kernel
theorem d_m_around_185 : decode b_m_around 185 = .ok (.iload_n 3, 1) := by decide +kernel
theorem d_m_around_186 : decode b_m_around 186 = .ok (.ishr, 1) := by decide +kernel
theorem d_m_around_187 : decode b_m_around 187 = .ok (.iconst 1, 1) := by decide +kernel
theorem d_m_around_188 : decode b_m_around 188 = .ok (.iand, 1) := by decide +kernel
theorem d_m_around_189 : decode b_m_around 189 = .ok (.iconst 1, 1) := by decide +kernel
theorem d_m_around_190 : decode b_m_around 190 = .ok (.if_icmp .ne 24, 3) := by decide +kernel
theorem d_m_around_193 : decode b_m_around 193 = .ok (.aload_n 0, 1) := by decide +kernel
theorem d_m_around_194 : decode b_m_around 194 = .ok (.getfield 219, 3) := by decide +kernel
theorem d_m_around_197 : decode b_m_around 197 = .ok (.iload_n 3, 1) := by decide +kernel
theorem d_m_around_198 : decode b_m_around 198 = .ok (.iaload, 1) := by decide +kernel
theorem d_m_around_199 : decode b_m_around 199 = .ok (.iconst 1, 1) := by decide +kernel
theorem d_m_around_200 : decode b_m_around 200 = .ok (.iadd, 1) := by decide +kernel
theorem d_m_around_201 : decode b_m_around 201 = .ok (.iload_n 2, 1) := by decide +kernel
theorem d_m_around_202 : decode b_m_around 202 = .ok (.if_icmp .ge 12, 3) := by decide +kernel
theorem d_m_around_205 : decode b_m_around 205 = .ok (.aload_n 0, 1) := by decide +kernel
theorem d_m_around_206 : decode b_m_around 206 = .ok (.getfield 219, 3) := by decide +kernel
theorem d_m_around_209 : decode b_m_around 209 = .ok (.iload_n 3, 1) := by decide +kernel
theorem d_m_around_210 : decode b_m_around 210 = .ok (.iaload, 1) := by decide +kernel
theorem d_m_around_211 : decode b_m_around 211 = .ok (.iconst 1, 1) := by decide +kernel
theorem d_m_around_212 : decode b_m_around 212 = .ok (.iadd, 1) := by decide +kernel
theorem d_m_around_213 : decode b_m_around 213 = .ok (.istore_n 2, 1) := by decide +kernel
theorem d_m_around_214 : decode b_m_around 214 = .ok (.iinc 3 1, 3) := by decide +kernel
theorem d_m_around_217 : decode b_m_around 217 = .ok (.goto (-46), 3) := by decide +kernel
theorem d_m_around_220 : decode b_m_around 220 = .ok (.iload_n 2, 1) := by decide +kernel
theorem d_m_around_221 : decode b_m_around 221 = .ok (.ireturn, 1) := by decide +kernel
abbrev b_m_findRing : ByteArray := prog_14_method_77_code
abbrev y_m_findRing : MethodName := ⟨"WhoRulesModel", "findRing", "()V"⟩
theorem d_m_findRing_0 : decode b_m_findRing 0 = .ok (.aload_n 0, 1) := by decide +kernel
theorem d_m_findRing_1 : decode b_m_findRing 1 = .ok (.iconst 0, 1) := by decide +kernel
theorem d_m_findRing_2 : decode b_m_findRing 2 = .ok (.putfield 225, 3) := by decide +kernel
theorem d_m_findRing_5 : decode b_m_findRing 5 = .ok (.iconst 0, 1) := by decide +kernel
theorem d_m_findRing_6 : decode b_m_findRing 6 = .ok (.istore_n 1, 1) := by decide +kernel
theorem d_m_findRing_7 : decode b_m_findRing 7 = .ok (.iload_n 1, 1) := by decide +kernel
theorem d_m_findRing_8 : decode b_m_findRing 8 = .ok (.aload_n 0, 1) := by decide +kernel
theorem d_m_findRing_9 : decode b_m_findRing 9 = .ok (.getfield 13, 3) := by decide +kernel
theorem d_m_findRing_12 : decode b_m_findRing 12 = .ok (.if_icmp .ge 119, 3) := by decide +kernel
theorem d_m_findRing_15 : decode b_m_findRing 15 = .ok (.aload_n 0, 1) := by decide +kernel
theorem d_m_findRing_16 : decode b_m_findRing 16 = .ok (.iload_n 1, 1) := by decide +kernel
theorem d_m_findRing_17 : decode b_m_findRing 17 = .ok (.invokevirtual 414, 3) := by decide +kernel
theorem d_m_findRing_20 : decode b_m_findRing 20 = .ok (.istore_n 2, 1) := by decide +kernel
theorem d_m_findRing_21 : decode b_m_findRing 21 = .ok (.iload_n 2, 1) := by decide +kernel
theorem d_m_findRing_22 : decode b_m_findRing 22 = .ok (.bipush 7, 2) := by decide +kernel
theorem d_m_findRing_24 : decode b_m_findRing 24 = .ok (.if_icmp .gt 101, 3) := by decide +kernel
theorem d_m_findRing_27 : decode b_m_findRing 27 = .ok (.aload_n 0, 1) := by decide +kernel
theorem d_m_findRing_28 : decode b_m_findRing 28 = .ok (.getfield 225, 3) := by decide +kernel
theorem d_m_findRing_31 : decode b_m_findRing 31 = .ok (.ifCond .le 14, 3) := by decide +kernel
theorem d_m_findRing_34 : decode b_m_findRing 34 = .ok (.iload_n 2, 1) := by decide +kernel
theorem d_m_findRing_35 : decode b_m_findRing 35 = .ok (.aload_n 0, 1) := by decide +kernel
theorem d_m_findRing_36 : decode b_m_findRing 36 = .ok (.getfield 225, 3) := by decide +kernel
theorem d_m_findRing_39 : decode b_m_findRing 39 = .ok (.if_icmp .lt 6, 3) := by decide +kernel
theorem d_m_findRing_42 : decode b_m_findRing 42 = .ok (.goto 83, 3) := by decide +kernel
theorem d_m_findRing_45 : decode b_m_findRing 45 = .ok (.aload_n 0, 1) := by decide +kernel
theorem d_m_findRing_46 : decode b_m_findRing 46 = .ok (.iload_n 2, 1) := by decide +kernel
theorem d_m_findRing_47 : decode b_m_findRing 47 = .ok (.putfield 225, 3) := by decide +kernel
theorem d_m_findRing_50 : decode b_m_findRing 50 = .ok (.aload_n 0, 1) := by decide +kernel
theorem d_m_findRing_51 : decode b_m_findRing 51 = .ok (.getfield 222, 3) := by decide +kernel
theorem d_m_findRing_54 : decode b_m_findRing 54 = .ok (.iconst 0, 1) := by decide +kernel
theorem d_m_findRing_55 : decode b_m_findRing 55 = .ok (.iload_n 1, 1) := by decide +kernel
theorem d_m_findRing_56 : decode b_m_findRing 56 = .ok (.iastore, 1) := by decide +kernel
theorem d_m_findRing_57 : decode b_m_findRing 57 = .ok (.iload_n 1, 1) := by decide +kernel
theorem d_m_findRing_58 : decode b_m_findRing 58 = .ok (.istore_n 3, 1) := by decide +kernel
theorem d_m_findRing_59 : decode b_m_findRing 59 = .ok (.iconst 1, 1) := by decide +kernel
theorem d_m_findRing_60 : decode b_m_findRing 60 = .ok (.istore 4, 2) := by decide +kernel
theorem d_m_findRing_62 : decode b_m_findRing 62 = .ok (.iload 4, 2) := by decide +kernel
theorem d_m_findRing_64 : decode b_m_findRing 64 = .ok (.iload_n 2, 1) := by decide +kernel
theorem d_m_findRing_65 : decode b_m_findRing 65 = .ok (.if_icmp .ge 60, 3) := by decide +kernel
theorem d_m_findRing_68 : decode b_m_findRing 68 = .ok (.iload_n 1, 1) := by decide +kernel
theorem d_m_findRing_69 : decode b_m_findRing 69 = .ok (.iconst 1, 1) := by decide +kernel
theorem d_m_findRing_70 : decode b_m_findRing 70 = .ok (.iadd, 1) := by decide +kernel
theorem d_m_findRing_71 : decode b_m_findRing 71 = .ok (.istore 5, 2) := by decide +kernel
theorem d_m_findRing_73 : decode b_m_findRing 73 = .ok (.aload_n 0, 1) := by decide +kernel
theorem d_m_findRing_74 : decode b_m_findRing 74 = .ok (.getfield 216, 3) := by decide +kernel
theorem d_m_findRing_77 : decode b_m_findRing 77 = .ok (.iload_n 3, 1) := by decide +kernel
theorem d_m_findRing_78 : decode b_m_findRing 78 = .ok (.iaload, 1) := by decide +kernel
theorem d_m_findRing_79 : decode b_m_findRing 79 = .ok (.iload 5, 2) := by decide +kernel
theorem d_m_findRing_81 : decode b_m_findRing 81 = .ok (.ishr, 1) := by decide +kernel
theorem d_m_findRing_82 : decode b_m_findRing 82 = .ok (.iconst 1, 1) := by decide +kernel
theorem d_m_findRing_83 : decode b_m_findRing 83 = .ok (.iand, 1) := by decide +kernel
theorem d_m_findRing_84 : decode b_m_findRing 84 = .ok (.ifCond .eq 17, 3) := by decide +kernel
theorem d_m_findRing_87 : decode b_m_findRing 87 = .ok (.aload_n 0, 1) := by decide +kernel
theorem d_m_findRing_88 : decode b_m_findRing 88 = .ok (.getfield 219, 3) := by decide +kernel
theorem d_m_findRing_91 : decode b_m_findRing 91 = .ok (.iload 5, 2) := by decide +kernel
theorem d_m_findRing_93 : decode b_m_findRing 93 = .ok (.iaload, 1) := by decide +kernel
theorem d_m_findRing_94 : decode b_m_findRing 94 = .ok (.iload_n 2, 1) := by decide +kernel
theorem d_m_findRing_95 : decode b_m_findRing 95 = .ok (.iload 4, 2) := by decide +kernel
theorem d_m_findRing_97 : decode b_m_findRing 97 = .ok (.isub, 1) := by decide +kernel
theorem d_m_findRing_98 : decode b_m_findRing 98 = .ok (.if_icmp .eq 9, 3) := by decide +kernel
theorem d_m_findRing_101 : decode b_m_findRing 101 = .ok (.iinc 5 1, 3) := by decide +kernel
theorem d_m_findRing_104 : decode b_m_findRing 104 = .ok (.goto (-31), 3) := by decide +kernel
theorem d_m_findRing_107 : decode b_m_findRing 107 = .ok (.aload_n 0, 1) := by decide +kernel
theorem d_m_findRing_108 : decode b_m_findRing 108 = .ok (.getfield 222, 3) := by decide +kernel
theorem d_m_findRing_111 : decode b_m_findRing 111 = .ok (.iload 4, 2) := by decide +kernel
theorem d_m_findRing_113 : decode b_m_findRing 113 = .ok (.iload 5, 2) := by decide +kernel
theorem d_m_findRing_115 : decode b_m_findRing 115 = .ok (.iastore, 1) := by decide +kernel
theorem d_m_findRing_116 : decode b_m_findRing 116 = .ok (.iload 5, 2) := by decide +kernel
theorem d_m_findRing_118 : decode b_m_findRing 118 = .ok (.istore_n 3, 1) := by decide +kernel
theorem d_m_findRing_119 : decode b_m_findRing 119 = .ok (.iinc 4 1, 3) := by decide +kernel
theorem d_m_findRing_122 : decode b_m_findRing 122 = .ok (.goto (-60), 3) := by decide +kernel
theorem d_m_findRing_125 : decode b_m_findRing 125 = .ok (.iinc 1 1, 3) := by decide +kernel
theorem d_m_findRing_128 : decode b_m_findRing 128 = .ok (.goto (-121), 3) := by decide +kernel
theorem d_m_findRing_131 : decode b_m_findRing 131 = .ok (.return_, 1) := by decide +kernel
abbrev b_m_ring : ByteArray := prog_14_method_78_code
abbrev y_m_ring : MethodName := ⟨"WhoRulesModel", "ring", "(I)I"⟩
theorem d_m_ring_0 : decode b_m_ring 0 = .ok (.aload_n 0, 1) := by decide +kernel
theorem d_m_ring_1 : decode b_m_ring 1 = .ok (.aload_n 0, 1) := by decide +kernel
theorem d_m_ring_2 : decode b_m_ring 2 = .ok (.getfield 7, 3) := by decide +kernel
theorem d_m_ring_5 : decode b_m_ring 5 = .ok (.invokevirtual 322, 3) := by decide +kernel
theorem d_m_ring_8 : decode b_m_ring 8 = .ok (.aload_n 0, 1) := by decide +kernel
theorem d_m_ring_9 : decode b_m_ring 9 = .ok (.invokevirtual 417, 3) := by decide +kernel
theorem d_m_ring_12 : decode b_m_ring 12 = .ok (.aload_n 0, 1) := by decide +kernel
theorem d_m_ring_13 : decode b_m_ring 13 = .ok (.invokevirtual 420, 3) := by decide +kernel
theorem d_m_ring_16 : decode b_m_ring 16 = .ok (.iload_n 1, 1) := by decide +kernel
theorem d_m_ring_17 : decode b_m_ring 17 = .ok (.iconst (-1), 1) := by decide +kernel
theorem d_m_ring_18 : decode b_m_ring 18 = .ok (.if_icmp .ne 10, 3) := by decide +kernel
theorem d_m_ring_21 : decode b_m_ring 21 = .ok (.aload_n 0, 1) := by decide +kernel
theorem d_m_ring_22 : decode b_m_ring 22 = .ok (.getfield 225, 3) := by decide +kernel
theorem d_m_ring_25 : decode b_m_ring 25 = .ok (.goto 28, 3) := by decide +kernel
theorem d_m_ring_28 : decode b_m_ring 28 = .ok (.aload_n 0, 1) := by decide +kernel
theorem d_m_ring_29 : decode b_m_ring 29 = .ok (.iload_n 1, 1) := by decide +kernel
theorem d_m_ring_30 : decode b_m_ring 30 = .ok (.iconst 0, 1) := by decide +kernel
theorem d_m_ring_31 : decode b_m_ring 31 = .ok (.aload_n 0, 1) := by decide +kernel
theorem d_m_ring_32 : decode b_m_ring 32 = .ok (.getfield 225, 3) := by decide +kernel
theorem d_m_ring_35 : decode b_m_ring 35 = .ok (.iconst 1, 1) := by decide +kernel
theorem d_m_ring_36 : decode b_m_ring 36 = .ok (.isub, 1) := by decide +kernel
theorem d_m_ring_37 : decode b_m_ring 37 = .ok (.invokevirtual 246, 3) := by decide +kernel
theorem d_m_ring_40 : decode b_m_ring 40 = .ok (.ifCond .eq 12, 3) := by decide +kernel
theorem d_m_ring_43 : decode b_m_ring 43 = .ok (.aload_n 0, 1) := by decide +kernel
theorem d_m_ring_44 : decode b_m_ring 44 = .ok (.getfield 222, 3) := by decide +kernel
theorem d_m_ring_47 : decode b_m_ring 47 = .ok (.iload_n 1, 1) := by decide +kernel
theorem d_m_ring_48 : decode b_m_ring 48 = .ok (.iaload, 1) := by decide +kernel
theorem d_m_ring_49 : decode b_m_ring 49 = .ok (.goto 4, 3) := by decide +kernel
theorem d_m_ring_52 : decode b_m_ring 52 = .ok (.iconst (-1), 1) := by decide +kernel
theorem d_m_ring_53 : decode b_m_ring 53 = .ok (.ireturn, 1) := by decide +kernel
abbrev b_m_hasRing : ByteArray := prog_14_method_79_code
abbrev y_m_hasRing : MethodName := ⟨"WhoRulesModel", "hasRing", "()Z"⟩
theorem d_m_hasRing_0 : decode b_m_hasRing 0 = .ok (.iconst 1, 1) := by decide +kernel
theorem d_m_hasRing_1 : decode b_m_hasRing 1 = .ok (.aload_n 0, 1) := by decide +kernel
theorem d_m_hasRing_2 : decode b_m_hasRing 2 = .ok (.getfield 13, 3) := by decide +kernel
theorem d_m_hasRing_5 : decode b_m_hasRing 5 = .ok (.ishl, 1) := by decide +kernel
theorem d_m_hasRing_6 : decode b_m_hasRing 6 = .ok (.iconst 1, 1) := by decide +kernel
theorem d_m_hasRing_7 : decode b_m_hasRing 7 = .ok (.isub, 1) := by decide +kernel
theorem d_m_hasRing_8 : decode b_m_hasRing 8 = .ok (.istore_n 1, 1) := by decide +kernel
theorem d_m_hasRing_9 : decode b_m_hasRing 9 = .ok (.iconst 1, 1) := by decide +kernel
theorem d_m_hasRing_10 : decode b_m_hasRing 10 = .ok (.istore_n 2, 1) := by decide +kernel
theorem d_m_hasRing_11 : decode b_m_hasRing 11 = .ok (.iload_n 2, 1) := by decide +kernel
theorem d_m_hasRing_12 : decode b_m_hasRing 12 = .ok (.ifCond .eq 56, 3) := by decide +kernel
theorem d_m_hasRing_15 : decode b_m_hasRing 15 = .ok (.iconst 0, 1) := by decide +kernel
theorem d_m_hasRing_16 : decode b_m_hasRing 16 = .ok (.istore_n 2, 1) := by decide +kernel
theorem d_m_hasRing_17 : decode b_m_hasRing 17 = .ok (.iconst 0, 1) := by decide +kernel
theorem d_m_hasRing_18 : decode b_m_hasRing 18 = .ok (.istore_n 3, 1) := by decide +kernel
theorem d_m_hasRing_19 : decode b_m_hasRing 19 = .ok (.iload_n 3, 1) := by decide +kernel
theorem d_m_hasRing_20 : decode b_m_hasRing 20 = .ok (.aload_n 0, 1) := by decide +kernel
theorem d_m_hasRing_21 : decode b_m_hasRing 21 = .ok (.getfield 13, 3) := by decide +kernel
theorem d_m_hasRing_24 : decode b_m_hasRing 24 = .ok (.if_icmp .ge 41, 3) := by decide +kernel
theorem d_m_hasRing_27 : decode b_m_hasRing 27 = .ok (.iload_n 1, 1) := by decide +kernel
theorem d_m_hasRing_28 : decode b_m_hasRing 28 = .ok (.iload_n 3, 1) := by decide +kernel
theorem d_m_hasRing_29 : decode b_m_hasRing 29 = .ok (.ishr, 1) := by decide +kernel
theorem d_m_hasRing_30 : decode b_m_hasRing 30 = .ok (.iconst 1, 1) := by decide +kernel
theorem d_m_hasRing_31 : decode b_m_hasRing 31 = .ok (.iand, 1) := by decide +kernel
theorem d_m_hasRing_32 : decode b_m_hasRing 32 = .ok (.ifCond .eq 27, 3) := by decide +kernel
theorem d_m_hasRing_35 : decode b_m_hasRing 35 = .ok (.aload_n 0, 1) := by decide +kernel
theorem d_m_hasRing_36 : decode b_m_hasRing 36 = .ok (.getfield 216, 3) := by decide +kernel
theorem d_m_hasRing_39 : decode b_m_hasRing 39 = .ok (.iload_n 3, 1) := by decide +kernel
theorem d_m_hasRing_40 : decode b_m_hasRing 40 = .ok (.iaload, 1) := by decide +kernel
theorem d_m_hasRing_41 : decode b_m_hasRing 41 = .ok (.iload_n 1, 1) := by decide +kernel
theorem d_m_hasRing_42 : decode b_m_hasRing 42 = .ok (.iand, 1) := by decide +kernel
theorem d_m_hasRing_43 : decode b_m_hasRing 43 = .ok (.ifCond .eq 6, 3) := by decide +kernel
theorem d_m_hasRing_46 : decode b_m_hasRing 46 = .ok (.goto 13, 3) := by decide +kernel
theorem d_m_hasRing_49 : decode b_m_hasRing 49 = .ok (.iload_n 1, 1) := by decide +kernel
theorem d_m_hasRing_50 : decode b_m_hasRing 50 = .ok (.iconst 1, 1) := by decide +kernel
theorem d_m_hasRing_51 : decode b_m_hasRing 51 = .ok (.iload_n 3, 1) := by decide +kernel
theorem d_m_hasRing_52 : decode b_m_hasRing 52 = .ok (.ishl, 1) := by decide +kernel
theorem d_m_hasRing_53 : decode b_m_hasRing 53 = .ok (.iconst (-1), 1) := by decide +kernel
theorem d_m_hasRing_54 : decode b_m_hasRing 54 = .ok (.ixor, 1) := by decide +kernel
theorem d_m_hasRing_55 : decode b_m_hasRing 55 = .ok (.iand, 1) := by decide +kernel
theorem d_m_hasRing_56 : decode b_m_hasRing 56 = .ok (.istore_n 1, 1) := by decide +kernel
theorem d_m_hasRing_57 : decode b_m_hasRing 57 = .ok (.iconst 1, 1) := by decide +kernel
theorem d_m_hasRing_58 : decode b_m_hasRing 58 = .ok (.istore_n 2, 1) := by decide +kernel
theorem d_m_hasRing_59 : decode b_m_hasRing 59 = .ok (.iinc 3 1, 3) := by decide +kernel
theorem d_m_hasRing_62 : decode b_m_hasRing 62 = .ok (.goto (-43), 3) := by decide +kernel
theorem d_m_hasRing_65 : decode b_m_hasRing 65 = .ok (.goto (-54), 3) := by decide +kernel
theorem d_m_hasRing_68 : decode b_m_hasRing 68 = .ok (.iload_n 1, 1) := by decide +kernel
theorem d_m_hasRing_69 : decode b_m_hasRing 69 = .ok (.ifCond .eq 7, 3) := by decide +kernel
theorem d_m_hasRing_72 : decode b_m_hasRing 72 = .ok (.iconst 1, 1) := by decide +kernel
theorem d_m_hasRing_73 : decode b_m_hasRing 73 = .ok (.goto 4, 3) := by decide +kernel
theorem d_m_hasRing_76 : decode b_m_hasRing 76 = .ok (.iconst 0, 1) := by decide +kernel
theorem d_m_hasRing_77 : decode b_m_hasRing 77 = .ok (.ireturn, 1) := by decide +kernel
abbrev b_m_breaks : ByteArray := prog_14_method_80_code
abbrev y_m_breaks : MethodName := ⟨"WhoRulesModel", "breaks", "()J"⟩
theorem d_m_breaks_0 : decode b_m_breaks 0 = .ok (.aload_n 0, 1) := by decide +kernel
theorem d_m_breaks_1 : decode b_m_breaks 1 = .ok (.aload_n 0, 1) := by decide +kernel
theorem d_m_breaks_2 : decode b_m_breaks 2 = .ok (.getfield 7, 3) := by decide +kernel
theorem d_m_breaks_5 : decode b_m_breaks 5 = .ok (.invokevirtual 322, 3) := by decide +kernel
theorem d_m_breaks_8 : decode b_m_breaks 8 = .ok (.iconst 0, 1) := by decide +kernel
theorem d_m_breaks_9 : decode b_m_breaks 9 = .ok (.istore_n 1, 1) := by decide +kernel
theorem d_m_breaks_10 : decode b_m_breaks 10 = .ok (.iconst 0, 1) := by decide +kernel
theorem d_m_breaks_11 : decode b_m_breaks 11 = .ok (.istore_n 2, 1) := by decide +kernel
theorem d_m_breaks_12 : decode b_m_breaks 12 = .ok (.iload_n 2, 1) := by decide +kernel
theorem d_m_breaks_13 : decode b_m_breaks 13 = .ok (.aload_n 0, 1) := by decide +kernel
theorem d_m_breaks_14 : decode b_m_breaks 14 = .ok (.getfield 19, 3) := by decide +kernel
theorem d_m_breaks_17 : decode b_m_breaks 17 = .ok (.if_icmp .ge 61, 3) := by decide +kernel
theorem d_m_breaks_20 : decode b_m_breaks 20 = .ok (.iload_n 1, 1) := by decide +kernel
theorem d_m_breaks_21 : decode b_m_breaks 21 = .ok (.bipush 12, 2) := by decide +kernel
theorem d_m_breaks_23 : decode b_m_breaks 23 = .ok (.if_icmp .ge 55, 3) := by decide +kernel
theorem d_m_breaks_26 : decode b_m_breaks 26 = .ok (.aload_n 0, 1) := by decide +kernel
theorem d_m_breaks_27 : decode b_m_breaks 27 = .ok (.getfield 38, 3) := by decide +kernel
theorem d_m_breaks_30 : decode b_m_breaks 30 = .ok (.iload_n 2, 1) := by decide +kernel
theorem d_m_breaks_31 : decode b_m_breaks 31 = .ok (.iaload, 1) := by decide +kernel
theorem d_m_breaks_32 : decode b_m_breaks 32 = .ok (.ifCond .eq 40, 3) := by decide +kernel
theorem d_m_breaks_35 : decode b_m_breaks 35 = .ok (.aload_n 0, 1) := by decide +kernel
theorem d_m_breaks_36 : decode b_m_breaks 36 = .ok (.getfield 130, 3) := by decide +kernel
theorem d_m_breaks_39 : decode b_m_breaks 39 = .ok (.iload_n 2, 1) := by decide +kernel
theorem d_m_breaks_40 : decode b_m_breaks 40 = .ok (.iaload, 1) := by decide +kernel
theorem d_m_breaks_41 : decode b_m_breaks 41 = .ok (.ifCond .lt 31, 3) := by decide +kernel
theorem d_m_breaks_44 : decode b_m_breaks 44 = .ok (.aload_n 0, 1) := by decide +kernel
theorem d_m_breaks_45 : decode b_m_breaks 45 = .ok (.getfield 25, 3) := by decide +kernel
theorem d_m_breaks_48 : decode b_m_breaks 48 = .ok (.aload_n 0, 1) := by decide +kernel
theorem d_m_breaks_49 : decode b_m_breaks 49 = .ok (.getfield 130, 3) := by decide +kernel
theorem d_m_breaks_52 : decode b_m_breaks 52 = .ok (.iload_n 2, 1) := by decide +kernel
theorem d_m_breaks_53 : decode b_m_breaks 53 = .ok (.iaload, 1) := by decide +kernel
theorem d_m_breaks_54 : decode b_m_breaks 54 = .ok (.iaload, 1) := by decide +kernel
theorem d_m_breaks_55 : decode b_m_breaks 55 = .ok (.iconst 1, 1) := by decide +kernel
theorem d_m_breaks_56 : decode b_m_breaks 56 = .ok (.if_icmp .eq 6, 3) := by decide +kernel
theorem d_m_breaks_59 : decode b_m_breaks 59 = .ok (.goto 13, 3) := by decide +kernel
theorem d_m_breaks_62 : decode b_m_breaks 62 = .ok (.aload_n 0, 1) := by decide +kernel
theorem d_m_breaks_63 : decode b_m_breaks 63 = .ok (.getfield 188, 3) := by decide +kernel
theorem d_m_breaks_66 : decode b_m_breaks 66 = .ok (.iload_n 1, 1) := by decide +kernel
theorem d_m_breaks_67 : decode b_m_breaks 67 = .ok (.iload_n 2, 1) := by decide +kernel
theorem d_m_breaks_68 : decode b_m_breaks 68 = .ok (.iastore, 1) := by decide +kernel
theorem d_m_breaks_69 : decode b_m_breaks 69 = .ok (.iinc 1 1, 3) := by decide +kernel
theorem d_m_breaks_72 : decode b_m_breaks 72 = .ok (.iinc 2 1, 3) := by decide +kernel
theorem d_m_breaks_75 : decode b_m_breaks 75 = .ok (.goto (-63), 3) := by decide +kernel
theorem d_m_breaks_78 : decode b_m_breaks 78 = .ok (.iconst 1, 1) := by decide +kernel
theorem d_m_breaks_79 : decode b_m_breaks 79 = .ok (.iload_n 1, 1) := by decide +kernel
theorem d_m_breaks_80 : decode b_m_breaks 80 = .ok (.ishl, 1) := by decide +kernel
theorem d_m_breaks_81 : decode b_m_breaks 81 = .ok (.iconst 1, 1) := by decide +kernel
theorem d_m_breaks_82 : decode b_m_breaks 82 = .ok (.isub, 1) := by decide +kernel
theorem d_m_breaks_83 : decode b_m_breaks 83 = .ok (.istore_n 2, 1) := by decide +kernel
theorem d_m_breaks_84 : decode b_m_breaks 84 = .ok (.iconst 0, 1) := by decide +kernel
theorem d_m_breaks_85 : decode b_m_breaks 85 = .ok (.istore_n 3, 1) := by decide +kernel
theorem d_m_breaks_86 : decode b_m_breaks 86 = .ok (.iload_n 3, 1) := by decide +kernel
theorem d_m_breaks_87 : decode b_m_breaks 87 = .ok (.iconst 1, 1) := by decide +kernel
theorem d_m_breaks_88 : decode b_m_breaks 88 = .ok (.iload_n 1, 1) := by decide +kernel
theorem d_m_breaks_89 : decode b_m_breaks 89 = .ok (.ishl, 1) := by decide +kernel
theorem d_m_breaks_90 : decode b_m_breaks 90 = .ok (.if_icmp .ge 118, 3) := by decide +kernel
theorem d_m_breaks_93 : decode b_m_breaks 93 = .ok (.aload_n 0, 1) := by decide +kernel
theorem d_m_breaks_94 : decode b_m_breaks 94 = .ok (.iload_n 3, 1) := by decide +kernel
theorem d_m_breaks_95 : decode b_m_breaks 95 = .ok (.i2l, 1) := by decide +kernel
theorem d_m_breaks_96 : decode b_m_breaks 96 = .ok (.invokevirtual 394, 3) := by decide +kernel
theorem d_m_breaks_99 : decode b_m_breaks 99 = .ok (.aload_n 0, 1) := by decide +kernel
theorem d_m_breaks_100 : decode b_m_breaks 100 = .ok (.iload_n 2, 1) := by decide +kernel
theorem d_m_breaks_101 : decode b_m_breaks 101 = .ok (.i2l, 1) := by decide +kernel
theorem d_m_breaks_102 : decode b_m_breaks 102 = .ok (.invokevirtual 394, 3) := by decide +kernel
theorem d_m_breaks_105 : decode b_m_breaks 105 = .ok (.if_icmp .lt 6, 3) := by decide +kernel
theorem d_m_breaks_108 : decode b_m_breaks 108 = .ok (.goto 94, 3) := by decide +kernel
theorem d_m_breaks_111 : decode b_m_breaks 111 = .ok (.iconst 0, 1) := by decide +kernel
theorem d_m_breaks_112 : decode b_m_breaks 112 = .ok (.istore 4, 2) := by decide +kernel
theorem d_m_breaks_114 : decode b_m_breaks 114 = .ok (.iload 4, 2) := by decide +kernel
theorem d_m_breaks_116 : decode b_m_breaks 116 = .ok (.bipush 16, 2) := by decide +kernel
theorem d_m_breaks_118 : decode b_m_breaks 118 = .ok (.if_icmp .ge 17, 3) := by decide +kernel
theorem d_m_breaks_121 : decode b_m_breaks 121 = .ok (.aload_n 0, 1) := by decide +kernel
theorem d_m_breaks_122 : decode b_m_breaks 122 = .ok (.getfield 216, 3) := by decide +kernel
theorem d_m_breaks_125 : decode b_m_breaks 125 = .ok (.iload 4, 2) := by decide +kernel
theorem d_m_breaks_127 : decode b_m_breaks 127 = .ok (.iconst 0, 1) := by decide +kernel
theorem d_m_breaks_128 : decode b_m_breaks 128 = .ok (.iastore, 1) := by decide +kernel
theorem d_m_breaks_129 : decode b_m_breaks 129 = .ok (.iinc 4 1, 3) := by decide +kernel
theorem d_m_breaks_132 : decode b_m_breaks 132 = .ok (.goto (-18), 3) := by decide +kernel
theorem d_m_breaks_135 : decode b_m_breaks 135 = .ok (.iconst 0, 1) := by decide +kernel
theorem d_m_breaks_136 : decode b_m_breaks 136 = .ok (.istore 4, 2) := by decide +kernel
theorem d_m_breaks_138 : decode b_m_breaks 138 = .ok (.iload 4, 2) := by decide +kernel
theorem d_m_breaks_140 : decode b_m_breaks 140 = .ok (.iload_n 1, 1) := by decide +kernel
theorem d_m_breaks_141 : decode b_m_breaks 141 = .ok (.if_icmp .ge 52, 3) := by decide +kernel
theorem d_m_breaks_144 : decode b_m_breaks 144 = .ok (.iload_n 3, 1) := by decide +kernel
theorem d_m_breaks_145 : decode b_m_breaks 145 = .ok (.iload 4, 2) := by decide +kernel
theorem d_m_breaks_147 : decode b_m_breaks 147 = .ok (.ishr, 1) := by decide +kernel
theorem d_m_breaks_148 : decode b_m_breaks 148 = .ok (.iconst 1, 1) := by decide +kernel
theorem d_m_breaks_149 : decode b_m_breaks 149 = .ok (.iand, 1) := by decide +kernel
theorem d_m_breaks_150 : decode b_m_breaks 150 = .ok (.ifCond .ne 37, 3) := by decide +kernel
theorem d_m_breaks_153 : decode b_m_breaks 153 = .ok (.aload_n 0, 1) := by decide +kernel
theorem d_m_breaks_154 : decode b_m_breaks 154 = .ok (.getfield 216, 3) := by decide +kernel
theorem d_m_breaks_157 : decode b_m_breaks 157 = .ok (.aload_n 0, 1) := by decide +kernel
theorem d_m_breaks_158 : decode b_m_breaks 158 = .ok (.getfield 130, 3) := by decide +kernel
theorem d_m_breaks_161 : decode b_m_breaks 161 = .ok (.aload_n 0, 1) := by decide +kernel
theorem d_m_breaks_162 : decode b_m_breaks 162 = .ok (.getfield 188, 3) := by decide +kernel
theorem d_m_breaks_165 : decode b_m_breaks 165 = .ok (.iload 4, 2) := by decide +kernel
theorem d_m_breaks_167 : decode b_m_breaks 167 = .ok (.iaload, 1) := by decide +kernel
theorem d_m_breaks_168 : decode b_m_breaks 168 = .ok (.iaload, 1) := by decide +kernel
theorem d_m_breaks_169 : decode b_m_breaks 169 = .ok (.dup2, 1) := by decide +kernel
theorem d_m_breaks_170 : decode b_m_breaks 170 = .ok (.iaload, 1) := by decide +kernel
theorem d_m_breaks_171 : decode b_m_breaks 171 = .ok (.iconst 1, 1) := by decide +kernel
theorem d_m_breaks_172 : decode b_m_breaks 172 = .ok (.aload_n 0, 1) := by decide +kernel
theorem d_m_breaks_173 : decode b_m_breaks 173 = .ok (.getfield 32, 3) := by decide +kernel
theorem d_m_breaks_176 : decode b_m_breaks 176 = .ok (.aload_n 0, 1) := by decide +kernel
theorem d_m_breaks_177 : decode b_m_breaks 177 = .ok (.getfield 188, 3) := by decide +kernel
theorem d_m_breaks_180 : decode b_m_breaks 180 = .ok (.iload 4, 2) := by decide +kernel
theorem d_m_breaks_182 : decode b_m_breaks 182 = .ok (.iaload, 1) := by decide +kernel
theorem d_m_breaks_183 : decode b_m_breaks 183 = .ok (.iaload, 1) := by decide +kernel
theorem d_m_breaks_184 : decode b_m_breaks 184 = .ok (.ishl, 1) := by decide +kernel
theorem d_m_breaks_185 : decode b_m_breaks 185 = .ok (.ior, 1) := by decide +kernel
theorem d_m_breaks_186 : decode b_m_breaks 186 = .ok (.iastore, 1) := by decide +kernel
theorem d_m_breaks_187 : decode b_m_breaks 187 = .ok (.iinc 4 1, 3) := by decide +kernel
theorem d_m_breaks_190 : decode b_m_breaks 190 = .ok (.goto (-52), 3) := by decide +kernel
theorem d_m_breaks_193 : decode b_m_breaks 193 = .ok (.aload_n 0, 1) := by decide +kernel
theorem d_m_breaks_194 : decode b_m_breaks 194 = .ok (.invokevirtual 423, 3) := by decide +kernel
theorem d_m_breaks_197 : decode b_m_breaks 197 = .ok (.ifCond .ne 5, 3) := by decide +kernel
theorem d_m_breaks_200 : decode b_m_breaks 200 = .ok (.iload_n 3, 1) := by decide +kernel
theorem d_m_breaks_201 : decode b_m_breaks 201 = .ok (.istore_n 2, 1) := by decide +kernel
theorem d_m_breaks_202 : decode b_m_breaks 202 = .ok (.iinc 3 1, 3) := by decide +kernel
theorem d_m_breaks_205 : decode b_m_breaks 205 = .ok (.goto (-119), 3) := by decide +kernel
theorem d_m_breaks_208 : decode b_m_breaks 208 = .ok (.lconst 0, 1) := by decide +kernel
theorem d_m_breaks_209 : decode b_m_breaks 209 = .ok (.lstore_n 3, 1) := by decide +kernel
theorem d_m_breaks_210 : decode b_m_breaks 210 = .ok (.iconst 0, 1) := by decide +kernel
theorem d_m_breaks_211 : decode b_m_breaks 211 = .ok (.istore 5, 2) := by decide +kernel
theorem d_m_breaks_213 : decode b_m_breaks 213 = .ok (.iload 5, 2) := by decide +kernel
theorem d_m_breaks_215 : decode b_m_breaks 215 = .ok (.iload_n 1, 1) := by decide +kernel
theorem d_m_breaks_216 : decode b_m_breaks 216 = .ok (.if_icmp .ge 35, 3) := by decide +kernel
theorem d_m_breaks_219 : decode b_m_breaks 219 = .ok (.lload_n 3, 1) := by decide +kernel
theorem d_m_breaks_220 : decode b_m_breaks 220 = .ok (.iload_n 2, 1) := by decide +kernel
theorem d_m_breaks_221 : decode b_m_breaks 221 = .ok (.iload 5, 2) := by decide +kernel
theorem d_m_breaks_223 : decode b_m_breaks 223 = .ok (.ishr, 1) := by decide +kernel
theorem d_m_breaks_224 : decode b_m_breaks 224 = .ok (.iconst 1, 1) := by decide +kernel
theorem d_m_breaks_225 : decode b_m_breaks 225 = .ok (.iand, 1) := by decide +kernel
theorem d_m_breaks_226 : decode b_m_breaks 226 = .ok (.iconst 1, 1) := by decide +kernel
theorem d_m_breaks_227 : decode b_m_breaks 227 = .ok (.if_icmp .ne 15, 3) := by decide +kernel
theorem d_m_breaks_230 : decode b_m_breaks 230 = .ok (.lconst 1, 1) := by decide +kernel
theorem d_m_breaks_231 : decode b_m_breaks 231 = .ok (.aload_n 0, 1) := by decide +kernel
theorem d_m_breaks_232 : decode b_m_breaks 232 = .ok (.getfield 188, 3) := by decide +kernel
theorem d_m_breaks_235 : decode b_m_breaks 235 = .ok (.iload 5, 2) := by decide +kernel
theorem d_m_breaks_237 : decode b_m_breaks 237 = .ok (.iaload, 1) := by decide +kernel
theorem d_m_breaks_238 : decode b_m_breaks 238 = .ok (.lshl, 1) := by decide +kernel
theorem d_m_breaks_239 : decode b_m_breaks 239 = .ok (.goto 4, 3) := by decide +kernel
theorem d_m_breaks_242 : decode b_m_breaks 242 = .ok (.lconst 0, 1) := by decide +kernel
theorem d_m_breaks_243 : decode b_m_breaks 243 = .ok (.lor, 1) := by decide +kernel
theorem d_m_breaks_244 : decode b_m_breaks 244 = .ok (.lstore_n 3, 1) := by decide +kernel
theorem d_m_breaks_245 : decode b_m_breaks 245 = .ok (.iinc 5 1, 3) := by decide +kernel
theorem d_m_breaks_248 : decode b_m_breaks 248 = .ok (.goto (-35), 3) := by decide +kernel
theorem d_m_breaks_251 : decode b_m_breaks 251 = .ok (.lload_n 3, 1) := by decide +kernel
theorem d_m_breaks_252 : decode b_m_breaks 252 = .ok (.lreturn, 1) := by decide +kernel
abbrev b_m_body : ByteArray := prog_14_method_81_code
abbrev y_m_body : MethodName := ⟨"WhoRulesModel", "body", "(I)V"⟩
theorem d_m_body_0 : decode b_m_body 0 = .ok (.aload_n 0, 1) := by decide +kernel
theorem d_m_body_1 : decode b_m_body 1 = .ok (.getfield 228, 3) := by decide +kernel
theorem d_m_body_4 : decode b_m_body 4 = .ok (.bipush 20, 2) := by decide +kernel
theorem d_m_body_6 : decode b_m_body 6 = .ok (.if_icmp .ge 13, 3) := by decide +kernel
theorem d_m_body_9 : decode b_m_body 9 = .ok (.aload_n 0, 1) := by decide +kernel
theorem d_m_body_10 : decode b_m_body 10 = .ok (.getfield 231, 3) := by decide +kernel
theorem d_m_body_13 : decode b_m_body 13 = .ok (.aload_n 0, 1) := by decide +kernel
theorem d_m_body_14 : decode b_m_body 14 = .ok (.getfield 228, 3) := by decide +kernel
theorem d_m_body_17 : decode b_m_body 17 = .ok (.iload_n 1, 1) := by decide +kernel
theorem d_m_body_18 : decode b_m_body 18 = .ok (.iastore, 1) := by decide +kernel
theorem d_m_body_19 : decode b_m_body 19 = .ok (.aload_n 0, 1) := by decide +kernel
theorem d_m_body_20 : decode b_m_body 20 = .ok (.dup, 1) := by decide +kernel
theorem d_m_body_21 : decode b_m_body 21 = .ok (.getfield 228, 3) := by decide +kernel
theorem d_m_body_24 : decode b_m_body 24 = .ok (.iconst 1, 1) := by decide +kernel
theorem d_m_body_25 : decode b_m_body 25 = .ok (.iadd, 1) := by decide +kernel
theorem d_m_body_26 : decode b_m_body 26 = .ok (.putfield 228, 3) := by decide +kernel
theorem d_m_body_29 : decode b_m_body 29 = .ok (.return_, 1) := by decide +kernel
abbrev b_m_plainVotes : ByteArray := prog_14_method_82_code
abbrev y_m_plainVotes : MethodName := ⟨"WhoRulesModel", "plainVotes", "(II)I"⟩
theorem d_m_plainVotes_0 : decode b_m_plainVotes 0 = .ok (.aload_n 0, 1) := by decide +kernel
theorem d_m_plainVotes_1 : decode b_m_plainVotes 1 = .ok (.bipush 10, 2) := by decide +kernel
theorem d_m_plainVotes_3 : decode b_m_plainVotes 3 = .ok (.invokevirtual 426, 3) := by decide +kernel
theorem d_m_plainVotes_6 : decode b_m_plainVotes 6 = .ok (.iload_n 2, 1) := by decide +kernel
theorem d_m_plainVotes_7 : decode b_m_plainVotes 7 = .ok (.iload_n 1, 1) := by decide +kernel
theorem d_m_plainVotes_8 : decode b_m_plainVotes 8 = .ok (.iadd, 1) := by decide +kernel
theorem d_m_plainVotes_9 : decode b_m_plainVotes 9 = .ok (.ireturn, 1) := by decide +kernel
abbrev b_m_votesBy : ByteArray := prog_14_method_83_code
abbrev y_m_votesBy : MethodName := ⟨"WhoRulesModel", "votesBy", "(II)I"⟩
theorem d_m_votesBy_0 : decode b_m_votesBy 0 = .ok (.aload_n 0, 1) := by decide +kernel
theorem d_m_votesBy_1 : decode b_m_votesBy 1 = .ok (.getfield 25, 3) := by decide +kernel
theorem d_m_votesBy_4 : decode b_m_votesBy 4 = .ok (.iload_n 1, 1) := by decide +kernel
theorem d_m_votesBy_5 : decode b_m_votesBy 5 = .ok (.iaload, 1) := by decide +kernel
theorem d_m_votesBy_6 : decode b_m_votesBy 6 = .ok (.iconst 1, 1) := by decide +kernel
theorem d_m_votesBy_7 : decode b_m_votesBy 7 = .ok (.if_icmp .ne 19, 3) := by decide +kernel
theorem d_m_votesBy_10 : decode b_m_votesBy 10 = .ok (.aload_n 0, 1) := by decide +kernel
theorem d_m_votesBy_11 : decode b_m_votesBy 11 = .ok (.bipush 20, 2) := by decide +kernel
theorem d_m_votesBy_13 : decode b_m_votesBy 13 = .ok (.invokevirtual 426, 3) := by decide +kernel
theorem d_m_votesBy_16 : decode b_m_votesBy 16 = .ok (.aload_n 0, 1) := by decide +kernel
theorem d_m_votesBy_17 : decode b_m_votesBy 17 = .ok (.iload_n 1, 1) := by decide +kernel
theorem d_m_votesBy_18 : decode b_m_votesBy 18 = .ok (.iload_n 2, 1) := by decide +kernel
theorem d_m_votesBy_19 : decode b_m_votesBy 19 = .ok (.invokevirtual 429, 3) := by decide +kernel
theorem d_m_votesBy_22 : decode b_m_votesBy 22 = .ok (.bipush 6, 2) := by decide +kernel
theorem d_m_votesBy_24 : decode b_m_votesBy 24 = .ok (.ixor, 1) := by decide +kernel
theorem d_m_votesBy_25 : decode b_m_votesBy 25 = .ok (.ireturn, 1) := by decide +kernel
theorem d_m_votesBy_26 : decode b_m_votesBy 26 = .ok (.aload_n 0, 1) := by decide +kernel
theorem d_m_votesBy_27 : decode b_m_votesBy 27 = .ok (.getfield 25, 3) := by decide +kernel
theorem d_m_votesBy_30 : decode b_m_votesBy 30 = .ok (.iload_n 1, 1) := by decide +kernel
theorem d_m_votesBy_31 : decode b_m_votesBy 31 = .ok (.iaload, 1) := by decide +kernel
theorem d_m_votesBy_32 : decode b_m_votesBy 32 = .ok (.iconst 3, 1) := by decide +kernel
theorem d_m_votesBy_33 : decode b_m_votesBy 33 = .ok (.if_icmp .ne 17, 3) := by decide +kernel
theorem d_m_votesBy_36 : decode b_m_votesBy 36 = .ok (.aload_n 0, 1) := by decide +kernel
theorem d_m_votesBy_37 : decode b_m_votesBy 37 = .ok (.bipush 40, 2) := by decide +kernel
theorem d_m_votesBy_39 : decode b_m_votesBy 39 = .ok (.invokevirtual 426, 3) := by decide +kernel
theorem d_m_votesBy_42 : decode b_m_votesBy 42 = .ok (.aload_n 0, 1) := by decide +kernel
theorem d_m_votesBy_43 : decode b_m_votesBy 43 = .ok (.iload_n 1, 1) := by decide +kernel
theorem d_m_votesBy_44 : decode b_m_votesBy 44 = .ok (.iload_n 2, 1) := by decide +kernel
theorem d_m_votesBy_45 : decode b_m_votesBy 45 = .ok (.invokevirtual 429, 3) := by decide +kernel
theorem d_m_votesBy_48 : decode b_m_votesBy 48 = .ok (.ineg, 1) := by decide +kernel
theorem d_m_votesBy_49 : decode b_m_votesBy 49 = .ok (.ireturn, 1) := by decide +kernel
theorem d_m_votesBy_50 : decode b_m_votesBy 50 = .ok (.aload_n 0, 1) := by decide +kernel
theorem d_m_votesBy_51 : decode b_m_votesBy 51 = .ok (.getfield 25, 3) := by decide +kernel
theorem d_m_votesBy_54 : decode b_m_votesBy 54 = .ok (.iload_n 1, 1) := by decide +kernel
theorem d_m_votesBy_55 : decode b_m_votesBy 55 = .ok (.iaload, 1) := by decide +kernel
theorem d_m_votesBy_56 : decode b_m_votesBy 56 = .ok (.iconst 5, 1) := by decide +kernel
theorem d_m_votesBy_57 : decode b_m_votesBy 57 = .ok (.if_icmp .ne 18, 3) := by decide +kernel
theorem d_m_votesBy_60 : decode b_m_votesBy 60 = .ok (.aload_n 0, 1) := by decide +kernel
theorem d_m_votesBy_61 : decode b_m_votesBy 61 = .ok (.bipush 60, 2) := by decide +kernel
theorem d_m_votesBy_63 : decode b_m_votesBy 63 = .ok (.invokevirtual 426, 3) := by decide +kernel
theorem d_m_votesBy_66 : decode b_m_votesBy 66 = .ok (.aload_n 0, 1) := by decide +kernel
theorem d_m_votesBy_67 : decode b_m_votesBy 67 = .ok (.iload_n 1, 1) := by decide +kernel
theorem d_m_votesBy_68 : decode b_m_votesBy 68 = .ok (.iload_n 2, 1) := by decide +kernel
theorem d_m_votesBy_69 : decode b_m_votesBy 69 = .ok (.iconst 4, 1) := by decide +kernel
theorem d_m_votesBy_70 : decode b_m_votesBy 70 = .ok (.iadd, 1) := by decide +kernel
theorem d_m_votesBy_71 : decode b_m_votesBy 71 = .ok (.invokevirtual 429, 3) := by decide +kernel
theorem d_m_votesBy_74 : decode b_m_votesBy 74 = .ok (.ireturn, 1) := by decide +kernel
theorem d_m_votesBy_75 : decode b_m_votesBy 75 = .ok (.aload_n 0, 1) := by decide +kernel
theorem d_m_votesBy_76 : decode b_m_votesBy 76 = .ok (.iload_n 1, 1) := by decide +kernel
theorem d_m_votesBy_77 : decode b_m_votesBy 77 = .ok (.iload_n 2, 1) := by decide +kernel
theorem d_m_votesBy_78 : decode b_m_votesBy 78 = .ok (.invokevirtual 429, 3) := by decide +kernel
theorem d_m_votesBy_81 : decode b_m_votesBy 81 = .ok (.ireturn, 1) := by decide +kernel
abbrev b_m_plainOwns : ByteArray := prog_14_method_84_code
abbrev y_m_plainOwns : MethodName := ⟨"WhoRulesModel", "plainOwns", "(II)I"⟩
theorem d_m_plainOwns_0 : decode b_m_plainOwns 0 = .ok (.aload_n 0, 1) := by decide +kernel
theorem d_m_plainOwns_1 : decode b_m_plainOwns 1 = .ok (.bipush 11, 2) := by decide +kernel
theorem d_m_plainOwns_3 : decode b_m_plainOwns 3 = .ok (.invokevirtual 426, 3) := by decide +kernel
theorem d_m_plainOwns_6 : decode b_m_plainOwns 6 = .ok (.aload_n 0, 1) := by decide +kernel
theorem d_m_plainOwns_7 : decode b_m_plainOwns 7 = .ok (.iload_n 1, 1) := by decide +kernel
theorem d_m_plainOwns_8 : decode b_m_plainOwns 8 = .ok (.iload_n 2, 1) := by decide +kernel
theorem d_m_plainOwns_9 : decode b_m_plainOwns 9 = .ok (.invokevirtual 433, 3) := by decide +kernel
theorem d_m_plainOwns_12 : decode b_m_plainOwns 12 = .ok (.iconst 2, 1) := by decide +kernel
theorem d_m_plainOwns_13 : decode b_m_plainOwns 13 = .ok (.imul, 1) := by decide +kernel
theorem d_m_plainOwns_14 : decode b_m_plainOwns 14 = .ok (.ireturn, 1) := by decide +kernel
abbrev b_m_personOwns : ByteArray := prog_14_method_85_code
abbrev y_m_personOwns : MethodName := ⟨"WhoRulesModel", "personOwns", "(II)I"⟩
theorem d_m_personOwns_0 : decode b_m_personOwns 0 = .ok (.aload_n 0, 1) := by decide +kernel
theorem d_m_personOwns_1 : decode b_m_personOwns 1 = .ok (.bipush 30, 2) := by decide +kernel
theorem d_m_personOwns_3 : decode b_m_personOwns 3 = .ok (.invokevirtual 426, 3) := by decide +kernel
theorem d_m_personOwns_6 : decode b_m_personOwns 6 = .ok (.aload_n 0, 1) := by decide +kernel
theorem d_m_personOwns_7 : decode b_m_personOwns 7 = .ok (.iload_n 1, 1) := by decide +kernel
theorem d_m_personOwns_8 : decode b_m_personOwns 8 = .ok (.iload_n 2, 1) := by decide +kernel
theorem d_m_personOwns_9 : decode b_m_personOwns 9 = .ok (.iconst 3, 1) := by decide +kernel
theorem d_m_personOwns_10 : decode b_m_personOwns 10 = .ok (.imul, 1) := by decide +kernel
theorem d_m_personOwns_11 : decode b_m_personOwns 11 = .ok (.invokevirtual 436, 3) := by decide +kernel
theorem d_m_personOwns_14 : decode b_m_personOwns 14 = .ok (.ireturn, 1) := by decide +kernel
abbrev b_m_ownsBy : ByteArray := prog_14_method_86_code
abbrev y_m_ownsBy : MethodName := ⟨"WhoRulesModel", "ownsBy", "(II)I"⟩
theorem d_m_ownsBy_0 : decode b_m_ownsBy 0 = .ok (.aload_n 0, 1) := by decide +kernel
theorem d_m_ownsBy_1 : decode b_m_ownsBy 1 = .ok (.getfield 25, 3) := by decide +kernel
theorem d_m_ownsBy_4 : decode b_m_ownsBy 4 = .ok (.iload_n 1, 1) := by decide +kernel
theorem d_m_ownsBy_5 : decode b_m_ownsBy 5 = .ok (.iaload, 1) := by decide +kernel
theorem d_m_ownsBy_6 : decode b_m_ownsBy 6 = .ok (.iconst 2, 1) := by decide +kernel
theorem d_m_ownsBy_7 : decode b_m_ownsBy 7 = .ok (.if_icmp .ne 10, 3) := by decide +kernel
theorem d_m_ownsBy_10 : decode b_m_ownsBy 10 = .ok (.aload_n 0, 1) := by decide +kernel
theorem d_m_ownsBy_11 : decode b_m_ownsBy 11 = .ok (.iload_n 1, 1) := by decide +kernel
theorem d_m_ownsBy_12 : decode b_m_ownsBy 12 = .ok (.iload_n 2, 1) := by decide +kernel
theorem d_m_ownsBy_13 : decode b_m_ownsBy 13 = .ok (.invokevirtual 439, 3) := by decide +kernel
theorem d_m_ownsBy_16 : decode b_m_ownsBy 16 = .ok (.ireturn, 1) := by decide +kernel
theorem d_m_ownsBy_17 : decode b_m_ownsBy 17 = .ok (.aload_n 0, 1) := by decide +kernel
theorem d_m_ownsBy_18 : decode b_m_ownsBy 18 = .ok (.getfield 25, 3) := by decide +kernel
theorem d_m_ownsBy_21 : decode b_m_ownsBy 21 = .ok (.iload_n 1, 1) := by decide +kernel
theorem d_m_ownsBy_22 : decode b_m_ownsBy 22 = .ok (.iaload, 1) := by decide +kernel
theorem d_m_ownsBy_23 : decode b_m_ownsBy 23 = .ok (.iconst 3, 1) := by decide +kernel
theorem d_m_ownsBy_24 : decode b_m_ownsBy 24 = .ok (.if_icmp .ne 30, 3) := by decide +kernel
theorem d_m_ownsBy_27 : decode b_m_ownsBy 27 = .ok (.aload_n 0, 1) := by decide +kernel
theorem d_m_ownsBy_28 : decode b_m_ownsBy 28 = .ok (.bipush 41, 2) := by decide +kernel
theorem d_m_ownsBy_30 : decode b_m_ownsBy 30 = .ok (.invokevirtual 426, 3) := by decide +kernel
theorem d_m_ownsBy_33 : decode b_m_ownsBy 33 = .ok (.aload_n 0, 1) := by decide +kernel
theorem d_m_ownsBy_34 : decode b_m_ownsBy 34 = .ok (.iload_n 1, 1) := by decide +kernel
theorem d_m_ownsBy_35 : decode b_m_ownsBy 35 = .ok (.iload_n 2, 1) := by decide +kernel
theorem d_m_ownsBy_36 : decode b_m_ownsBy 36 = .ok (.invokevirtual 439, 3) := by decide +kernel
theorem d_m_ownsBy_39 : decode b_m_ownsBy 39 = .ok (.istore_n 3, 1) := by decide +kernel
theorem d_m_ownsBy_40 : decode b_m_ownsBy 40 = .ok (.iload_n 3, 1) := by decide +kernel
theorem d_m_ownsBy_41 : decode b_m_ownsBy 41 = .ok (.aload_n 0, 1) := by decide +kernel
theorem d_m_ownsBy_42 : decode b_m_ownsBy 42 = .ok (.iload_n 1, 1) := by decide +kernel
theorem d_m_ownsBy_43 : decode b_m_ownsBy 43 = .ok (.aload_n 0, 1) := by decide +kernel
theorem d_m_ownsBy_44 : decode b_m_ownsBy 44 = .ok (.getfield 29, 3) := by decide +kernel
theorem d_m_ownsBy_47 : decode b_m_ownsBy 47 = .ok (.iload_n 1, 1) := by decide +kernel
theorem d_m_ownsBy_48 : decode b_m_ownsBy 48 = .ok (.iaload, 1) := by decide +kernel
theorem d_m_ownsBy_49 : decode b_m_ownsBy 49 = .ok (.invokevirtual 429, 3) := by decide +kernel
theorem d_m_ownsBy_52 : decode b_m_ownsBy 52 = .ok (.iadd, 1) := by decide +kernel
theorem d_m_ownsBy_53 : decode b_m_ownsBy 53 = .ok (.ireturn, 1) := by decide +kernel
theorem d_m_ownsBy_54 : decode b_m_ownsBy 54 = .ok (.aload_n 0, 1) := by decide +kernel
theorem d_m_ownsBy_55 : decode b_m_ownsBy 55 = .ok (.iload_n 1, 1) := by decide +kernel
theorem d_m_ownsBy_56 : decode b_m_ownsBy 56 = .ok (.iload_n 2, 1) := by decide +kernel
theorem d_m_ownsBy_57 : decode b_m_ownsBy 57 = .ok (.invokevirtual 436, 3) := by decide +kernel
theorem d_m_ownsBy_60 : decode b_m_ownsBy 60 = .ok (.ireturn, 1) := by decide +kernel
abbrev b_m_plainRules : ByteArray := prog_14_method_87_code
abbrev y_m_plainRules : MethodName := ⟨"WhoRulesModel", "plainRules", "(II)I"⟩
theorem d_m_plainRules_0 : decode b_m_plainRules 0 = .ok (.aload_n 0, 1) := by decide +kernel
theorem d_m_plainRules_1 : decode b_m_plainRules 1 = .ok (.bipush 12, 2) := by decide +kernel
theorem d_m_plainRules_3 : decode b_m_plainRules 3 = .ok (.invokevirtual 426, 3) := by decide +kernel
theorem d_m_plainRules_6 : decode b_m_plainRules 6 = .ok (.aload_n 0, 1) := by decide +kernel
theorem d_m_plainRules_7 : decode b_m_plainRules 7 = .ok (.iload_n 1, 1) := by decide +kernel
theorem d_m_plainRules_8 : decode b_m_plainRules 8 = .ok (.iload_n 2, 1) := by decide +kernel
theorem d_m_plainRules_9 : decode b_m_plainRules 9 = .ok (.invokevirtual 442, 3) := by decide +kernel
theorem d_m_plainRules_12 : decode b_m_plainRules 12 = .ok (.aload_n 0, 1) := by decide +kernel
theorem d_m_plainRules_13 : decode b_m_plainRules 13 = .ok (.getfield 29, 3) := by decide +kernel
theorem d_m_plainRules_16 : decode b_m_plainRules 16 = .ok (.iload_n 1, 1) := by decide +kernel
theorem d_m_plainRules_17 : decode b_m_plainRules 17 = .ok (.iaload, 1) := by decide +kernel
theorem d_m_plainRules_18 : decode b_m_plainRules 18 = .ok (.isub, 1) := by decide +kernel
theorem d_m_plainRules_19 : decode b_m_plainRules 19 = .ok (.ireturn, 1) := by decide +kernel
abbrev b_m_fundRules : ByteArray := prog_14_method_88_code
abbrev y_m_fundRules : MethodName := ⟨"WhoRulesModel", "fundRules", "(II)I"⟩
theorem d_m_fundRules_0 : decode b_m_fundRules 0 = .ok (.aload_n 0, 1) := by decide +kernel
theorem d_m_fundRules_1 : decode b_m_fundRules 1 = .ok (.bipush 50, 2) := by decide +kernel
theorem d_m_fundRules_3 : decode b_m_fundRules 3 = .ok (.invokevirtual 426, 3) := by decide +kernel
theorem d_m_fundRules_6 : decode b_m_fundRules 6 = .ok (.aload_n 0, 1) := by decide +kernel
theorem d_m_fundRules_7 : decode b_m_fundRules 7 = .ok (.iload_n 1, 1) := by decide +kernel
theorem d_m_fundRules_8 : decode b_m_fundRules 8 = .ok (.iload_n 2, 1) := by decide +kernel
theorem d_m_fundRules_9 : decode b_m_fundRules 9 = .ok (.invokevirtual 442, 3) := by decide +kernel
theorem d_m_fundRules_12 : decode b_m_fundRules 12 = .ok (.istore_n 3, 1) := by decide +kernel
theorem d_m_fundRules_13 : decode b_m_fundRules 13 = .ok (.iload_n 3, 1) := by decide +kernel
theorem d_m_fundRules_14 : decode b_m_fundRules 14 = .ok (.aload_n 0, 1) := by decide +kernel
theorem d_m_fundRules_15 : decode b_m_fundRules 15 = .ok (.iload_n 1, 1) := by decide +kernel
theorem d_m_fundRules_16 : decode b_m_fundRules 16 = .ok (.iload_n 2, 1) := by decide +kernel
theorem d_m_fundRules_17 : decode b_m_fundRules 17 = .ok (.invokevirtual 445, 3) := by decide +kernel
theorem d_m_fundRules_20 : decode b_m_fundRules 20 = .ok (.isub, 1) := by decide +kernel
theorem d_m_fundRules_21 : decode b_m_fundRules 21 = .ok (.ireturn, 1) := by decide +kernel
abbrev b_m_rulesBy : ByteArray := prog_14_method_89_code
abbrev y_m_rulesBy : MethodName := ⟨"WhoRulesModel", "rulesBy", "(II)I"⟩
theorem d_m_rulesBy_0 : decode b_m_rulesBy 0 = .ok (.aload_n 0, 1) := by decide +kernel
theorem d_m_rulesBy_1 : decode b_m_rulesBy 1 = .ok (.getfield 25, 3) := by decide +kernel
theorem d_m_rulesBy_4 : decode b_m_rulesBy 4 = .ok (.iload_n 1, 1) := by decide +kernel
theorem d_m_rulesBy_5 : decode b_m_rulesBy 5 = .ok (.iaload, 1) := by decide +kernel
theorem d_m_rulesBy_6 : decode b_m_rulesBy 6 = .ok (.iconst 1, 1) := by decide +kernel
theorem d_m_rulesBy_7 : decode b_m_rulesBy 7 = .ok (.if_icmp .ne 25, 3) := by decide +kernel
theorem d_m_rulesBy_10 : decode b_m_rulesBy 10 = .ok (.aload_n 0, 1) := by decide +kernel
theorem d_m_rulesBy_11 : decode b_m_rulesBy 11 = .ok (.bipush 21, 2) := by decide +kernel
theorem d_m_rulesBy_13 : decode b_m_rulesBy 13 = .ok (.invokevirtual 426, 3) := by decide +kernel
theorem d_m_rulesBy_16 : decode b_m_rulesBy 16 = .ok (.aload_n 0, 1) := by decide +kernel
theorem d_m_rulesBy_17 : decode b_m_rulesBy 17 = .ok (.iload_n 1, 1) := by decide +kernel
theorem d_m_rulesBy_18 : decode b_m_rulesBy 18 = .ok (.iload_n 2, 1) := by decide +kernel
theorem d_m_rulesBy_19 : decode b_m_rulesBy 19 = .ok (.invokevirtual 445, 3) := by decide +kernel
theorem d_m_rulesBy_22 : decode b_m_rulesBy 22 = .ok (.istore_n 3, 1) := by decide +kernel
theorem d_m_rulesBy_23 : decode b_m_rulesBy 23 = .ok (.iload_n 3, 1) := by decide +kernel
theorem d_m_rulesBy_24 : decode b_m_rulesBy 24 = .ok (.aload_n 0, 1) := by decide +kernel
theorem d_m_rulesBy_25 : decode b_m_rulesBy 25 = .ok (.iload_n 1, 1) := by decide +kernel
theorem d_m_rulesBy_26 : decode b_m_rulesBy 26 = .ok (.iconst 1, 1) := by decide +kernel
theorem d_m_rulesBy_27 : decode b_m_rulesBy 27 = .ok (.invokevirtual 433, 3) := by decide +kernel
theorem d_m_rulesBy_30 : decode b_m_rulesBy 30 = .ok (.iadd, 1) := by decide +kernel
theorem d_m_rulesBy_31 : decode b_m_rulesBy 31 = .ok (.ireturn, 1) := by decide +kernel
theorem d_m_rulesBy_32 : decode b_m_rulesBy 32 = .ok (.aload_n 0, 1) := by decide +kernel
theorem d_m_rulesBy_33 : decode b_m_rulesBy 33 = .ok (.getfield 25, 3) := by decide +kernel
theorem d_m_rulesBy_36 : decode b_m_rulesBy 36 = .ok (.iload_n 1, 1) := by decide +kernel
theorem d_m_rulesBy_37 : decode b_m_rulesBy 37 = .ok (.iaload, 1) := by decide +kernel
theorem d_m_rulesBy_38 : decode b_m_rulesBy 38 = .ok (.iconst 4, 1) := by decide +kernel
theorem d_m_rulesBy_39 : decode b_m_rulesBy 39 = .ok (.if_icmp .ne 10, 3) := by decide +kernel
theorem d_m_rulesBy_42 : decode b_m_rulesBy 42 = .ok (.aload_n 0, 1) := by decide +kernel
theorem d_m_rulesBy_43 : decode b_m_rulesBy 43 = .ok (.iload_n 1, 1) := by decide +kernel
theorem d_m_rulesBy_44 : decode b_m_rulesBy 44 = .ok (.iload_n 2, 1) := by decide +kernel
theorem d_m_rulesBy_45 : decode b_m_rulesBy 45 = .ok (.invokevirtual 448, 3) := by decide +kernel
theorem d_m_rulesBy_48 : decode b_m_rulesBy 48 = .ok (.ireturn, 1) := by decide +kernel
theorem d_m_rulesBy_49 : decode b_m_rulesBy 49 = .ok (.aload_n 0, 1) := by decide +kernel
theorem d_m_rulesBy_50 : decode b_m_rulesBy 50 = .ok (.getfield 25, 3) := by decide +kernel
theorem d_m_rulesBy_53 : decode b_m_rulesBy 53 = .ok (.iload_n 1, 1) := by decide +kernel
theorem d_m_rulesBy_54 : decode b_m_rulesBy 54 = .ok (.iaload, 1) := by decide +kernel
theorem d_m_rulesBy_55 : decode b_m_rulesBy 55 = .ok (.iconst 5, 1) := by decide +kernel
theorem d_m_rulesBy_56 : decode b_m_rulesBy 56 = .ok (.if_icmp .ne 18, 3) := by decide +kernel
theorem d_m_rulesBy_59 : decode b_m_rulesBy 59 = .ok (.aload_n 0, 1) := by decide +kernel
theorem d_m_rulesBy_60 : decode b_m_rulesBy 60 = .ok (.bipush 61, 2) := by decide +kernel
theorem d_m_rulesBy_62 : decode b_m_rulesBy 62 = .ok (.invokevirtual 426, 3) := by decide +kernel
theorem d_m_rulesBy_65 : decode b_m_rulesBy 65 = .ok (.aload_n 0, 1) := by decide +kernel
theorem d_m_rulesBy_66 : decode b_m_rulesBy 66 = .ok (.iload_n 1, 1) := by decide +kernel
theorem d_m_rulesBy_67 : decode b_m_rulesBy 67 = .ok (.iload_n 2, 1) := by decide +kernel
theorem d_m_rulesBy_68 : decode b_m_rulesBy 68 = .ok (.invokevirtual 448, 3) := by decide +kernel
theorem d_m_rulesBy_71 : decode b_m_rulesBy 71 = .ok (.iload_n 1, 1) := by decide +kernel
theorem d_m_rulesBy_72 : decode b_m_rulesBy 72 = .ok (.ixor, 1) := by decide +kernel
theorem d_m_rulesBy_73 : decode b_m_rulesBy 73 = .ok (.ireturn, 1) := by decide +kernel
theorem d_m_rulesBy_74 : decode b_m_rulesBy 74 = .ok (.aload_n 0, 1) := by decide +kernel
theorem d_m_rulesBy_75 : decode b_m_rulesBy 75 = .ok (.iload_n 1, 1) := by decide +kernel
theorem d_m_rulesBy_76 : decode b_m_rulesBy 76 = .ok (.iload_n 2, 1) := by decide +kernel
theorem d_m_rulesBy_77 : decode b_m_rulesBy 77 = .ok (.invokevirtual 445, 3) := by decide +kernel
theorem d_m_rulesBy_80 : decode b_m_rulesBy 80 = .ok (.ireturn, 1) := by decide +kernel
abbrev b_m_act : ByteArray := prog_14_method_90_code
abbrev y_m_act : MethodName := ⟨"WhoRulesModel", "act", "(III)I"⟩
theorem d_m_act_0 : decode b_m_act 0 = .ok (.aload_n 0, 1) := by decide +kernel
theorem d_m_act_1 : decode b_m_act 1 = .ok (.iconst 0, 1) := by decide +kernel
theorem d_m_act_2 : decode b_m_act 2 = .ok (.putfield 228, 3) := by decide +kernel
theorem d_m_act_5 : decode b_m_act 5 = .ok (.aload_n 0, 1) := by decide +kernel
theorem d_m_act_6 : decode b_m_act 6 = .ok (.iload_n 1, 1) := by decide +kernel
theorem d_m_act_7 : decode b_m_act 7 = .ok (.invokevirtual 250, 3) := by decide +kernel
theorem d_m_act_10 : decode b_m_act 10 = .ok (.ifCond .eq 13, 3) := by decide +kernel
theorem d_m_act_13 : decode b_m_act 13 = .ok (.aload_n 0, 1) := by decide +kernel
theorem d_m_act_14 : decode b_m_act 14 = .ok (.iload_n 2, 1) := by decide +kernel
theorem d_m_act_15 : decode b_m_act 15 = .ok (.iconst 0, 1) := by decide +kernel
theorem d_m_act_16 : decode b_m_act 16 = .ok (.iconst 2, 1) := by decide +kernel
theorem d_m_act_17 : decode b_m_act 17 = .ok (.invokevirtual 246, 3) := by decide +kernel
theorem d_m_act_20 : decode b_m_act 20 = .ok (.ifCond .ne 5, 3) := by decide +kernel
theorem d_m_act_23 : decode b_m_act 23 = .ok (.iconst 0, 1) := by decide +kernel
theorem d_m_act_24 : decode b_m_act 24 = .ok (.ireturn, 1) := by decide +kernel
theorem d_m_act_25 : decode b_m_act 25 = .ok (.iload_n 2, 1) := by decide +kernel
theorem d_m_act_26 : decode b_m_act 26 = .ok (.ifCond .ne 12, 3) := by decide +kernel
theorem d_m_act_29 : decode b_m_act 29 = .ok (.aload_n 0, 1) := by decide +kernel
theorem d_m_act_30 : decode b_m_act 30 = .ok (.iload_n 1, 1) := by decide +kernel
theorem d_m_act_31 : decode b_m_act 31 = .ok (.iload_n 3, 1) := by decide +kernel
theorem d_m_act_32 : decode b_m_act 32 = .ok (.invokevirtual 433, 3) := by decide +kernel
theorem d_m_act_35 : decode b_m_act 35 = .ok (.goto 23, 3) := by decide +kernel
theorem d_m_act_38 : decode b_m_act 38 = .ok (.iload_n 2, 1) := by decide +kernel
theorem d_m_act_39 : decode b_m_act 39 = .ok (.iconst 1, 1) := by decide +kernel
theorem d_m_act_40 : decode b_m_act 40 = .ok (.if_icmp .ne 12, 3) := by decide +kernel
theorem d_m_act_43 : decode b_m_act 43 = .ok (.aload_n 0, 1) := by decide +kernel
theorem d_m_act_44 : decode b_m_act 44 = .ok (.iload_n 1, 1) := by decide +kernel
theorem d_m_act_45 : decode b_m_act 45 = .ok (.iload_n 3, 1) := by decide +kernel
theorem d_m_act_46 : decode b_m_act 46 = .ok (.invokevirtual 442, 3) := by decide +kernel
theorem d_m_act_49 : decode b_m_act 49 = .ok (.goto 9, 3) := by decide +kernel
theorem d_m_act_52 : decode b_m_act 52 = .ok (.aload_n 0, 1) := by decide +kernel
theorem d_m_act_53 : decode b_m_act 53 = .ok (.iload_n 1, 1) := by decide +kernel
theorem d_m_act_54 : decode b_m_act 54 = .ok (.iload_n 3, 1) := by decide +kernel
theorem d_m_act_55 : decode b_m_act 55 = .ok (.invokevirtual 451, 3) := by decide +kernel
theorem d_m_act_58 : decode b_m_act 58 = .ok (.ireturn, 1) := by decide +kernel
abbrev b_m_trace : ByteArray := prog_14_method_91_code
abbrev y_m_trace : MethodName := ⟨"WhoRulesModel", "trace", "(I)I"⟩
theorem d_m_trace_0 : decode b_m_trace 0 = .ok (.aload_n 0, 1) := by decide +kernel
theorem d_m_trace_1 : decode b_m_trace 1 = .ok (.iload_n 1, 1) := by decide +kernel
theorem d_m_trace_2 : decode b_m_trace 2 = .ok (.iconst 0, 1) := by decide +kernel
theorem d_m_trace_3 : decode b_m_trace 3 = .ok (.bipush 19, 2) := by decide +kernel
theorem d_m_trace_5 : decode b_m_trace 5 = .ok (.invokevirtual 246, 3) := by decide +kernel
theorem d_m_trace_8 : decode b_m_trace 8 = .ok (.ifCond .eq 20, 3) := by decide +kernel
theorem d_m_trace_11 : decode b_m_trace 11 = .ok (.iload_n 1, 1) := by decide +kernel
theorem d_m_trace_12 : decode b_m_trace 12 = .ok (.aload_n 0, 1) := by decide +kernel
theorem d_m_trace_13 : decode b_m_trace 13 = .ok (.getfield 228, 3) := by decide +kernel
theorem d_m_trace_16 : decode b_m_trace 16 = .ok (.if_icmp .ge 12, 3) := by decide +kernel
theorem d_m_trace_19 : decode b_m_trace 19 = .ok (.aload_n 0, 1) := by decide +kernel
theorem d_m_trace_20 : decode b_m_trace 20 = .ok (.getfield 231, 3) := by decide +kernel
theorem d_m_trace_23 : decode b_m_trace 23 = .ok (.iload_n 1, 1) := by decide +kernel
theorem d_m_trace_24 : decode b_m_trace 24 = .ok (.iaload, 1) := by decide +kernel
theorem d_m_trace_25 : decode b_m_trace 25 = .ok (.goto 4, 3) := by decide +kernel
theorem d_m_trace_28 : decode b_m_trace 28 = .ok (.iconst (-1), 1) := by decide +kernel
theorem d_m_trace_29 : decode b_m_trace 29 = .ok (.ireturn, 1) := by decide +kernel
abbrev b_m_taken : ByteArray := prog_14_method_92_code
abbrev y_m_taken : MethodName := ⟨"WhoRulesModel", "taken", "(II)I"⟩
theorem d_m_taken_0 : decode b_m_taken 0 = .ok (.aload_n 0, 1) := by decide +kernel
theorem d_m_taken_1 : decode b_m_taken 1 = .ok (.iload_n 2, 1) := by decide +kernel
theorem d_m_taken_2 : decode b_m_taken 2 = .ok (.iconst 0, 1) := by decide +kernel
theorem d_m_taken_3 : decode b_m_taken 3 = .ok (.iconst 5, 1) := by decide +kernel
theorem d_m_taken_4 : decode b_m_taken 4 = .ok (.invokevirtual 246, 3) := by decide +kernel
theorem d_m_taken_7 : decode b_m_taken 7 = .ok (.ifCond .ne 6, 3) := by decide +kernel
theorem d_m_taken_10 : decode b_m_taken 10 = .ok (.bipush (-2), 2) := by decide +kernel
theorem d_m_taken_12 : decode b_m_taken 12 = .ok (.ireturn, 1) := by decide +kernel
theorem d_m_taken_13 : decode b_m_taken 13 = .ok (.aload_n 0, 1) := by decide +kernel
theorem d_m_taken_14 : decode b_m_taken 14 = .ok (.iload_n 1, 1) := by decide +kernel
theorem d_m_taken_15 : decode b_m_taken 15 = .ok (.invokevirtual 250, 3) := by decide +kernel
theorem d_m_taken_18 : decode b_m_taken 18 = .ok (.ifCond .ne 6, 3) := by decide +kernel
theorem d_m_taken_21 : decode b_m_taken 21 = .ok (.bipush (-11), 2) := by decide +kernel
theorem d_m_taken_23 : decode b_m_taken 23 = .ok (.ireturn, 1) := by decide +kernel
theorem d_m_taken_24 : decode b_m_taken 24 = .ok (.iload_n 2, 1) := by decide +kernel
theorem d_m_taken_25 : decode b_m_taken 25 = .ok (.ifCond .eq 43, 3) := by decide +kernel
theorem d_m_taken_28 : decode b_m_taken 28 = .ok (.aload_n 0, 1) := by decide +kernel
theorem d_m_taken_29 : decode b_m_taken 29 = .ok (.getfield 25, 3) := by decide +kernel
theorem d_m_taken_32 : decode b_m_taken 32 = .ok (.iload_n 1, 1) := by decide +kernel
theorem d_m_taken_33 : decode b_m_taken 33 = .ok (.iaload, 1) := by decide +kernel
theorem d_m_taken_34 : decode b_m_taken 34 = .ok (.iload_n 2, 1) := by decide +kernel
theorem d_m_taken_35 : decode b_m_taken 35 = .ok (.if_icmp .eq 33, 3) := by decide +kernel
theorem d_m_taken_38 : decode b_m_taken 38 = .ok (.iload_n 2, 1) := by decide +kernel
theorem d_m_taken_39 : decode b_m_taken 39 = .ok (.iconst 2, 1) := by decide +kernel
theorem d_m_taken_40 : decode b_m_taken 40 = .ok (.if_icmp .ne 13, 3) := by decide +kernel
theorem d_m_taken_43 : decode b_m_taken 43 = .ok (.aload_n 0, 1) := by decide +kernel
theorem d_m_taken_44 : decode b_m_taken 44 = .ok (.getfield 25, 3) := by decide +kernel
theorem d_m_taken_47 : decode b_m_taken 47 = .ok (.iload_n 1, 1) := by decide +kernel
theorem d_m_taken_48 : decode b_m_taken 48 = .ok (.iaload, 1) := by decide +kernel
theorem d_m_taken_49 : decode b_m_taken 49 = .ok (.iconst 3, 1) := by decide +kernel
theorem d_m_taken_50 : decode b_m_taken 50 = .ok (.if_icmp .eq 18, 3) := by decide +kernel
theorem d_m_taken_53 : decode b_m_taken 53 = .ok (.iload_n 2, 1) := by decide +kernel
theorem d_m_taken_54 : decode b_m_taken 54 = .ok (.iconst 4, 1) := by decide +kernel
theorem d_m_taken_55 : decode b_m_taken 55 = .ok (.if_icmp .ne 22, 3) := by decide +kernel
theorem d_m_taken_58 : decode b_m_taken 58 = .ok (.aload_n 0, 1) := by decide +kernel
theorem d_m_taken_59 : decode b_m_taken 59 = .ok (.getfield 25, 3) := by decide +kernel
theorem d_m_taken_62 : decode b_m_taken 62 = .ok (.iload_n 1, 1) := by decide +kernel
theorem d_m_taken_63 : decode b_m_taken 63 = .ok (.iaload, 1) := by decide +kernel
theorem d_m_taken_64 : decode b_m_taken 64 = .ok (.iconst 5, 1) := by decide +kernel
theorem d_m_taken_65 : decode b_m_taken 65 = .ok (.if_icmp .ne 12, 3) := by decide +kernel
theorem d_m_taken_68 : decode b_m_taken 68 = .ok (.aload_n 0, 1) := by decide +kernel
theorem d_m_taken_69 : decode b_m_taken 69 = .ok (.getfield 25, 3) := by decide +kernel
theorem d_m_taken_72 : decode b_m_taken 72 = .ok (.iload_n 1, 1) := by decide +kernel
theorem d_m_taken_73 : decode b_m_taken 73 = .ok (.iaload, 1) := by decide +kernel
theorem d_m_taken_74 : decode b_m_taken 74 = .ok (.goto 5, 3) := by decide +kernel
theorem d_m_taken_77 : decode b_m_taken 77 = .ok (.bipush (-12), 2) := by decide +kernel
theorem d_m_taken_79 : decode b_m_taken 79 = .ok (.ireturn, 1) := by decide +kernel
abbrev b_m_count : ByteArray := prog_14_method_93_code
abbrev y_m_count : MethodName := ⟨"WhoRulesModel", "count", "(I)I"⟩
theorem d_m_count_0 : decode b_m_count 0 = .ok (.iload_n 1, 1) := by decide +kernel
theorem d_m_count_1 : decode b_m_count 1 = .ok (.tableswitch 109 0 9 #[55, 60, 65, 70, 75, 80, 85, 90, 95, 104], 55) := by decide +kernel
theorem d_m_count_56 : decode b_m_count 56 = .ok (.aload_n 0, 1) := by decide +kernel
theorem d_m_count_57 : decode b_m_count 57 = .ok (.getfield 7, 3) := by decide +kernel
theorem d_m_count_60 : decode b_m_count 60 = .ok (.ireturn, 1) := by decide +kernel
theorem d_m_count_61 : decode b_m_count 61 = .ok (.aload_n 0, 1) := by decide +kernel
theorem d_m_count_62 : decode b_m_count 62 = .ok (.getfield 13, 3) := by decide +kernel
theorem d_m_count_65 : decode b_m_count 65 = .ok (.ireturn, 1) := by decide +kernel
theorem d_m_count_66 : decode b_m_count 66 = .ok (.aload_n 0, 1) := by decide +kernel
theorem d_m_count_67 : decode b_m_count 67 = .ok (.getfield 16, 3) := by decide +kernel
theorem d_m_count_70 : decode b_m_count 70 = .ok (.ireturn, 1) := by decide +kernel
theorem d_m_count_71 : decode b_m_count 71 = .ok (.aload_n 0, 1) := by decide +kernel
theorem d_m_count_72 : decode b_m_count 72 = .ok (.getfield 19, 3) := by decide +kernel
theorem d_m_count_75 : decode b_m_count 75 = .ok (.ireturn, 1) := by decide +kernel
theorem d_m_count_76 : decode b_m_count 76 = .ok (.aload_n 0, 1) := by decide +kernel
theorem d_m_count_77 : decode b_m_count 77 = .ok (.getfield 22, 3) := by decide +kernel
theorem d_m_count_80 : decode b_m_count 80 = .ok (.ireturn, 1) := by decide +kernel
theorem d_m_count_81 : decode b_m_count 81 = .ok (.aload_n 0, 1) := by decide +kernel
theorem d_m_count_82 : decode b_m_count 82 = .ok (.getfield 65, 3) := by decide +kernel
theorem d_m_count_85 : decode b_m_count 85 = .ok (.ireturn, 1) := by decide +kernel
theorem d_m_count_86 : decode b_m_count 86 = .ok (.aload_n 0, 1) := by decide +kernel
theorem d_m_count_87 : decode b_m_count 87 = .ok (.getfield 68, 3) := by decide +kernel
theorem d_m_count_90 : decode b_m_count 90 = .ok (.ireturn, 1) := by decide +kernel
theorem d_m_count_91 : decode b_m_count 91 = .ok (.aload_n 0, 1) := by decide +kernel
theorem d_m_count_92 : decode b_m_count 92 = .ok (.getfield 204, 3) := by decide +kernel
theorem d_m_count_95 : decode b_m_count 95 = .ok (.ireturn, 1) := by decide +kernel
theorem d_m_count_96 : decode b_m_count 96 = .ok (.aload_n 0, 1) := by decide +kernel
theorem d_m_count_97 : decode b_m_count 97 = .ok (.invokevirtual 353, 3) := by decide +kernel
theorem d_m_count_100 : decode b_m_count 100 = .ok (.aload_n 0, 1) := by decide +kernel
theorem d_m_count_101 : decode b_m_count 101 = .ok (.getfield 166, 3) := by decide +kernel
theorem d_m_count_104 : decode b_m_count 104 = .ok (.ireturn, 1) := by decide +kernel
theorem d_m_count_105 : decode b_m_count 105 = .ok (.aload_n 0, 1) := by decide +kernel
theorem d_m_count_106 : decode b_m_count 106 = .ok (.getfield 228, 3) := by decide +kernel
theorem d_m_count_109 : decode b_m_count 109 = .ok (.ireturn, 1) := by decide +kernel
theorem d_m_count_110 : decode b_m_count 110 = .ok (.bipush (-2), 2) := by decide +kernel
theorem d_m_count_112 : decode b_m_count 112 = .ok (.ireturn, 1) := by decide +kernel
abbrev b_m_tape : ByteArray := prog_14_method_95_code
abbrev y_m_tape : MethodName := ⟨"WhoRulesModel", "tape", "(III)I"⟩
theorem d_m_tape_0 : decode b_m_tape 0 = .ok (.aload_n 0, 1) := by decide +kernel
theorem d_m_tape_1 : decode b_m_tape 1 = .ok (.iload_n 1, 1) := by decide +kernel
theorem d_m_tape_2 : decode b_m_tape 2 = .ok (.invokevirtual 359, 3) := by decide +kernel
theorem d_m_tape_5 : decode b_m_tape 5 = .ok (.ifCond .ne 5, 3) := by decide +kernel
theorem d_m_tape_8 : decode b_m_tape 8 = .ok (.iconst (-1), 1) := by decide +kernel
theorem d_m_tape_9 : decode b_m_tape 9 = .ok (.ireturn, 1) := by decide +kernel
theorem d_m_tape_10 : decode b_m_tape 10 = .ok (.aload_n 0, 1) := by decide +kernel
theorem d_m_tape_11 : decode b_m_tape 11 = .ok (.iload_n 2, 1) := by decide +kernel
theorem d_m_tape_12 : decode b_m_tape 12 = .ok (.iconst (-1), 1) := by decide +kernel
theorem d_m_tape_13 : decode b_m_tape 13 = .ok (.iconst 4, 1) := by decide +kernel
theorem d_m_tape_14 : decode b_m_tape 14 = .ok (.invokevirtual 246, 3) := by decide +kernel
theorem d_m_tape_17 : decode b_m_tape 17 = .ok (.ifCond .eq 13, 3) := by decide +kernel
theorem d_m_tape_20 : decode b_m_tape 20 = .ok (.iload_n 2, 1) := by decide +kernel
theorem d_m_tape_21 : decode b_m_tape 21 = .ok (.ifCond .lt 12, 3) := by decide +kernel
theorem d_m_tape_24 : decode b_m_tape 24 = .ok (.iload_n 3, 1) := by decide +kernel
theorem d_m_tape_25 : decode b_m_tape 25 = .ok (.bipush 60, 2) := by decide +kernel
theorem d_m_tape_27 : decode b_m_tape 27 = .ok (.if_icmp .le 6, 3) := by decide +kernel
theorem d_m_tape_30 : decode b_m_tape 30 = .ok (.bipush (-2), 2) := by decide +kernel
theorem d_m_tape_32 : decode b_m_tape 32 = .ok (.ireturn, 1) := by decide +kernel
theorem d_m_tape_33 : decode b_m_tape 33 = .ok (.iload_n 2, 1) := by decide +kernel
theorem d_m_tape_34 : decode b_m_tape 34 = .ok (.ifCond .lt 10, 3) := by decide +kernel
theorem d_m_tape_37 : decode b_m_tape 37 = .ok (.iload_n 3, 1) := by decide +kernel
theorem d_m_tape_38 : decode b_m_tape 38 = .ok (.ifCond .ge 6, 3) := by decide +kernel
theorem d_m_tape_41 : decode b_m_tape 41 = .ok (.bipush (-14), 2) := by decide +kernel
theorem d_m_tape_43 : decode b_m_tape 43 = .ok (.ireturn, 1) := by decide +kernel
theorem d_m_tape_44 : decode b_m_tape 44 = .ok (.aload_n 0, 1) := by decide +kernel
theorem d_m_tape_45 : decode b_m_tape 45 = .ok (.getfield 234, 3) := by decide +kernel
theorem d_m_tape_48 : decode b_m_tape 48 = .ok (.iload_n 1, 1) := by decide +kernel
theorem d_m_tape_49 : decode b_m_tape 49 = .ok (.iload_n 2, 1) := by decide +kernel
theorem d_m_tape_50 : decode b_m_tape 50 = .ok (.iastore, 1) := by decide +kernel
theorem d_m_tape_51 : decode b_m_tape 51 = .ok (.aload_n 0, 1) := by decide +kernel
theorem d_m_tape_52 : decode b_m_tape 52 = .ok (.getfield 237, 3) := by decide +kernel
theorem d_m_tape_55 : decode b_m_tape 55 = .ok (.iload_n 1, 1) := by decide +kernel
theorem d_m_tape_56 : decode b_m_tape 56 = .ok (.iload_n 2, 1) := by decide +kernel
theorem d_m_tape_57 : decode b_m_tape 57 = .ok (.ifCond .ge 7, 3) := by decide +kernel
theorem d_m_tape_60 : decode b_m_tape 60 = .ok (.iconst 0, 1) := by decide +kernel
theorem d_m_tape_61 : decode b_m_tape 61 = .ok (.goto 4, 3) := by decide +kernel
theorem d_m_tape_64 : decode b_m_tape 64 = .ok (.iload_n 3, 1) := by decide +kernel
theorem d_m_tape_65 : decode b_m_tape 65 = .ok (.iastore, 1) := by decide +kernel
theorem d_m_tape_66 : decode b_m_tape 66 = .ok (.iconst 0, 1) := by decide +kernel
theorem d_m_tape_67 : decode b_m_tape 67 = .ok (.istore 4, 2) := by decide +kernel
theorem d_m_tape_69 : decode b_m_tape 69 = .ok (.iload 4, 2) := by decide +kernel
theorem d_m_tape_71 : decode b_m_tape 71 = .ok (.bipush 60, 2) := by decide +kernel
theorem d_m_tape_73 : decode b_m_tape 73 = .ok (.if_icmp .ge 22, 3) := by decide +kernel
theorem d_m_tape_76 : decode b_m_tape 76 = .ok (.aload_n 0, 1) := by decide +kernel
theorem d_m_tape_77 : decode b_m_tape 77 = .ok (.getfield 240, 3) := by decide +kernel
theorem d_m_tape_80 : decode b_m_tape 80 = .ok (.bipush 60, 2) := by decide +kernel
theorem d_m_tape_82 : decode b_m_tape 82 = .ok (.iload_n 1, 1) := by decide +kernel
theorem d_m_tape_83 : decode b_m_tape 83 = .ok (.imul, 1) := by decide +kernel
theorem d_m_tape_84 : decode b_m_tape 84 = .ok (.iload 4, 2) := by decide +kernel
theorem d_m_tape_86 : decode b_m_tape 86 = .ok (.iadd, 1) := by decide +kernel
theorem d_m_tape_87 : decode b_m_tape 87 = .ok (.lconst 0, 1) := by decide +kernel
theorem d_m_tape_88 : decode b_m_tape 88 = .ok (.lastore, 1) := by decide +kernel
theorem d_m_tape_89 : decode b_m_tape 89 = .ok (.iinc 4 1, 3) := by decide +kernel
theorem d_m_tape_92 : decode b_m_tape 92 = .ok (.goto (-23), 3) := by decide +kernel
theorem d_m_tape_95 : decode b_m_tape 95 = .ok (.iconst 1, 1) := by decide +kernel
theorem d_m_tape_96 : decode b_m_tape 96 = .ok (.ireturn, 1) := by decide +kernel
abbrev b_m_narrow : ByteArray := prog_14_method_96_code
abbrev y_m_narrow : MethodName := ⟨"WhoRulesModel", "narrow", "(IJ)J"⟩
theorem d_m_narrow_0 : decode b_m_narrow 0 = .ok (.iload_n 1, 1) := by decide +kernel
theorem d_m_narrow_1 : decode b_m_narrow 1 = .ok (.ifCond .ne 10, 3) := by decide +kernel
theorem d_m_narrow_4 : decode b_m_narrow 4 = .ok (.lload_n 2, 1) := by decide +kernel
theorem d_m_narrow_5 : decode b_m_narrow 5 = .ok (.l2i, 1) := by decide +kernel
theorem d_m_narrow_6 : decode b_m_narrow 6 = .ok (.i2b, 1) := by decide +kernel
theorem d_m_narrow_7 : decode b_m_narrow 7 = .ok (.i2l, 1) := by decide +kernel
theorem d_m_narrow_8 : decode b_m_narrow 8 = .ok (.goto 46, 3) := by decide +kernel
theorem d_m_narrow_11 : decode b_m_narrow 11 = .ok (.iload_n 1, 1) := by decide +kernel
theorem d_m_narrow_12 : decode b_m_narrow 12 = .ok (.iconst 1, 1) := by decide +kernel
theorem d_m_narrow_13 : decode b_m_narrow 13 = .ok (.if_icmp .ne 10, 3) := by decide +kernel
theorem d_m_narrow_16 : decode b_m_narrow 16 = .ok (.lload_n 2, 1) := by decide +kernel
theorem d_m_narrow_17 : decode b_m_narrow 17 = .ok (.l2i, 1) := by decide +kernel
theorem d_m_narrow_18 : decode b_m_narrow 18 = .ok (.i2s, 1) := by decide +kernel
theorem d_m_narrow_19 : decode b_m_narrow 19 = .ok (.i2l, 1) := by decide +kernel
theorem d_m_narrow_20 : decode b_m_narrow 20 = .ok (.goto 34, 3) := by decide +kernel
theorem d_m_narrow_23 : decode b_m_narrow 23 = .ok (.iload_n 1, 1) := by decide +kernel
theorem d_m_narrow_24 : decode b_m_narrow 24 = .ok (.iconst 2, 1) := by decide +kernel
theorem d_m_narrow_25 : decode b_m_narrow 25 = .ok (.if_icmp .ne 9, 3) := by decide +kernel
theorem d_m_narrow_28 : decode b_m_narrow 28 = .ok (.lload_n 2, 1) := by decide +kernel
theorem d_m_narrow_29 : decode b_m_narrow 29 = .ok (.l2i, 1) := by decide +kernel
theorem d_m_narrow_30 : decode b_m_narrow 30 = .ok (.i2l, 1) := by decide +kernel
theorem d_m_narrow_31 : decode b_m_narrow 31 = .ok (.goto 23, 3) := by decide +kernel
theorem d_m_narrow_34 : decode b_m_narrow 34 = .ok (.iload_n 1, 1) := by decide +kernel
theorem d_m_narrow_35 : decode b_m_narrow 35 = .ok (.iconst 4, 1) := by decide +kernel
theorem d_m_narrow_36 : decode b_m_narrow 36 = .ok (.if_icmp .ne 17, 3) := by decide +kernel
theorem d_m_narrow_39 : decode b_m_narrow 39 = .ok (.lload_n 2, 1) := by decide +kernel
theorem d_m_narrow_40 : decode b_m_narrow 40 = .ok (.lconst 0, 1) := by decide +kernel
theorem d_m_narrow_41 : decode b_m_narrow 41 = .ok (.lcmp, 1) := by decide +kernel
theorem d_m_narrow_42 : decode b_m_narrow 42 = .ok (.ifCond .eq 7, 3) := by decide +kernel
theorem d_m_narrow_45 : decode b_m_narrow 45 = .ok (.lconst 1, 1) := by decide +kernel
theorem d_m_narrow_46 : decode b_m_narrow 46 = .ok (.goto 8, 3) := by decide +kernel
theorem d_m_narrow_49 : decode b_m_narrow 49 = .ok (.lconst 0, 1) := by decide +kernel
theorem d_m_narrow_50 : decode b_m_narrow 50 = .ok (.goto 4, 3) := by decide +kernel
theorem d_m_narrow_53 : decode b_m_narrow 53 = .ok (.lload_n 2, 1) := by decide +kernel
theorem d_m_narrow_54 : decode b_m_narrow 54 = .ok (.lreturn, 1) := by decide +kernel
abbrev b_m_item : ByteArray := prog_14_method_97_code
abbrev y_m_item : MethodName := ⟨"WhoRulesModel", "item", "(IIJ)I"⟩
theorem d_m_item_0 : decode b_m_item 0 = .ok (.aload_n 0, 1) := by decide +kernel
theorem d_m_item_1 : decode b_m_item 1 = .ok (.iload_n 1, 1) := by decide +kernel
theorem d_m_item_2 : decode b_m_item 2 = .ok (.invokevirtual 359, 3) := by decide +kernel
theorem d_m_item_5 : decode b_m_item 5 = .ok (.ifCond .ne 5, 3) := by decide +kernel
theorem d_m_item_8 : decode b_m_item 8 = .ok (.iconst (-1), 1) := by decide +kernel
theorem d_m_item_9 : decode b_m_item 9 = .ok (.ireturn, 1) := by decide +kernel
theorem d_m_item_10 : decode b_m_item 10 = .ok (.aload_n 0, 1) := by decide +kernel
theorem d_m_item_11 : decode b_m_item 11 = .ok (.getfield 234, 3) := by decide +kernel
theorem d_m_item_14 : decode b_m_item 14 = .ok (.iload_n 1, 1) := by decide +kernel
theorem d_m_item_15 : decode b_m_item 15 = .ok (.iaload, 1) := by decide +kernel
theorem d_m_item_16 : decode b_m_item 16 = .ok (.ifCond .ge 6, 3) := by decide +kernel
theorem d_m_item_19 : decode b_m_item 19 = .ok (.bipush (-11), 2) := by decide +kernel
theorem d_m_item_21 : decode b_m_item 21 = .ok (.ireturn, 1) := by decide +kernel
theorem d_m_item_22 : decode b_m_item 22 = .ok (.aload_n 0, 1) := by decide +kernel
theorem d_m_item_23 : decode b_m_item 23 = .ok (.iload_n 2, 1) := by decide +kernel
theorem d_m_item_24 : decode b_m_item 24 = .ok (.iconst 0, 1) := by decide +kernel
theorem d_m_item_25 : decode b_m_item 25 = .ok (.aload_n 0, 1) := by decide +kernel
theorem d_m_item_26 : decode b_m_item 26 = .ok (.getfield 237, 3) := by decide +kernel
theorem d_m_item_29 : decode b_m_item 29 = .ok (.iload_n 1, 1) := by decide +kernel
theorem d_m_item_30 : decode b_m_item 30 = .ok (.iaload, 1) := by decide +kernel
theorem d_m_item_31 : decode b_m_item 31 = .ok (.iconst 1, 1) := by decide +kernel
theorem d_m_item_32 : decode b_m_item 32 = .ok (.isub, 1) := by decide +kernel
theorem d_m_item_33 : decode b_m_item 33 = .ok (.invokevirtual 246, 3) := by decide +kernel
theorem d_m_item_36 : decode b_m_item 36 = .ok (.ifCond .ne 6, 3) := by decide +kernel
theorem d_m_item_39 : decode b_m_item 39 = .ok (.bipush (-13), 2) := by decide +kernel
theorem d_m_item_41 : decode b_m_item 41 = .ok (.ireturn, 1) := by decide +kernel
theorem d_m_item_42 : decode b_m_item 42 = .ok (.aload_n 0, 1) := by decide +kernel
theorem d_m_item_43 : decode b_m_item 43 = .ok (.getfield 240, 3) := by decide +kernel
theorem d_m_item_46 : decode b_m_item 46 = .ok (.bipush 60, 2) := by decide +kernel
theorem d_m_item_48 : decode b_m_item 48 = .ok (.iload_n 1, 1) := by decide +kernel
theorem d_m_item_49 : decode b_m_item 49 = .ok (.imul, 1) := by decide +kernel
theorem d_m_item_50 : decode b_m_item 50 = .ok (.iload_n 2, 1) := by decide +kernel
theorem d_m_item_51 : decode b_m_item 51 = .ok (.iadd, 1) := by decide +kernel
theorem d_m_item_52 : decode b_m_item 52 = .ok (.aload_n 0, 1) := by decide +kernel
theorem d_m_item_53 : decode b_m_item 53 = .ok (.aload_n 0, 1) := by decide +kernel
theorem d_m_item_54 : decode b_m_item 54 = .ok (.getfield 234, 3) := by decide +kernel
theorem d_m_item_57 : decode b_m_item 57 = .ok (.iload_n 1, 1) := by decide +kernel
theorem d_m_item_58 : decode b_m_item 58 = .ok (.iaload, 1) := by decide +kernel
theorem d_m_item_59 : decode b_m_item 59 = .ok (.lload_n 3, 1) := by decide +kernel
theorem d_m_item_60 : decode b_m_item 60 = .ok (.invokevirtual 454, 3) := by decide +kernel
theorem d_m_item_63 : decode b_m_item 63 = .ok (.lastore, 1) := by decide +kernel
theorem d_m_item_64 : decode b_m_item 64 = .ok (.iconst 1, 1) := by decide +kernel
theorem d_m_item_65 : decode b_m_item 65 = .ok (.ireturn, 1) := by decide +kernel
abbrev b_m_read : ByteArray := prog_14_method_98_code
abbrev y_m_read : MethodName := ⟨"WhoRulesModel", "read", "(II)J"⟩
theorem d_m_read_0 : decode b_m_read 0 = .ok (.aload_n 0, 1) := by decide +kernel
theorem d_m_read_1 : decode b_m_read 1 = .ok (.iload_n 1, 1) := by decide +kernel
theorem d_m_read_2 : decode b_m_read 2 = .ok (.invokevirtual 359, 3) := by decide +kernel
theorem d_m_read_5 : decode b_m_read 5 = .ok (.ifCond .eq 29, 3) := by decide +kernel
theorem d_m_read_8 : decode b_m_read 8 = .ok (.aload_n 0, 1) := by decide +kernel
theorem d_m_read_9 : decode b_m_read 9 = .ok (.getfield 234, 3) := by decide +kernel
theorem d_m_read_12 : decode b_m_read 12 = .ok (.iload_n 1, 1) := by decide +kernel
theorem d_m_read_13 : decode b_m_read 13 = .ok (.iaload, 1) := by decide +kernel
theorem d_m_read_14 : decode b_m_read 14 = .ok (.ifCond .lt 20, 3) := by decide +kernel
theorem d_m_read_17 : decode b_m_read 17 = .ok (.aload_n 0, 1) := by decide +kernel
theorem d_m_read_18 : decode b_m_read 18 = .ok (.iload_n 2, 1) := by decide +kernel
theorem d_m_read_19 : decode b_m_read 19 = .ok (.iconst 0, 1) := by decide +kernel
theorem d_m_read_20 : decode b_m_read 20 = .ok (.aload_n 0, 1) := by decide +kernel
theorem d_m_read_21 : decode b_m_read 21 = .ok (.getfield 237, 3) := by decide +kernel
theorem d_m_read_24 : decode b_m_read 24 = .ok (.iload_n 1, 1) := by decide +kernel
theorem d_m_read_25 : decode b_m_read 25 = .ok (.iaload, 1) := by decide +kernel
theorem d_m_read_26 : decode b_m_read 26 = .ok (.iconst 1, 1) := by decide +kernel
theorem d_m_read_27 : decode b_m_read 27 = .ok (.isub, 1) := by decide +kernel
theorem d_m_read_28 : decode b_m_read 28 = .ok (.invokevirtual 246, 3) := by decide +kernel
theorem d_m_read_31 : decode b_m_read 31 = .ok (.ifCond .ne 9, 3) := by decide +kernel
theorem d_m_read_34 : decode b_m_read 34 = .ok (.ldc2_w 377, 3) := by decide +kernel
theorem d_m_read_37 : decode b_m_read 37 = .ok (.goto 14, 3) := by decide +kernel
theorem d_m_read_40 : decode b_m_read 40 = .ok (.aload_n 0, 1) := by decide +kernel
theorem d_m_read_41 : decode b_m_read 41 = .ok (.getfield 240, 3) := by decide +kernel
theorem d_m_read_44 : decode b_m_read 44 = .ok (.bipush 60, 2) := by decide +kernel
theorem d_m_read_46 : decode b_m_read 46 = .ok (.iload_n 1, 1) := by decide +kernel
theorem d_m_read_47 : decode b_m_read 47 = .ok (.imul, 1) := by decide +kernel
theorem d_m_read_48 : decode b_m_read 48 = .ok (.iload_n 2, 1) := by decide +kernel
theorem d_m_read_49 : decode b_m_read 49 = .ok (.iadd, 1) := by decide +kernel
theorem d_m_read_50 : decode b_m_read 50 = .ok (.laload, 1) := by decide +kernel
theorem d_m_read_51 : decode b_m_read 51 = .ok (.lreturn, 1) := by decide +kernel
abbrev b_m_shift : ByteArray := prog_14_method_99_code
abbrev y_m_shift : MethodName := ⟨"WhoRulesModel", "shift", "(IIIII)I"⟩
theorem d_m_shift_0 : decode b_m_shift 0 = .ok (.aload_n 0, 1) := by decide +kernel
theorem d_m_shift_1 : decode b_m_shift 1 = .ok (.iload_n 1, 1) := by decide +kernel
theorem d_m_shift_2 : decode b_m_shift 2 = .ok (.invokevirtual 359, 3) := by decide +kernel
theorem d_m_shift_5 : decode b_m_shift 5 = .ok (.ifCond .eq 11, 3) := by decide +kernel
theorem d_m_shift_8 : decode b_m_shift 8 = .ok (.aload_n 0, 1) := by decide +kernel
theorem d_m_shift_9 : decode b_m_shift 9 = .ok (.iload_n 3, 1) := by decide +kernel
theorem d_m_shift_10 : decode b_m_shift 10 = .ok (.invokevirtual 359, 3) := by decide +kernel
theorem d_m_shift_13 : decode b_m_shift 13 = .ok (.ifCond .ne 5, 3) := by decide +kernel
theorem d_m_shift_16 : decode b_m_shift 16 = .ok (.iconst (-1), 1) := by decide +kernel
theorem d_m_shift_17 : decode b_m_shift 17 = .ok (.ireturn, 1) := by decide +kernel
theorem d_m_shift_18 : decode b_m_shift 18 = .ok (.aload_n 0, 1) := by decide +kernel
theorem d_m_shift_19 : decode b_m_shift 19 = .ok (.getfield 234, 3) := by decide +kernel
theorem d_m_shift_22 : decode b_m_shift 22 = .ok (.iload_n 1, 1) := by decide +kernel
theorem d_m_shift_23 : decode b_m_shift 23 = .ok (.iaload, 1) := by decide +kernel
theorem d_m_shift_24 : decode b_m_shift 24 = .ok (.ifCond .lt 12, 3) := by decide +kernel
theorem d_m_shift_27 : decode b_m_shift 27 = .ok (.aload_n 0, 1) := by decide +kernel
theorem d_m_shift_28 : decode b_m_shift 28 = .ok (.getfield 234, 3) := by decide +kernel
theorem d_m_shift_31 : decode b_m_shift 31 = .ok (.iload_n 3, 1) := by decide +kernel
theorem d_m_shift_32 : decode b_m_shift 32 = .ok (.iaload, 1) := by decide +kernel
theorem d_m_shift_33 : decode b_m_shift 33 = .ok (.ifCond .ge 6, 3) := by decide +kernel
theorem d_m_shift_36 : decode b_m_shift 36 = .ok (.bipush (-11), 2) := by decide +kernel
theorem d_m_shift_38 : decode b_m_shift 38 = .ok (.ireturn, 1) := by decide +kernel
theorem d_m_shift_39 : decode b_m_shift 39 = .ok (.aload_n 0, 1) := by decide +kernel
theorem d_m_shift_40 : decode b_m_shift 40 = .ok (.getfield 234, 3) := by decide +kernel
theorem d_m_shift_43 : decode b_m_shift 43 = .ok (.iload_n 1, 1) := by decide +kernel
theorem d_m_shift_44 : decode b_m_shift 44 = .ok (.iaload, 1) := by decide +kernel
theorem d_m_shift_45 : decode b_m_shift 45 = .ok (.aload_n 0, 1) := by decide +kernel
theorem d_m_shift_46 : decode b_m_shift 46 = .ok (.getfield 234, 3) := by decide +kernel
theorem d_m_shift_49 : decode b_m_shift 49 = .ok (.iload_n 3, 1) := by decide +kernel
theorem d_m_shift_50 : decode b_m_shift 50 = .ok (.iaload, 1) := by decide +kernel
theorem d_m_shift_51 : decode b_m_shift 51 = .ok (.if_icmp .eq 6, 3) := by decide +kernel
theorem d_m_shift_54 : decode b_m_shift 54 = .ok (.bipush (-12), 2) := by decide +kernel
theorem d_m_shift_56 : decode b_m_shift 56 = .ok (.ireturn, 1) := by decide +kernel
theorem d_m_shift_57 : decode b_m_shift 57 = .ok (.iload 5, 2) := by decide +kernel
theorem d_m_shift_59 : decode b_m_shift 59 = .ok (.ifCond .lt 39, 3) := by decide +kernel
theorem d_m_shift_62 : decode b_m_shift 62 = .ok (.iload_n 2, 1) := by decide +kernel
theorem d_m_shift_63 : decode b_m_shift 63 = .ok (.ifCond .lt 35, 3) := by decide +kernel
theorem d_m_shift_66 : decode b_m_shift 66 = .ok (.iload 4, 2) := by decide +kernel
theorem d_m_shift_68 : decode b_m_shift 68 = .ok (.ifCond .lt 30, 3) := by decide +kernel
theorem d_m_shift_71 : decode b_m_shift 71 = .ok (.iload_n 2, 1) := by decide +kernel
theorem d_m_shift_72 : decode b_m_shift 72 = .ok (.aload_n 0, 1) := by decide +kernel
theorem d_m_shift_73 : decode b_m_shift 73 = .ok (.getfield 237, 3) := by decide +kernel
theorem d_m_shift_76 : decode b_m_shift 76 = .ok (.iload_n 1, 1) := by decide +kernel
theorem d_m_shift_77 : decode b_m_shift 77 = .ok (.iaload, 1) := by decide +kernel
theorem d_m_shift_78 : decode b_m_shift 78 = .ok (.iload 5, 2) := by decide +kernel
theorem d_m_shift_80 : decode b_m_shift 80 = .ok (.isub, 1) := by decide +kernel
theorem d_m_shift_81 : decode b_m_shift 81 = .ok (.if_icmp .gt 17, 3) := by decide +kernel
theorem d_m_shift_84 : decode b_m_shift 84 = .ok (.iload 4, 2) := by decide +kernel
theorem d_m_shift_86 : decode b_m_shift 86 = .ok (.aload_n 0, 1) := by decide +kernel
theorem d_m_shift_87 : decode b_m_shift 87 = .ok (.getfield 237, 3) := by decide +kernel
theorem d_m_shift_90 : decode b_m_shift 90 = .ok (.iload_n 3, 1) := by decide +kernel
theorem d_m_shift_91 : decode b_m_shift 91 = .ok (.iaload, 1) := by decide +kernel
theorem d_m_shift_92 : decode b_m_shift 92 = .ok (.iload 5, 2) := by decide +kernel
theorem d_m_shift_94 : decode b_m_shift 94 = .ok (.isub, 1) := by decide +kernel
theorem d_m_shift_95 : decode b_m_shift 95 = .ok (.if_icmp .le 6, 3) := by decide +kernel
theorem d_m_shift_98 : decode b_m_shift 98 = .ok (.bipush (-13), 2) := by decide +kernel
theorem d_m_shift_100 : decode b_m_shift 100 = .ok (.ireturn, 1) := by decide +kernel
theorem d_m_shift_101 : decode b_m_shift 101 = .ok (.iconst 0, 1) := by decide +kernel
theorem d_m_shift_102 : decode b_m_shift 102 = .ok (.istore 6, 2) := by decide +kernel
theorem d_m_shift_104 : decode b_m_shift 104 = .ok (.iload 6, 2) := by decide +kernel
theorem d_m_shift_106 : decode b_m_shift 106 = .ok (.iload 5, 2) := by decide +kernel
theorem d_m_shift_108 : decode b_m_shift 108 = .ok (.if_icmp .ge 30, 3) := by decide +kernel
theorem d_m_shift_111 : decode b_m_shift 111 = .ok (.aload_n 0, 1) := by decide +kernel
theorem d_m_shift_112 : decode b_m_shift 112 = .ok (.getfield 243, 3) := by decide +kernel
theorem d_m_shift_115 : decode b_m_shift 115 = .ok (.iload 6, 2) := by decide +kernel
theorem d_m_shift_117 : decode b_m_shift 117 = .ok (.aload_n 0, 1) := by decide +kernel
theorem d_m_shift_118 : decode b_m_shift 118 = .ok (.getfield 240, 3) := by decide +kernel
theorem d_m_shift_121 : decode b_m_shift 121 = .ok (.bipush 60, 2) := by decide +kernel
theorem d_m_shift_123 : decode b_m_shift 123 = .ok (.iload_n 1, 1) := by decide +kernel
theorem d_m_shift_124 : decode b_m_shift 124 = .ok (.imul, 1) := by decide +kernel
theorem d_m_shift_125 : decode b_m_shift 125 = .ok (.iload_n 2, 1) := by decide +kernel
theorem d_m_shift_126 : decode b_m_shift 126 = .ok (.iadd, 1) := by decide +kernel
theorem d_m_shift_127 : decode b_m_shift 127 = .ok (.iload 6, 2) := by decide +kernel
theorem d_m_shift_129 : decode b_m_shift 129 = .ok (.iadd, 1) := by decide +kernel
theorem d_m_shift_130 : decode b_m_shift 130 = .ok (.laload, 1) := by decide +kernel
theorem d_m_shift_131 : decode b_m_shift 131 = .ok (.lastore, 1) := by decide +kernel
theorem d_m_shift_132 : decode b_m_shift 132 = .ok (.iinc 6 1, 3) := by decide +kernel
theorem d_m_shift_135 : decode b_m_shift 135 = .ok (.goto (-31), 3) := by decide +kernel
theorem d_m_shift_138 : decode b_m_shift 138 = .ok (.iconst 0, 1) := by decide +kernel
theorem d_m_shift_139 : decode b_m_shift 139 = .ok (.istore 6, 2) := by decide +kernel
theorem d_m_shift_141 : decode b_m_shift 141 = .ok (.iload 6, 2) := by decide +kernel
theorem d_m_shift_143 : decode b_m_shift 143 = .ok (.iload 5, 2) := by decide +kernel
theorem d_m_shift_145 : decode b_m_shift 145 = .ok (.if_icmp .ge 31, 3) := by decide +kernel
theorem d_m_shift_148 : decode b_m_shift 148 = .ok (.aload_n 0, 1) := by decide +kernel
theorem d_m_shift_149 : decode b_m_shift 149 = .ok (.getfield 240, 3) := by decide +kernel
theorem d_m_shift_152 : decode b_m_shift 152 = .ok (.bipush 60, 2) := by decide +kernel
theorem d_m_shift_154 : decode b_m_shift 154 = .ok (.iload_n 3, 1) := by decide +kernel
theorem d_m_shift_155 : decode b_m_shift 155 = .ok (.imul, 1) := by decide +kernel
theorem d_m_shift_156 : decode b_m_shift 156 = .ok (.iload 4, 2) := by decide +kernel
theorem d_m_shift_158 : decode b_m_shift 158 = .ok (.iadd, 1) := by decide +kernel
theorem d_m_shift_159 : decode b_m_shift 159 = .ok (.iload 6, 2) := by decide +kernel
theorem d_m_shift_161 : decode b_m_shift 161 = .ok (.iadd, 1) := by decide +kernel
theorem d_m_shift_162 : decode b_m_shift 162 = .ok (.aload_n 0, 1) := by decide +kernel
theorem d_m_shift_163 : decode b_m_shift 163 = .ok (.getfield 243, 3) := by decide +kernel
theorem d_m_shift_166 : decode b_m_shift 166 = .ok (.iload 6, 2) := by decide +kernel
theorem d_m_shift_168 : decode b_m_shift 168 = .ok (.laload, 1) := by decide +kernel
theorem d_m_shift_169 : decode b_m_shift 169 = .ok (.lastore, 1) := by decide +kernel
theorem d_m_shift_170 : decode b_m_shift 170 = .ok (.iinc 6 1, 3) := by decide +kernel
theorem d_m_shift_173 : decode b_m_shift 173 = .ok (.goto (-32), 3) := by decide +kernel
theorem d_m_shift_176 : decode b_m_shift 176 = .ok (.iload 5, 2) := by decide +kernel
theorem d_m_shift_178 : decode b_m_shift 178 = .ok (.ireturn, 1) := by decide +kernel
