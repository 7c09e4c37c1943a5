/-! Written by wip/whole/gen. Holders. -/
abbrev b_H_begin : ByteArray := prog_7_method_2_code
abbrev y_H_begin : MethodName := ⟨"WhoRules$Holder", "begin", "(I)V"⟩
theorem d_H_begin_0 : decode b_H_begin 0 = .ok (.aload_n 0, 1) := by decide +kernel
theorem d_H_begin_1 : decode b_H_begin 1 = .ok (.getfield 18, 3) := by decide +kernel
theorem d_H_begin_4 : decode b_H_begin 4 = .ok (.bipush 20, 2) := by decide +kernel
theorem d_H_begin_6 : decode b_H_begin 6 = .ok (.iaload, 1) := by decide +kernel
theorem d_H_begin_7 : decode b_H_begin 7 = .ok (.istore_n 2, 1) := by decide +kernel
theorem d_H_begin_8 : decode b_H_begin 8 = .ok (.iload_n 2, 1) := by decide +kernel
theorem d_H_begin_9 : decode b_H_begin 9 = .ok (.ifCond .lt 16, 3) := by decide +kernel
theorem d_H_begin_12 : decode b_H_begin 12 = .ok (.iload_n 2, 1) := by decide +kernel
theorem d_H_begin_13 : decode b_H_begin 13 = .ok (.bipush 20, 2) := by decide +kernel
theorem d_H_begin_15 : decode b_H_begin 15 = .ok (.if_icmp .ge 10, 3) := by decide +kernel
theorem d_H_begin_18 : decode b_H_begin 18 = .ok (.aload_n 0, 1) := by decide +kernel
theorem d_H_begin_19 : decode b_H_begin 19 = .ok (.getfield 18, 3) := by decide +kernel
theorem d_H_begin_22 : decode b_H_begin 22 = .ok (.iload_n 2, 1) := by decide +kernel
theorem d_H_begin_23 : decode b_H_begin 23 = .ok (.iload_n 1, 1) := by decide +kernel
theorem d_H_begin_24 : decode b_H_begin 24 = .ok (.iastore, 1) := by decide +kernel
theorem d_H_begin_25 : decode b_H_begin 25 = .ok (.aload_n 0, 1) := by decide +kernel
theorem d_H_begin_26 : decode b_H_begin 26 = .ok (.getfield 18, 3) := by decide +kernel
theorem d_H_begin_29 : decode b_H_begin 29 = .ok (.bipush 20, 2) := by decide +kernel
theorem d_H_begin_31 : decode b_H_begin 31 = .ok (.iload_n 2, 1) := by decide +kernel
theorem d_H_begin_32 : decode b_H_begin 32 = .ok (.iconst 1, 1) := by decide +kernel
theorem d_H_begin_33 : decode b_H_begin 33 = .ok (.iadd, 1) := by decide +kernel
theorem d_H_begin_34 : decode b_H_begin 34 = .ok (.iastore, 1) := by decide +kernel
theorem d_H_begin_35 : decode b_H_begin 35 = .ok (.return_, 1) := by decide +kernel
abbrev b_H_doVotes : ByteArray := prog_7_method_4_code
abbrev y_H_doVotes : MethodName := ⟨"WhoRules$Holder", "doVotes", "(I)I"⟩
theorem d_H_doVotes_0 : decode b_H_doVotes 0 = .ok (.aload_n 0, 1) := by decide +kernel
theorem d_H_doVotes_1 : decode b_H_doVotes 1 = .ok (.bipush 10, 2) := by decide +kernel
theorem d_H_doVotes_3 : decode b_H_doVotes 3 = .ok (.invokevirtual 32, 3) := by decide +kernel
theorem d_H_doVotes_6 : decode b_H_doVotes 6 = .ok (.iload_n 1, 1) := by decide +kernel
theorem d_H_doVotes_7 : decode b_H_doVotes 7 = .ok (.aload_n 0, 1) := by decide +kernel
theorem d_H_doVotes_8 : decode b_H_doVotes 8 = .ok (.getfield 9, 3) := by decide +kernel
theorem d_H_doVotes_11 : decode b_H_doVotes 11 = .ok (.iadd, 1) := by decide +kernel
theorem d_H_doVotes_12 : decode b_H_doVotes 12 = .ok (.ireturn, 1) := by decide +kernel
abbrev b_H_doOwns : ByteArray := prog_7_method_5_code
abbrev y_H_doOwns : MethodName := ⟨"WhoRules$Holder", "doOwns", "(I)I"⟩
theorem d_H_doOwns_0 : decode b_H_doOwns 0 = .ok (.aload_n 0, 1) := by decide +kernel
theorem d_H_doOwns_1 : decode b_H_doOwns 1 = .ok (.bipush 11, 2) := by decide +kernel
theorem d_H_doOwns_3 : decode b_H_doOwns 3 = .ok (.invokevirtual 32, 3) := by decide +kernel
theorem d_H_doOwns_6 : decode b_H_doOwns 6 = .ok (.aload_n 0, 1) := by decide +kernel
theorem d_H_doOwns_7 : decode b_H_doOwns 7 = .ok (.iload_n 1, 1) := by decide +kernel
theorem d_H_doOwns_8 : decode b_H_doOwns 8 = .ok (.invokevirtual 36, 3) := by decide +kernel
theorem d_H_doOwns_11 : decode b_H_doOwns 11 = .ok (.iconst 2, 1) := by decide +kernel
theorem d_H_doOwns_12 : decode b_H_doOwns 12 = .ok (.imul, 1) := by decide +kernel
theorem d_H_doOwns_13 : decode b_H_doOwns 13 = .ok (.ireturn, 1) := by decide +kernel
abbrev b_H_doRules : ByteArray := prog_7_method_6_code
abbrev y_H_doRules : MethodName := ⟨"WhoRules$Holder", "doRules", "(I)I"⟩
theorem d_H_doRules_0 : decode b_H_doRules 0 = .ok (.aload_n 0, 1) := by decide +kernel
theorem d_H_doRules_1 : decode b_H_doRules 1 = .ok (.bipush 12, 2) := by decide +kernel
theorem d_H_doRules_3 : decode b_H_doRules 3 = .ok (.invokevirtual 32, 3) := by decide +kernel
theorem d_H_doRules_6 : decode b_H_doRules 6 = .ok (.aload_n 0, 1) := by decide +kernel
theorem d_H_doRules_7 : decode b_H_doRules 7 = .ok (.iload_n 1, 1) := by decide +kernel
theorem d_H_doRules_8 : decode b_H_doRules 8 = .ok (.invokevirtual 40, 3) := by decide +kernel
theorem d_H_doRules_11 : decode b_H_doRules 11 = .ok (.aload_n 0, 1) := by decide +kernel
theorem d_H_doRules_12 : decode b_H_doRules 12 = .ok (.getfield 15, 3) := by decide +kernel
theorem d_H_doRules_15 : decode b_H_doRules 15 = .ok (.isub, 1) := by decide +kernel
theorem d_H_doRules_16 : decode b_H_doRules 16 = .ok (.ireturn, 1) := by decide +kernel
abbrev b_H_isUnder : ByteArray := prog_7_method_3_code
abbrev y_H_isUnder : MethodName := ⟨"WhoRules$Holder", "isUnder", "(I)Z"⟩
theorem d_H_isUnder_0 : decode b_H_isUnder 0 = .ok (.iload_n 1, 1) := by decide +kernel
theorem d_H_isUnder_1 : decode b_H_isUnder 1 = .ok (.tableswitch 57 0 4 #[35, 37, 42, 47, 52], 35) := by decide +kernel
theorem d_H_isUnder_36 : decode b_H_isUnder 36 = .ok (.iconst 1, 1) := by decide +kernel
theorem d_H_isUnder_37 : decode b_H_isUnder 37 = .ok (.ireturn, 1) := by decide +kernel
theorem d_H_isUnder_38 : decode b_H_isUnder 38 = .ok (.aload_n 0, 1) := by decide +kernel
theorem d_H_isUnder_39 : decode b_H_isUnder 39 = .ok (.instanceof 22, 3) := by decide +kernel
theorem d_H_isUnder_42 : decode b_H_isUnder 42 = .ok (.ireturn, 1) := by decide +kernel
theorem d_H_isUnder_43 : decode b_H_isUnder 43 = .ok (.aload_n 0, 1) := by decide +kernel
theorem d_H_isUnder_44 : decode b_H_isUnder 44 = .ok (.instanceof 24, 3) := by decide +kernel
theorem d_H_isUnder_47 : decode b_H_isUnder 47 = .ok (.ireturn, 1) := by decide +kernel
theorem d_H_isUnder_48 : decode b_H_isUnder 48 = .ok (.aload_n 0, 1) := by decide +kernel
theorem d_H_isUnder_49 : decode b_H_isUnder 49 = .ok (.instanceof 26, 3) := by decide +kernel
theorem d_H_isUnder_52 : decode b_H_isUnder 52 = .ok (.ireturn, 1) := by decide +kernel
theorem d_H_isUnder_53 : decode b_H_isUnder 53 = .ok (.aload_n 0, 1) := by decide +kernel
theorem d_H_isUnder_54 : decode b_H_isUnder 54 = .ok (.instanceof 28, 3) := by decide +kernel
theorem d_H_isUnder_57 : decode b_H_isUnder 57 = .ok (.ireturn, 1) := by decide +kernel
theorem d_H_isUnder_58 : decode b_H_isUnder 58 = .ok (.aload_n 0, 1) := by decide +kernel
theorem d_H_isUnder_59 : decode b_H_isUnder 59 = .ok (.instanceof 30, 3) := by decide +kernel
theorem d_H_isUnder_62 : decode b_H_isUnder 62 = .ok (.ireturn, 1) := by decide +kernel
abbrev b_Hf_doVotes : ByteArray := prog_4_method_2_code
abbrev y_Hf_doVotes : MethodName := ⟨"WhoRules$Firm", "doVotes", "(I)I"⟩
theorem d_Hf_doVotes_0 : decode b_Hf_doVotes 0 = .ok (.aload_n 0, 1) := by decide +kernel
theorem d_Hf_doVotes_1 : decode b_Hf_doVotes 1 = .ok (.bipush 20, 2) := by decide +kernel
theorem d_Hf_doVotes_3 : decode b_Hf_doVotes 3 = .ok (.invokevirtual 7, 3) := by decide +kernel
theorem d_Hf_doVotes_6 : decode b_Hf_doVotes 6 = .ok (.aload_n 0, 1) := by decide +kernel
theorem d_Hf_doVotes_7 : decode b_Hf_doVotes 7 = .ok (.iload_n 1, 1) := by decide +kernel
theorem d_Hf_doVotes_8 : decode b_Hf_doVotes 8 = .ok (.invokespecial 13, 3) := by decide +kernel
theorem d_Hf_doVotes_11 : decode b_Hf_doVotes 11 = .ok (.bipush 6, 2) := by decide +kernel
theorem d_Hf_doVotes_13 : decode b_Hf_doVotes 13 = .ok (.ixor, 1) := by decide +kernel
theorem d_Hf_doVotes_14 : decode b_Hf_doVotes 14 = .ok (.ireturn, 1) := by decide +kernel
abbrev b_Hf_doRules : ByteArray := prog_4_method_3_code
abbrev y_Hf_doRules : MethodName := ⟨"WhoRules$Firm", "doRules", "(I)I"⟩
theorem d_Hf_doRules_0 : decode b_Hf_doRules 0 = .ok (.aload_n 0, 1) := by decide +kernel
theorem d_Hf_doRules_1 : decode b_Hf_doRules 1 = .ok (.bipush 21, 2) := by decide +kernel
theorem d_Hf_doRules_3 : decode b_Hf_doRules 3 = .ok (.invokevirtual 7, 3) := by decide +kernel
theorem d_Hf_doRules_6 : decode b_Hf_doRules 6 = .ok (.aload_n 0, 1) := by decide +kernel
theorem d_Hf_doRules_7 : decode b_Hf_doRules 7 = .ok (.iload_n 1, 1) := by decide +kernel
theorem d_Hf_doRules_8 : decode b_Hf_doRules 8 = .ok (.invokespecial 17, 3) := by decide +kernel
theorem d_Hf_doRules_11 : decode b_Hf_doRules 11 = .ok (.aload_n 0, 1) := by decide +kernel
theorem d_Hf_doRules_12 : decode b_Hf_doRules 12 = .ok (.iconst 1, 1) := by decide +kernel
theorem d_Hf_doRules_13 : decode b_Hf_doRules 13 = .ok (.invokevirtual 20, 3) := by decide +kernel
theorem d_Hf_doRules_16 : decode b_Hf_doRules 16 = .ok (.iadd, 1) := by decide +kernel
theorem d_Hf_doRules_17 : decode b_Hf_doRules 17 = .ok (.ireturn, 1) := by decide +kernel
abbrev b_Hp_doOwns : ByteArray := prog_9_method_2_code
abbrev y_Hp_doOwns : MethodName := ⟨"WhoRules$Person", "doOwns", "(I)I"⟩
theorem d_Hp_doOwns_0 : decode b_Hp_doOwns 0 = .ok (.aload_n 0, 1) := by decide +kernel
theorem d_Hp_doOwns_1 : decode b_Hp_doOwns 1 = .ok (.bipush 30, 2) := by decide +kernel
theorem d_Hp_doOwns_3 : decode b_Hp_doOwns 3 = .ok (.invokevirtual 7, 3) := by decide +kernel
theorem d_Hp_doOwns_6 : decode b_Hp_doOwns 6 = .ok (.aload_n 0, 1) := by decide +kernel
theorem d_Hp_doOwns_7 : decode b_Hp_doOwns 7 = .ok (.iload_n 1, 1) := by decide +kernel
theorem d_Hp_doOwns_8 : decode b_Hp_doOwns 8 = .ok (.iconst 3, 1) := by decide +kernel
theorem d_Hp_doOwns_9 : decode b_Hp_doOwns 9 = .ok (.imul, 1) := by decide +kernel
theorem d_Hp_doOwns_10 : decode b_Hp_doOwns 10 = .ok (.invokespecial 13, 3) := by decide +kernel
theorem d_Hp_doOwns_13 : decode b_Hp_doOwns 13 = .ok (.ireturn, 1) := by decide +kernel
abbrev b_Hk_doVotes : ByteArray := prog_8_method_2_code
abbrev y_Hk_doVotes : MethodName := ⟨"WhoRules$Kin", "doVotes", "(I)I"⟩
theorem d_Hk_doVotes_0 : decode b_Hk_doVotes 0 = .ok (.aload_n 0, 1) := by decide +kernel
theorem d_Hk_doVotes_1 : decode b_Hk_doVotes 1 = .ok (.bipush 40, 2) := by decide +kernel
theorem d_Hk_doVotes_3 : decode b_Hk_doVotes 3 = .ok (.invokevirtual 7, 3) := by decide +kernel
theorem d_Hk_doVotes_6 : decode b_Hk_doVotes 6 = .ok (.aload_n 0, 1) := by decide +kernel
theorem d_Hk_doVotes_7 : decode b_Hk_doVotes 7 = .ok (.iload_n 1, 1) := by decide +kernel
theorem d_Hk_doVotes_8 : decode b_Hk_doVotes 8 = .ok (.invokespecial 13, 3) := by decide +kernel
theorem d_Hk_doVotes_11 : decode b_Hk_doVotes 11 = .ok (.ineg, 1) := by decide +kernel
theorem d_Hk_doVotes_12 : decode b_Hk_doVotes 12 = .ok (.ireturn, 1) := by decide +kernel
abbrev b_Hk_doOwns : ByteArray := prog_8_method_3_code
abbrev y_Hk_doOwns : MethodName := ⟨"WhoRules$Kin", "doOwns", "(I)I"⟩
theorem d_Hk_doOwns_0 : decode b_Hk_doOwns 0 = .ok (.aload_n 0, 1) := by decide +kernel
theorem d_Hk_doOwns_1 : decode b_Hk_doOwns 1 = .ok (.bipush 41, 2) := by decide +kernel
theorem d_Hk_doOwns_3 : decode b_Hk_doOwns 3 = .ok (.invokevirtual 7, 3) := by decide +kernel
theorem d_Hk_doOwns_6 : decode b_Hk_doOwns 6 = .ok (.aload_n 0, 1) := by decide +kernel
theorem d_Hk_doOwns_7 : decode b_Hk_doOwns 7 = .ok (.iload_n 1, 1) := by decide +kernel
theorem d_Hk_doOwns_8 : decode b_Hk_doOwns 8 = .ok (.invokespecial 17, 3) := by decide +kernel
theorem d_Hk_doOwns_11 : decode b_Hk_doOwns 11 = .ok (.aload_n 0, 1) := by decide +kernel
theorem d_Hk_doOwns_12 : decode b_Hk_doOwns 12 = .ok (.aload_n 0, 1) := by decide +kernel
theorem d_Hk_doOwns_13 : decode b_Hk_doOwns 13 = .ok (.getfield 20, 3) := by decide +kernel
theorem d_Hk_doOwns_16 : decode b_Hk_doOwns 16 = .ok (.invokespecial 13, 3) := by decide +kernel
theorem d_Hk_doOwns_19 : decode b_Hk_doOwns 19 = .ok (.iadd, 1) := by decide +kernel
theorem d_Hk_doOwns_20 : decode b_Hk_doOwns 20 = .ok (.ireturn, 1) := by decide +kernel
abbrev b_Hu_doRules : ByteArray := prog_6_method_2_code
abbrev y_Hu_doRules : MethodName := ⟨"WhoRules$Fund", "doRules", "(I)I"⟩
theorem d_Hu_doRules_0 : decode b_Hu_doRules 0 = .ok (.aload_n 0, 1) := by decide +kernel
theorem d_Hu_doRules_1 : decode b_Hu_doRules 1 = .ok (.bipush 50, 2) := by decide +kernel
theorem d_Hu_doRules_3 : decode b_Hu_doRules 3 = .ok (.invokevirtual 7, 3) := by decide +kernel
theorem d_Hu_doRules_6 : decode b_Hu_doRules 6 = .ok (.aload_n 0, 1) := by decide +kernel
theorem d_Hu_doRules_7 : decode b_Hu_doRules 7 = .ok (.iload_n 1, 1) := by decide +kernel
theorem d_Hu_doRules_8 : decode b_Hu_doRules 8 = .ok (.invokevirtual 13, 3) := by decide +kernel
theorem d_Hu_doRules_11 : decode b_Hu_doRules 11 = .ok (.aload_n 0, 1) := by decide +kernel
theorem d_Hu_doRules_12 : decode b_Hu_doRules 12 = .ok (.iload_n 1, 1) := by decide +kernel
theorem d_Hu_doRules_13 : decode b_Hu_doRules 13 = .ok (.invokespecial 17, 3) := by decide +kernel
theorem d_Hu_doRules_16 : decode b_Hu_doRules 16 = .ok (.isub, 1) := by decide +kernel
theorem d_Hu_doRules_17 : decode b_Hu_doRules 17 = .ok (.ireturn, 1) := by decide +kernel
abbrev b_Hc_doVotes : ByteArray := prog_3_method_2_code
abbrev y_Hc_doVotes : MethodName := ⟨"WhoRules$Club", "doVotes", "(I)I"⟩
theorem d_Hc_doVotes_0 : decode b_Hc_doVotes 0 = .ok (.aload_n 0, 1) := by decide +kernel
theorem d_Hc_doVotes_1 : decode b_Hc_doVotes 1 = .ok (.bipush 60, 2) := by decide +kernel
theorem d_Hc_doVotes_3 : decode b_Hc_doVotes 3 = .ok (.invokevirtual 7, 3) := by decide +kernel
theorem d_Hc_doVotes_6 : decode b_Hc_doVotes 6 = .ok (.aload_n 0, 1) := by decide +kernel
theorem d_Hc_doVotes_7 : decode b_Hc_doVotes 7 = .ok (.iload_n 1, 1) := by decide +kernel
theorem d_Hc_doVotes_8 : decode b_Hc_doVotes 8 = .ok (.iconst 4, 1) := by decide +kernel
theorem d_Hc_doVotes_9 : decode b_Hc_doVotes 9 = .ok (.iadd, 1) := by decide +kernel
theorem d_Hc_doVotes_10 : decode b_Hc_doVotes 10 = .ok (.invokespecial 13, 3) := by decide +kernel
theorem d_Hc_doVotes_13 : decode b_Hc_doVotes 13 = .ok (.ireturn, 1) := by decide +kernel
abbrev b_Hc_doRules : ByteArray := prog_3_method_3_code
abbrev y_Hc_doRules : MethodName := ⟨"WhoRules$Club", "doRules", "(I)I"⟩
theorem d_Hc_doRules_0 : decode b_Hc_doRules 0 = .ok (.aload_n 0, 1) := by decide +kernel
theorem d_Hc_doRules_1 : decode b_Hc_doRules 1 = .ok (.bipush 61, 2) := by decide +kernel
theorem d_Hc_doRules_3 : decode b_Hc_doRules 3 = .ok (.invokevirtual 7, 3) := by decide +kernel
theorem d_Hc_doRules_6 : decode b_Hc_doRules 6 = .ok (.aload_n 0, 1) := by decide +kernel
theorem d_Hc_doRules_7 : decode b_Hc_doRules 7 = .ok (.iload_n 1, 1) := by decide +kernel
theorem d_Hc_doRules_8 : decode b_Hc_doRules 8 = .ok (.invokespecial 17, 3) := by decide +kernel
theorem d_Hc_doRules_11 : decode b_Hc_doRules 11 = .ok (.aload_n 0, 1) := by decide +kernel
theorem d_Hc_doRules_12 : decode b_Hc_doRules 12 = .ok (.getfield 20, 3) := by decide +kernel
theorem d_Hc_doRules_15 : decode b_Hc_doRules 15 = .ok (.ixor, 1) := by decide +kernel
theorem d_Hc_doRules_16 : decode b_Hc_doRules 16 = .ok (.ireturn, 1) := by decide +kernel
theorem q_117 : Cond.initialized "WhoRules$Holder" ∈ ALL := all_in 117 (by decide +kernel) rfl
theorem q_118 : Cond.initialized "WhoRules$Firm" ∈ ALL := all_in 118 (by decide +kernel) rfl
theorem q_119 : Cond.initialized "WhoRules$Person" ∈ ALL := all_in 119 (by decide +kernel) rfl
theorem q_120 : Cond.initialized "WhoRules$Kin" ∈ ALL := all_in 120 (by decide +kernel) rfl
theorem q_121 : Cond.initialized "WhoRules$Fund" ∈ ALL := all_in 121 (by decide +kernel) rfl
theorem q_122 : Cond.initialized "WhoRules$Club" ∈ ALL := all_in 122 (by decide +kernel) rfl
theorem q_511 : Cond.fieldLink "WhoRules$Holder" 9 "WhoRules$Holder" "number" "I" ∈ ALL := all_in 511 (by decide +kernel) rfl
theorem q_512 : Cond.fieldLink "WhoRules$Club" 20 "WhoRules$Club" "number" "I" ∈ ALL := all_in 512 (by decide +kernel) rfl
theorem q_513 : Cond.sameField "WhoRules$Club" "WhoRules$Holder" "number" "I" ∈ ALL := all_in 513 (by decide +kernel) rfl
theorem q_514 : Cond.fieldLink "WhoRules$Holder" 15 "WhoRules$Holder" "family" "I" ∈ ALL := all_in 514 (by decide +kernel) rfl
theorem q_515 : Cond.fieldLink "WhoRules$Kin" 20 "WhoRules$Kin" "family" "I" ∈ ALL := all_in 515 (by decide +kernel) rfl
theorem q_516 : Cond.sameField "WhoRules$Kin" "WhoRules$Holder" "family" "I" ∈ ALL := all_in 516 (by decide +kernel) rfl
theorem q_518 : Cond.fieldLink "WhoRules$Holder" 18 "WhoRules$Holder" "trace" "[I" ∈ ALL := all_in 518 (by decide +kernel) rfl
theorem q_525 : Cond.superclass "WhoRules$Firm" "WhoRules$Holder" ∈ ALL := all_in 525 (by decide +kernel) rfl
theorem q_535 : Cond.superclass "WhoRules$Person" "WhoRules$Holder" ∈ ALL := all_in 535 (by decide +kernel) rfl
theorem q_545 : Cond.superclass "WhoRules$Kin" "WhoRules$Person" ∈ ALL := all_in 545 (by decide +kernel) rfl
theorem q_555 : Cond.superclass "WhoRules$Fund" "WhoRules$Holder" ∈ ALL := all_in 555 (by decide +kernel) rfl
theorem q_565 : Cond.superclass "WhoRules$Club" "WhoRules$Fund" ∈ ALL := all_in 565 (by decide +kernel) rfl
theorem q_1165 : Cond.instanceMethod ⟨"WhoRules$Holder", "doVotes", "(I)I"⟩ ∈ ALL := all_in 1165 (by decide +kernel) rfl
theorem q_1166 : Cond.selects "WhoRules$Holder" ⟨"WhoRules$Holder", "doVotes", "(I)I"⟩ ⟨"WhoRules$Holder", "doVotes", "(I)I"⟩ ∈ ALL := all_in 1166 (by decide +kernel) rfl
theorem q_1167 : Cond.sameMethod "WhoRules$Holder" "WhoRules$Holder" "doVotes" "(I)I" ∈ ALL := all_in 1167 (by decide +kernel) rfl
theorem q_1168 : Cond.selects "WhoRules$Club" ⟨"WhoRules$Holder", "doVotes", "(I)I"⟩ ⟨"WhoRules$Club", "doVotes", "(I)I"⟩ ∈ ALL := all_in 1168 (by decide +kernel) rfl
theorem q_1169 : Cond.instanceMethod ⟨"WhoRules$Club", "doVotes", "(I)I"⟩ ∈ ALL := all_in 1169 (by decide +kernel) rfl
theorem q_1170 : Cond.code ⟨"WhoRules$Club", "doVotes", "(I)I"⟩ prog_3_method_2_code 2 (some .int) ∈ ALL := all_in 1170 (by decide +kernel) rfl
theorem q_1171 : Cond.methodLink "WhoRules$Club" 7 ⟨"WhoRules$Club", "begin", "(I)V"⟩ ∈ ALL := all_in 1171 (by decide +kernel) rfl
theorem q_1172 : Cond.sameMethod "WhoRules$Club" "WhoRules$Holder" "begin" "(I)V" ∈ ALL := all_in 1172 (by decide +kernel) rfl
theorem q_1174 : Cond.selects "WhoRules$Club" ⟨"WhoRules$Club", "begin", "(I)V"⟩ ⟨"WhoRules$Holder", "begin", "(I)V"⟩ ∈ ALL := all_in 1174 (by decide +kernel) rfl
theorem q_1175 : Cond.instanceMethod ⟨"WhoRules$Holder", "begin", "(I)V"⟩ ∈ ALL := all_in 1175 (by decide +kernel) rfl
theorem q_1176 : Cond.code ⟨"WhoRules$Holder", "begin", "(I)V"⟩ prog_7_method_2_code 3 none ∈ ALL := all_in 1176 (by decide +kernel) rfl
theorem q_1177 : Cond.methodLink "WhoRules$Club" 13 ⟨"WhoRules$Fund", "doVotes", "(I)I"⟩ ∈ ALL := all_in 1177 (by decide +kernel) rfl
theorem q_1178 : Cond.sameMethod "WhoRules$Fund" "WhoRules$Holder" "doVotes" "(I)I" ∈ ALL := all_in 1178 (by decide +kernel) rfl
theorem q_1180 : Cond.selects "WhoRules$Firm" ⟨"WhoRules$Holder", "doVotes", "(I)I"⟩ ⟨"WhoRules$Firm", "doVotes", "(I)I"⟩ ∈ ALL := all_in 1180 (by decide +kernel) rfl
theorem q_1181 : Cond.instanceMethod ⟨"WhoRules$Firm", "doVotes", "(I)I"⟩ ∈ ALL := all_in 1181 (by decide +kernel) rfl
theorem q_1182 : Cond.code ⟨"WhoRules$Firm", "doVotes", "(I)I"⟩ prog_4_method_2_code 2 (some .int) ∈ ALL := all_in 1182 (by decide +kernel) rfl
theorem q_1183 : Cond.methodLink "WhoRules$Firm" 7 ⟨"WhoRules$Firm", "begin", "(I)V"⟩ ∈ ALL := all_in 1183 (by decide +kernel) rfl
theorem q_1184 : Cond.sameMethod "WhoRules$Firm" "WhoRules$Holder" "begin" "(I)V" ∈ ALL := all_in 1184 (by decide +kernel) rfl
theorem q_1185 : Cond.selects "WhoRules$Firm" ⟨"WhoRules$Firm", "begin", "(I)V"⟩ ⟨"WhoRules$Holder", "begin", "(I)V"⟩ ∈ ALL := all_in 1185 (by decide +kernel) rfl
theorem q_1186 : Cond.methodLink "WhoRules$Firm" 13 ⟨"WhoRules$Holder", "doVotes", "(I)I"⟩ ∈ ALL := all_in 1186 (by decide +kernel) rfl
theorem q_1187 : Cond.selects "WhoRules$Fund" ⟨"WhoRules$Holder", "doVotes", "(I)I"⟩ ⟨"WhoRules$Holder", "doVotes", "(I)I"⟩ ∈ ALL := all_in 1187 (by decide +kernel) rfl
theorem q_1188 : Cond.selects "WhoRules$Kin" ⟨"WhoRules$Holder", "doVotes", "(I)I"⟩ ⟨"WhoRules$Kin", "doVotes", "(I)I"⟩ ∈ ALL := all_in 1188 (by decide +kernel) rfl
theorem q_1189 : Cond.instanceMethod ⟨"WhoRules$Kin", "doVotes", "(I)I"⟩ ∈ ALL := all_in 1189 (by decide +kernel) rfl
theorem q_1190 : Cond.code ⟨"WhoRules$Kin", "doVotes", "(I)I"⟩ prog_8_method_2_code 2 (some .int) ∈ ALL := all_in 1190 (by decide +kernel) rfl
theorem q_1191 : Cond.methodLink "WhoRules$Kin" 7 ⟨"WhoRules$Kin", "begin", "(I)V"⟩ ∈ ALL := all_in 1191 (by decide +kernel) rfl
theorem q_1192 : Cond.sameMethod "WhoRules$Kin" "WhoRules$Holder" "begin" "(I)V" ∈ ALL := all_in 1192 (by decide +kernel) rfl
theorem q_1193 : Cond.selects "WhoRules$Kin" ⟨"WhoRules$Kin", "begin", "(I)V"⟩ ⟨"WhoRules$Holder", "begin", "(I)V"⟩ ∈ ALL := all_in 1193 (by decide +kernel) rfl
theorem q_1194 : Cond.methodLink "WhoRules$Kin" 13 ⟨"WhoRules$Person", "doVotes", "(I)I"⟩ ∈ ALL := all_in 1194 (by decide +kernel) rfl
theorem q_1195 : Cond.sameMethod "WhoRules$Person" "WhoRules$Holder" "doVotes" "(I)I" ∈ ALL := all_in 1195 (by decide +kernel) rfl
theorem q_1196 : Cond.selects "WhoRules$Person" ⟨"WhoRules$Holder", "doVotes", "(I)I"⟩ ⟨"WhoRules$Holder", "doVotes", "(I)I"⟩ ∈ ALL := all_in 1196 (by decide +kernel) rfl
theorem q_1197 : Cond.code ⟨"WhoRules$Holder", "doVotes", "(I)I"⟩ prog_7_method_4_code 2 (some .int) ∈ ALL := all_in 1197 (by decide +kernel) rfl
theorem q_1198 : Cond.methodLink "WhoRules$Holder" 32 ⟨"WhoRules$Holder", "begin", "(I)V"⟩ ∈ ALL := all_in 1198 (by decide +kernel) rfl
theorem q_1200 : Cond.instanceMethod ⟨"WhoRules$Holder", "doOwns", "(I)I"⟩ ∈ ALL := all_in 1200 (by decide +kernel) rfl
theorem q_1201 : Cond.selects "WhoRules$Holder" ⟨"WhoRules$Holder", "doOwns", "(I)I"⟩ ⟨"WhoRules$Holder", "doOwns", "(I)I"⟩ ∈ ALL := all_in 1201 (by decide +kernel) rfl
theorem q_1202 : Cond.sameMethod "WhoRules$Holder" "WhoRules$Holder" "doOwns" "(I)I" ∈ ALL := all_in 1202 (by decide +kernel) rfl
theorem q_1203 : Cond.selects "WhoRules$Club" ⟨"WhoRules$Holder", "doOwns", "(I)I"⟩ ⟨"WhoRules$Holder", "doOwns", "(I)I"⟩ ∈ ALL := all_in 1203 (by decide +kernel) rfl
theorem q_1204 : Cond.selects "WhoRules$Firm" ⟨"WhoRules$Holder", "doOwns", "(I)I"⟩ ⟨"WhoRules$Holder", "doOwns", "(I)I"⟩ ∈ ALL := all_in 1204 (by decide +kernel) rfl
theorem q_1205 : Cond.selects "WhoRules$Fund" ⟨"WhoRules$Holder", "doOwns", "(I)I"⟩ ⟨"WhoRules$Holder", "doOwns", "(I)I"⟩ ∈ ALL := all_in 1205 (by decide +kernel) rfl
theorem q_1206 : Cond.selects "WhoRules$Kin" ⟨"WhoRules$Holder", "doOwns", "(I)I"⟩ ⟨"WhoRules$Kin", "doOwns", "(I)I"⟩ ∈ ALL := all_in 1206 (by decide +kernel) rfl
theorem q_1207 : Cond.instanceMethod ⟨"WhoRules$Kin", "doOwns", "(I)I"⟩ ∈ ALL := all_in 1207 (by decide +kernel) rfl
theorem q_1208 : Cond.code ⟨"WhoRules$Kin", "doOwns", "(I)I"⟩ prog_8_method_3_code 2 (some .int) ∈ ALL := all_in 1208 (by decide +kernel) rfl
theorem q_1209 : Cond.methodLink "WhoRules$Kin" 17 ⟨"WhoRules$Person", "doOwns", "(I)I"⟩ ∈ ALL := all_in 1209 (by decide +kernel) rfl
theorem q_1210 : Cond.instanceMethod ⟨"WhoRules$Person", "doOwns", "(I)I"⟩ ∈ ALL := all_in 1210 (by decide +kernel) rfl
theorem q_1211 : Cond.code ⟨"WhoRules$Person", "doOwns", "(I)I"⟩ prog_9_method_2_code 2 (some .int) ∈ ALL := all_in 1211 (by decide +kernel) rfl
theorem q_1212 : Cond.methodLink "WhoRules$Person" 7 ⟨"WhoRules$Person", "begin", "(I)V"⟩ ∈ ALL := all_in 1212 (by decide +kernel) rfl
theorem q_1213 : Cond.sameMethod "WhoRules$Person" "WhoRules$Holder" "begin" "(I)V" ∈ ALL := all_in 1213 (by decide +kernel) rfl
theorem q_1214 : Cond.selects "WhoRules$Kin" ⟨"WhoRules$Person", "begin", "(I)V"⟩ ⟨"WhoRules$Holder", "begin", "(I)V"⟩ ∈ ALL := all_in 1214 (by decide +kernel) rfl
theorem q_1215 : Cond.selects "WhoRules$Person" ⟨"WhoRules$Person", "begin", "(I)V"⟩ ⟨"WhoRules$Holder", "begin", "(I)V"⟩ ∈ ALL := all_in 1215 (by decide +kernel) rfl
theorem q_1216 : Cond.methodLink "WhoRules$Person" 13 ⟨"WhoRules$Holder", "doOwns", "(I)I"⟩ ∈ ALL := all_in 1216 (by decide +kernel) rfl
theorem q_1217 : Cond.selects "WhoRules$Person" ⟨"WhoRules$Holder", "doOwns", "(I)I"⟩ ⟨"WhoRules$Person", "doOwns", "(I)I"⟩ ∈ ALL := all_in 1217 (by decide +kernel) rfl
theorem q_1218 : Cond.code ⟨"WhoRules$Holder", "doOwns", "(I)I"⟩ prog_7_method_5_code 2 (some .int) ∈ ALL := all_in 1218 (by decide +kernel) rfl
theorem q_1219 : Cond.methodLink "WhoRules$Holder" 36 ⟨"WhoRules$Holder", "doVotes", "(I)I"⟩ ∈ ALL := all_in 1219 (by decide +kernel) rfl
theorem q_1221 : Cond.instanceMethod ⟨"WhoRules$Holder", "doRules", "(I)I"⟩ ∈ ALL := all_in 1221 (by decide +kernel) rfl
theorem q_1223 : Cond.sameMethod "WhoRules$Holder" "WhoRules$Holder" "doRules" "(I)I" ∈ ALL := all_in 1223 (by decide +kernel) rfl
theorem q_1227 : Cond.methodLink "WhoRules$Club" 17 ⟨"WhoRules$Fund", "doRules", "(I)I"⟩ ∈ ALL := all_in 1227 (by decide +kernel) rfl
theorem q_1228 : Cond.instanceMethod ⟨"WhoRules$Fund", "doRules", "(I)I"⟩ ∈ ALL := all_in 1228 (by decide +kernel) rfl
theorem q_1229 : Cond.code ⟨"WhoRules$Fund", "doRules", "(I)I"⟩ prog_6_method_2_code 2 (some .int) ∈ ALL := all_in 1229 (by decide +kernel) rfl
theorem q_1230 : Cond.methodLink "WhoRules$Fund" 7 ⟨"WhoRules$Fund", "begin", "(I)V"⟩ ∈ ALL := all_in 1230 (by decide +kernel) rfl
theorem q_1231 : Cond.sameMethod "WhoRules$Fund" "WhoRules$Holder" "begin" "(I)V" ∈ ALL := all_in 1231 (by decide +kernel) rfl
theorem q_1232 : Cond.selects "WhoRules$Club" ⟨"WhoRules$Fund", "begin", "(I)V"⟩ ⟨"WhoRules$Holder", "begin", "(I)V"⟩ ∈ ALL := all_in 1232 (by decide +kernel) rfl
theorem q_1233 : Cond.selects "WhoRules$Fund" ⟨"WhoRules$Fund", "begin", "(I)V"⟩ ⟨"WhoRules$Holder", "begin", "(I)V"⟩ ∈ ALL := all_in 1233 (by decide +kernel) rfl
theorem q_1234 : Cond.methodLink "WhoRules$Fund" 13 ⟨"WhoRules$Fund", "doOwns", "(I)I"⟩ ∈ ALL := all_in 1234 (by decide +kernel) rfl
theorem q_1235 : Cond.sameMethod "WhoRules$Fund" "WhoRules$Holder" "doOwns" "(I)I" ∈ ALL := all_in 1235 (by decide +kernel) rfl
theorem q_1237 : Cond.selects "WhoRules$Club" ⟨"WhoRules$Fund", "doOwns", "(I)I"⟩ ⟨"WhoRules$Holder", "doOwns", "(I)I"⟩ ∈ ALL := all_in 1237 (by decide +kernel) rfl
theorem q_1238 : Cond.selects "WhoRules$Fund" ⟨"WhoRules$Fund", "doOwns", "(I)I"⟩ ⟨"WhoRules$Holder", "doOwns", "(I)I"⟩ ∈ ALL := all_in 1238 (by decide +kernel) rfl
theorem q_1239 : Cond.methodLink "WhoRules$Fund" 17 ⟨"WhoRules$Holder", "doRules", "(I)I"⟩ ∈ ALL := all_in 1239 (by decide +kernel) rfl
theorem q_1243 : Cond.methodLink "WhoRules$Firm" 17 ⟨"WhoRules$Holder", "doRules", "(I)I"⟩ ∈ ALL := all_in 1243 (by decide +kernel) rfl
theorem q_1244 : Cond.methodLink "WhoRules$Firm" 20 ⟨"WhoRules$Firm", "doVotes", "(I)I"⟩ ∈ ALL := all_in 1244 (by decide +kernel) rfl
theorem q_1248 : Cond.code ⟨"WhoRules$Holder", "doRules", "(I)I"⟩ prog_7_method_6_code 2 (some .int) ∈ ALL := all_in 1248 (by decide +kernel) rfl
theorem q_1249 : Cond.methodLink "WhoRules$Holder" 40 ⟨"WhoRules$Holder", "doOwns", "(I)I"⟩ ∈ ALL := all_in 1249 (by decide +kernel) rfl
theorem q_1268 : Cond.classLink "WhoRules$Holder" 22 "WhoRules$Firm" ∈ ALL := all_in 1268 (by decide +kernel) rfl
theorem q_1269 : Cond.classLink "WhoRules$Holder" 24 "WhoRules$Person" ∈ ALL := all_in 1269 (by decide +kernel) rfl
theorem q_1270 : Cond.classLink "WhoRules$Holder" 26 "WhoRules$Kin" ∈ ALL := all_in 1270 (by decide +kernel) rfl
theorem q_1271 : Cond.classLink "WhoRules$Holder" 28 "WhoRules$Fund" ∈ ALL := all_in 1271 (by decide +kernel) rfl
theorem q_1272 : Cond.classLink "WhoRules$Holder" 30 "WhoRules$Club" ∈ ALL := all_in 1272 (by decide +kernel) rfl
theorem q_1940 : Cond.sameMethod "WhoRules$Holder" "WhoRules$Holder" "begin" "(I)V" ∈ ALL := all_in 1940 (by decide +kernel) rfl
theorem q_1941 : Cond.selects "WhoRules$Club" ⟨"WhoRules$Holder", "begin", "(I)V"⟩ ⟨"WhoRules$Holder", "begin", "(I)V"⟩ ∈ ALL := all_in 1941 (by decide +kernel) rfl
theorem q_1942 : Cond.selects "WhoRules$Firm" ⟨"WhoRules$Holder", "begin", "(I)V"⟩ ⟨"WhoRules$Holder", "begin", "(I)V"⟩ ∈ ALL := all_in 1942 (by decide +kernel) rfl
theorem q_1943 : Cond.selects "WhoRules$Fund" ⟨"WhoRules$Holder", "begin", "(I)V"⟩ ⟨"WhoRules$Holder", "begin", "(I)V"⟩ ∈ ALL := all_in 1943 (by decide +kernel) rfl
theorem q_1944 : Cond.selects "WhoRules$Holder" ⟨"WhoRules$Holder", "begin", "(I)V"⟩ ⟨"WhoRules$Holder", "begin", "(I)V"⟩ ∈ ALL := all_in 1944 (by decide +kernel) rfl
theorem q_1945 : Cond.selects "WhoRules$Kin" ⟨"WhoRules$Holder", "begin", "(I)V"⟩ ⟨"WhoRules$Holder", "begin", "(I)V"⟩ ∈ ALL := all_in 1945 (by decide +kernel) rfl
theorem q_1946 : Cond.selects "WhoRules$Person" ⟨"WhoRules$Holder", "begin", "(I)V"⟩ ⟨"WhoRules$Holder", "begin", "(I)V"⟩ ∈ ALL := all_in 1946 (by decide +kernel) rfl
theorem q_1947 : Cond.sameMethod "WhoRules$Person" "WhoRules$Person" "doOwns" "(I)I" ∈ ALL := all_in 1947 (by decide +kernel) rfl
theorem q_1948 : Cond.sameMethod "WhoRules$Fund" "WhoRules$Fund" "doRules" "(I)I" ∈ ALL := all_in 1948 (by decide +kernel) rfl
theorem cq_Hf_doVotes : cqV y_Hf_doVotes b_Hf_doVotes 2 (some .int) 1 := ⟨all_in 1181 (by decide +kernel) rfl, all_in 1949 (by decide +kernel) rfl, all_in 118 (by decide +kernel) rfl, all_in 1182 (by decide +kernel) rfl, by decide +kernel⟩
theorem hgf_Hc_20_5 {w : Wd} {X : Cx} {cc : ByteArray} {nL fr lo t pc : Nat} {r : Int} {M1 M : Mm} {lv : List (Nat × Value)} {st : List Value} (G : Gc LC w X "WhoRules$Club" cc nL fr lo) {x : Int} (h : hH w x 5) (hdg : decode cc pc = .ok (.getfield 20, 3)) (kk : VJ LC w X nL t r M1 M lv (.int (i32 x) :: st) (pc + 3)) : VJ LC w X nL t r M1 M lv (.ref (wa w (500 + x.toNat)) :: st) pc := vj_hgetf G h clC_5 inC_5 (j := 0) (by decide) q_512 (same_of G q_513) rfl hdg kk
theorem hgf_H_9_0 {w : Wd} {X : Cx} {cc : ByteArray} {nL fr lo t pc : Nat} {r : Int} {M1 M : Mm} {lv : List (Nat × Value)} {st : List Value} (G : Gc LC w X "WhoRules$Holder" cc nL fr lo) {x : Int} (h : hH w x 0) (hdg : decode cc pc = .ok (.getfield 9, 3)) (kk : VJ LC w X nL t r M1 M lv (.int (i32 x) :: st) (pc + 3)) : VJ LC w X nL t r M1 M lv (.ref (wa w (500 + x.toNat)) :: st) pc := vj_hgetf G h clC_0 inC_0 (j := 0) (by decide) q_511 (fun _ h => h) rfl hdg kk
theorem hgf_H_9_1 {w : Wd} {X : Cx} {cc : ByteArray} {nL fr lo t pc : Nat} {r : Int} {M1 M : Mm} {lv : List (Nat × Value)} {st : List Value} (G : Gc LC w X "WhoRules$Holder" cc nL fr lo) {x : Int} (h : hH w x 1) (hdg : decode cc pc = .ok (.getfield 9, 3)) (kk : VJ LC w X nL t r M1 M lv (.int (i32 x) :: st) (pc + 3)) : VJ LC w X nL t r M1 M lv (.ref (wa w (500 + x.toNat)) :: st) pc := vj_hgetf G h clC_1 inC_1 (j := 0) (by decide) q_511 (fun _ h => h) rfl hdg kk
theorem hgf_H_9_2 {w : Wd} {X : Cx} {cc : ByteArray} {nL fr lo t pc : Nat} {r : Int} {M1 M : Mm} {lv : List (Nat × Value)} {st : List Value} (G : Gc LC w X "WhoRules$Holder" cc nL fr lo) {x : Int} (h : hH w x 2) (hdg : decode cc pc = .ok (.getfield 9, 3)) (kk : VJ LC w X nL t r M1 M lv (.int (i32 x) :: st) (pc + 3)) : VJ LC w X nL t r M1 M lv (.ref (wa w (500 + x.toNat)) :: st) pc := vj_hgetf G h clC_2 inC_2 (j := 0) (by decide) q_511 (fun _ h => h) rfl hdg kk
theorem hgf_H_9_3 {w : Wd} {X : Cx} {cc : ByteArray} {nL fr lo t pc : Nat} {r : Int} {M1 M : Mm} {lv : List (Nat × Value)} {st : List Value} (G : Gc LC w X "WhoRules$Holder" cc nL fr lo) {x : Int} (h : hH w x 3) (hdg : decode cc pc = .ok (.getfield 9, 3)) (kk : VJ LC w X nL t r M1 M lv (.int (i32 x) :: st) (pc + 3)) : VJ LC w X nL t r M1 M lv (.ref (wa w (500 + x.toNat)) :: st) pc := vj_hgetf G h clC_3 inC_3 (j := 0) (by decide) q_511 (fun _ h => h) rfl hdg kk
theorem hgf_H_9_4 {w : Wd} {X : Cx} {cc : ByteArray} {nL fr lo t pc : Nat} {r : Int} {M1 M : Mm} {lv : List (Nat × Value)} {st : List Value} (G : Gc LC w X "WhoRules$Holder" cc nL fr lo) {x : Int} (h : hH w x 4) (hdg : decode cc pc = .ok (.getfield 9, 3)) (kk : VJ LC w X nL t r M1 M lv (.int (i32 x) :: st) (pc + 3)) : VJ LC w X nL t r M1 M lv (.ref (wa w (500 + x.toNat)) :: st) pc := vj_hgetf G h clC_4 inC_4 (j := 0) (by decide) q_511 (fun _ h => h) rfl hdg kk
theorem hgf_H_9_5 {w : Wd} {X : Cx} {cc : ByteArray} {nL fr lo t pc : Nat} {r : Int} {M1 M : Mm} {lv : List (Nat × Value)} {st : List Value} (G : Gc LC w X "WhoRules$Holder" cc nL fr lo) {x : Int} (h : hH w x 5) (hdg : decode cc pc = .ok (.getfield 9, 3)) (kk : VJ LC w X nL t r M1 M lv (.int (i32 x) :: st) (pc + 3)) : VJ LC w X nL t r M1 M lv (.ref (wa w (500 + x.toNat)) :: st) pc := vj_hgetf G h clC_5 inC_5 (j := 0) (by decide) q_511 (fun _ h => h) rfl hdg kk
theorem hgf_H_15_0 {w : Wd} {X : Cx} {cc : ByteArray} {nL fr lo t pc : Nat} {r : Int} {M1 M : Mm} {lv : List (Nat × Value)} {st : List Value} (G : Gc LC w X "WhoRules$Holder" cc nL fr lo) {x : Int} (h : hH w x 0) (hdg : decode cc pc = .ok (.getfield 15, 3)) (kk : VJ LC w X nL t r M1 M lv (.int (i32 (M 901 x.toNat)) :: st) (pc + 3)) : VJ LC w X nL t r M1 M lv (.ref (wa w (500 + x.toNat)) :: st) pc := vj_wr (fun _ _ h9 => vj_hgetf G h clC_0 inC_0 (j := 1) (by decide) q_514 (fun _ h => h) rfl hdg (by rw [h9] at kk; exact kk))
theorem hgf_H_15_1 {w : Wd} {X : Cx} {cc : ByteArray} {nL fr lo t pc : Nat} {r : Int} {M1 M : Mm} {lv : List (Nat × Value)} {st : List Value} (G : Gc LC w X "WhoRules$Holder" cc nL fr lo) {x : Int} (h : hH w x 1) (hdg : decode cc pc = .ok (.getfield 15, 3)) (kk : VJ LC w X nL t r M1 M lv (.int (i32 (M 901 x.toNat)) :: st) (pc + 3)) : VJ LC w X nL t r M1 M lv (.ref (wa w (500 + x.toNat)) :: st) pc := vj_wr (fun _ _ h9 => vj_hgetf G h clC_1 inC_1 (j := 1) (by decide) q_514 (fun _ h => h) rfl hdg (by rw [h9] at kk; exact kk))
theorem hgf_H_15_2 {w : Wd} {X : Cx} {cc : ByteArray} {nL fr lo t pc : Nat} {r : Int} {M1 M : Mm} {lv : List (Nat × Value)} {st : List Value} (G : Gc LC w X "WhoRules$Holder" cc nL fr lo) {x : Int} (h : hH w x 2) (hdg : decode cc pc = .ok (.getfield 15, 3)) (kk : VJ LC w X nL t r M1 M lv (.int (i32 (M 901 x.toNat)) :: st) (pc + 3)) : VJ LC w X nL t r M1 M lv (.ref (wa w (500 + x.toNat)) :: st) pc := vj_wr (fun _ _ h9 => vj_hgetf G h clC_2 inC_2 (j := 1) (by decide) q_514 (fun _ h => h) rfl hdg (by rw [h9] at kk; exact kk))
theorem hgf_H_15_3 {w : Wd} {X : Cx} {cc : ByteArray} {nL fr lo t pc : Nat} {r : Int} {M1 M : Mm} {lv : List (Nat × Value)} {st : List Value} (G : Gc LC w X "WhoRules$Holder" cc nL fr lo) {x : Int} (h : hH w x 3) (hdg : decode cc pc = .ok (.getfield 15, 3)) (kk : VJ LC w X nL t r M1 M lv (.int (i32 (M 901 x.toNat)) :: st) (pc + 3)) : VJ LC w X nL t r M1 M lv (.ref (wa w (500 + x.toNat)) :: st) pc := vj_wr (fun _ _ h9 => vj_hgetf G h clC_3 inC_3 (j := 1) (by decide) q_514 (fun _ h => h) rfl hdg (by rw [h9] at kk; exact kk))
theorem hgf_H_15_4 {w : Wd} {X : Cx} {cc : ByteArray} {nL fr lo t pc : Nat} {r : Int} {M1 M : Mm} {lv : List (Nat × Value)} {st : List Value} (G : Gc LC w X "WhoRules$Holder" cc nL fr lo) {x : Int} (h : hH w x 4) (hdg : decode cc pc = .ok (.getfield 15, 3)) (kk : VJ LC w X nL t r M1 M lv (.int (i32 (M 901 x.toNat)) :: st) (pc + 3)) : VJ LC w X nL t r M1 M lv (.ref (wa w (500 + x.toNat)) :: st) pc := vj_wr (fun _ _ h9 => vj_hgetf G h clC_4 inC_4 (j := 1) (by decide) q_514 (fun _ h => h) rfl hdg (by rw [h9] at kk; exact kk))
theorem hgf_H_15_5 {w : Wd} {X : Cx} {cc : ByteArray} {nL fr lo t pc : Nat} {r : Int} {M1 M : Mm} {lv : List (Nat × Value)} {st : List Value} (G : Gc LC w X "WhoRules$Holder" cc nL fr lo) {x : Int} (h : hH w x 5) (hdg : decode cc pc = .ok (.getfield 15, 3)) (kk : VJ LC w X nL t r M1 M lv (.int (i32 (M 901 x.toNat)) :: st) (pc + 3)) : VJ LC w X nL t r M1 M lv (.ref (wa w (500 + x.toNat)) :: st) pc := vj_wr (fun _ _ h9 => vj_hgetf G h clC_5 inC_5 (j := 1) (by decide) q_514 (fun _ h => h) rfl hdg (by rw [h9] at kk; exact kk))
theorem hgf_H_18_0 {w : Wd} {X : Cx} {cc : ByteArray} {nL fr lo t pc : Nat} {r : Int} {M1 M : Mm} {lv : List (Nat × Value)} {st : List Value} (G : Gc LC w X "WhoRules$Holder" cc nL fr lo) {x : Int} (h : hH w x 0) (hdg : decode cc pc = .ok (.getfield 18, 3)) (kk : VJ LC w X nL t r M1 M lv (.ref (wa w 10) :: st) (pc + 3)) : VJ LC w X nL t r M1 M lv (.ref (wa w (500 + x.toNat)) :: st) pc := vj_hgetf G h clC_0 inC_0 (j := 2) (by decide) q_518 (fun _ h => h) rfl hdg kk
theorem hgf_H_18_1 {w : Wd} {X : Cx} {cc : ByteArray} {nL fr lo t pc : Nat} {r : Int} {M1 M : Mm} {lv : List (Nat × Value)} {st : List Value} (G : Gc LC w X "WhoRules$Holder" cc nL fr lo) {x : Int} (h : hH w x 1) (hdg : decode cc pc = .ok (.getfield 18, 3)) (kk : VJ LC w X nL t r M1 M lv (.ref (wa w 10) :: st) (pc + 3)) : VJ LC w X nL t r M1 M lv (.ref (wa w (500 + x.toNat)) :: st) pc := vj_hgetf G h clC_1 inC_1 (j := 2) (by decide) q_518 (fun _ h => h) rfl hdg kk
theorem hgf_H_18_2 {w : Wd} {X : Cx} {cc : ByteArray} {nL fr lo t pc : Nat} {r : Int} {M1 M : Mm} {lv : List (Nat × Value)} {st : List Value} (G : Gc LC w X "WhoRules$Holder" cc nL fr lo) {x : Int} (h : hH w x 2) (hdg : decode cc pc = .ok (.getfield 18, 3)) (kk : VJ LC w X nL t r M1 M lv (.ref (wa w 10) :: st) (pc + 3)) : VJ LC w X nL t r M1 M lv (.ref (wa w (500 + x.toNat)) :: st) pc := vj_hgetf G h clC_2 inC_2 (j := 2) (by decide) q_518 (fun _ h => h) rfl hdg kk
theorem hgf_H_18_3 {w : Wd} {X : Cx} {cc : ByteArray} {nL fr lo t pc : Nat} {r : Int} {M1 M : Mm} {lv : List (Nat × Value)} {st : List Value} (G : Gc LC w X "WhoRules$Holder" cc nL fr lo) {x : Int} (h : hH w x 3) (hdg : decode cc pc = .ok (.getfield 18, 3)) (kk : VJ LC w X nL t r M1 M lv (.ref (wa w 10) :: st) (pc + 3)) : VJ LC w X nL t r M1 M lv (.ref (wa w (500 + x.toNat)) :: st) pc := vj_hgetf G h clC_3 inC_3 (j := 2) (by decide) q_518 (fun _ h => h) rfl hdg kk
theorem hgf_H_18_4 {w : Wd} {X : Cx} {cc : ByteArray} {nL fr lo t pc : Nat} {r : Int} {M1 M : Mm} {lv : List (Nat × Value)} {st : List Value} (G : Gc LC w X "WhoRules$Holder" cc nL fr lo) {x : Int} (h : hH w x 4) (hdg : decode cc pc = .ok (.getfield 18, 3)) (kk : VJ LC w X nL t r M1 M lv (.ref (wa w 10) :: st) (pc + 3)) : VJ LC w X nL t r M1 M lv (.ref (wa w (500 + x.toNat)) :: st) pc := vj_hgetf G h clC_4 inC_4 (j := 2) (by decide) q_518 (fun _ h => h) rfl hdg kk
theorem hgf_H_18_5 {w : Wd} {X : Cx} {cc : ByteArray} {nL fr lo t pc : Nat} {r : Int} {M1 M : Mm} {lv : List (Nat × Value)} {st : List Value} (G : Gc LC w X "WhoRules$Holder" cc nL fr lo) {x : Int} (h : hH w x 5) (hdg : decode cc pc = .ok (.getfield 18, 3)) (kk : VJ LC w X nL t r M1 M lv (.ref (wa w 10) :: st) (pc + 3)) : VJ LC w X nL t r M1 M lv (.ref (wa w (500 + x.toNat)) :: st) pc := vj_hgetf G h clC_5 inC_5 (j := 2) (by decide) q_518 (fun _ h => h) rfl hdg kk
theorem hgf_Hk_20_3 {w : Wd} {X : Cx} {cc : ByteArray} {nL fr lo t pc : Nat} {r : Int} {M1 M : Mm} {lv : List (Nat × Value)} {st : List Value} (G : Gc LC w X "WhoRules$Kin" cc nL fr lo) {x : Int} (h : hH w x 3) (hdg : decode cc pc = .ok (.getfield 20, 3)) (kk : VJ LC w X nL t r M1 M lv (.int (i32 (M 901 x.toNat)) :: st) (pc + 3)) : VJ LC w X nL t r M1 M lv (.ref (wa w (500 + x.toNat)) :: st) pc := vj_wr (fun _ _ h9 => vj_hgetf G h clC_3 inC_3 (j := 1) (by decide) q_515 (same_of G q_516) rfl hdg (by rw [h9] at kk; exact kk))
def f_H_beginc0_25 (n : Nat) (x0 x2 : Int) (M : Mm) : Rr := some (0, (mset M 10 (20 : Int).toNat (w32 (x2 + 1))))
def f_H_beginc0 (n : Nat) (x0 x1 : Int) (M : Mm) : Rr := if (M 10 (20 : Int).toNat) < 0 then f_H_beginc0_25 n  x0 (M 10 (20 : Int).toNat) M else (if 20 ≤ (M 10 (20 : Int).toNat) then f_H_beginc0_25 n  x0 (M 10 (20 : Int).toNat) M else (ck (0 ≤ (M 10 (20 : Int).toNat) ∧ (M 10 (20 : Int).toNat) < 21) (f_H_beginc0_25 n  x0 (M 10 (20 : Int).toNat) (mset M 10 (M 10 (20 : Int).toNat).toNat x1))))
def f_H_doVotesc0 (n : Nat) (x0 x1 : Int) (M : Mm) : Rr := bnd (f_H_beginc0 n x0 10 M) (fun r1 M1 => some (w32 (x1 + x0), M1))
def f_H_doOwnsc0 (n : Nat) (x0 x1 : Int) (M : Mm) : Rr := bnd (f_H_beginc0 n x0 11 M) (fun r1 M1 => bnd (f_H_doVotesc0 n x0 x1 M1) (fun r2 M2 => some (w32 (r2 * 2), M2)))
def f_H_doRulesc0 (n : Nat) (x0 x1 : Int) (M : Mm) : Rr := bnd (f_H_beginc0 n x0 12 M) (fun r1 M1 => bnd (f_H_doOwnsc0 n x0 x1 M1) (fun r2 M2 => some (w32 (r2 - (M2 901 x0.toNat)), M2)))
def f_H_isUnderc0 (n : Nat) (x0 x1 : Int) (M : Mm) : Rr := if x1 = 0 then some (1, M) else (if x1 = 1 then some (0, M) else (if x1 = 2 then some (0, M) else (if x1 = 3 then some (0, M) else (if x1 = 4 then some (0, M) else (some (0, M))))))
def f_H_beginc1_25 (n : Nat) (x0 x2 : Int) (M : Mm) : Rr := some (0, (mset M 10 (20 : Int).toNat (w32 (x2 + 1))))
def f_H_beginc1 (n : Nat) (x0 x1 : Int) (M : Mm) : Rr := if (M 10 (20 : Int).toNat) < 0 then f_H_beginc1_25 n  x0 (M 10 (20 : Int).toNat) M else (if 20 ≤ (M 10 (20 : Int).toNat) then f_H_beginc1_25 n  x0 (M 10 (20 : Int).toNat) M else (ck (0 ≤ (M 10 (20 : Int).toNat) ∧ (M 10 (20 : Int).toNat) < 21) (f_H_beginc1_25 n  x0 (M 10 (20 : Int).toNat) (mset M 10 (M 10 (20 : Int).toNat).toNat x1))))
def f_H_doVotesc1 (n : Nat) (x0 x1 : Int) (M : Mm) : Rr := bnd (f_H_beginc1 n x0 10 M) (fun r1 M1 => some (w32 (x1 + x0), M1))
def f_Hf_doVotesc1 (n : Nat) (x0 x1 : Int) (M : Mm) : Rr := bnd (f_H_beginc1 n x0 20 M) (fun r1 M1 => bnd (f_H_doVotesc1 n x0 x1 M1) (fun r2 M2 => some (ixo r2 6, M2)))
def f_H_doOwnsc1 (n : Nat) (x0 x1 : Int) (M : Mm) : Rr := bnd (f_H_beginc1 n x0 11 M) (fun r1 M1 => bnd (f_Hf_doVotesc1 n x0 x1 M1) (fun r2 M2 => some (w32 (r2 * 2), M2)))
def f_H_doRulesc1 (n : Nat) (x0 x1 : Int) (M : Mm) : Rr := bnd (f_H_beginc1 n x0 12 M) (fun r1 M1 => bnd (f_H_doOwnsc1 n x0 x1 M1) (fun r2 M2 => some (w32 (r2 - (M2 901 x0.toNat)), M2)))
def f_Hf_doRulesc1 (n : Nat) (x0 x1 : Int) (M : Mm) : Rr := bnd (f_H_beginc1 n x0 21 M) (fun r1 M1 => bnd (f_H_doRulesc1 n x0 x1 M1) (fun r2 M2 => bnd (f_Hf_doVotesc1 n x0 1 M2) (fun r3 M3 => some (w32 (r2 + r3), M3))))
def f_H_isUnderc1 (n : Nat) (x0 x1 : Int) (M : Mm) : Rr := if x1 = 0 then some (1, M) else (if x1 = 1 then some (1, M) else (if x1 = 2 then some (0, M) else (if x1 = 3 then some (0, M) else (if x1 = 4 then some (0, M) else (some (0, M))))))
def f_H_beginc2_25 (n : Nat) (x0 x2 : Int) (M : Mm) : Rr := some (0, (mset M 10 (20 : Int).toNat (w32 (x2 + 1))))
def f_H_beginc2 (n : Nat) (x0 x1 : Int) (M : Mm) : Rr := if (M 10 (20 : Int).toNat) < 0 then f_H_beginc2_25 n  x0 (M 10 (20 : Int).toNat) M else (if 20 ≤ (M 10 (20 : Int).toNat) then f_H_beginc2_25 n  x0 (M 10 (20 : Int).toNat) M else (ck (0 ≤ (M 10 (20 : Int).toNat) ∧ (M 10 (20 : Int).toNat) < 21) (f_H_beginc2_25 n  x0 (M 10 (20 : Int).toNat) (mset M 10 (M 10 (20 : Int).toNat).toNat x1))))
def f_H_doVotesc2 (n : Nat) (x0 x1 : Int) (M : Mm) : Rr := bnd (f_H_beginc2 n x0 10 M) (fun r1 M1 => some (w32 (x1 + x0), M1))
def f_H_doOwnsc2 (n : Nat) (x0 x1 : Int) (M : Mm) : Rr := bnd (f_H_beginc2 n x0 11 M) (fun r1 M1 => bnd (f_H_doVotesc2 n x0 x1 M1) (fun r2 M2 => some (w32 (r2 * 2), M2)))
def f_Hp_doOwnsc2 (n : Nat) (x0 x1 : Int) (M : Mm) : Rr := bnd (f_H_beginc2 n x0 30 M) (fun r1 M1 => bnd (f_H_doOwnsc2 n x0 (w32 (x1 * 3)) M1) (fun r2 M2 => some (r2, M2)))
def f_H_doRulesc2 (n : Nat) (x0 x1 : Int) (M : Mm) : Rr := bnd (f_H_beginc2 n x0 12 M) (fun r1 M1 => bnd (f_Hp_doOwnsc2 n x0 x1 M1) (fun r2 M2 => some (w32 (r2 - (M2 901 x0.toNat)), M2)))
def f_H_isUnderc2 (n : Nat) (x0 x1 : Int) (M : Mm) : Rr := if x1 = 0 then some (1, M) else (if x1 = 1 then some (0, M) else (if x1 = 2 then some (1, M) else (if x1 = 3 then some (0, M) else (if x1 = 4 then some (0, M) else (some (0, M))))))
def f_H_beginc3_25 (n : Nat) (x0 x2 : Int) (M : Mm) : Rr := some (0, (mset M 10 (20 : Int).toNat (w32 (x2 + 1))))
def f_H_beginc3 (n : Nat) (x0 x1 : Int) (M : Mm) : Rr := if (M 10 (20 : Int).toNat) < 0 then f_H_beginc3_25 n  x0 (M 10 (20 : Int).toNat) M else (if 20 ≤ (M 10 (20 : Int).toNat) then f_H_beginc3_25 n  x0 (M 10 (20 : Int).toNat) M else (ck (0 ≤ (M 10 (20 : Int).toNat) ∧ (M 10 (20 : Int).toNat) < 21) (f_H_beginc3_25 n  x0 (M 10 (20 : Int).toNat) (mset M 10 (M 10 (20 : Int).toNat).toNat x1))))
def f_H_doVotesc3 (n : Nat) (x0 x1 : Int) (M : Mm) : Rr := bnd (f_H_beginc3 n x0 10 M) (fun r1 M1 => some (w32 (x1 + x0), M1))
def f_Hk_doVotesc3 (n : Nat) (x0 x1 : Int) (M : Mm) : Rr := bnd (f_H_beginc3 n x0 40 M) (fun r1 M1 => bnd (f_H_doVotesc3 n x0 x1 M1) (fun r2 M2 => some (w32 (-r2), M2)))
def f_H_doOwnsc3 (n : Nat) (x0 x1 : Int) (M : Mm) : Rr := bnd (f_H_beginc3 n x0 11 M) (fun r1 M1 => bnd (f_Hk_doVotesc3 n x0 x1 M1) (fun r2 M2 => some (w32 (r2 * 2), M2)))
def f_Hp_doOwnsc3 (n : Nat) (x0 x1 : Int) (M : Mm) : Rr := bnd (f_H_beginc3 n x0 30 M) (fun r1 M1 => bnd (f_H_doOwnsc3 n x0 (w32 (x1 * 3)) M1) (fun r2 M2 => some (r2, M2)))
def f_Hk_doOwnsc3 (n : Nat) (x0 x1 : Int) (M : Mm) : Rr := bnd (f_H_beginc3 n x0 41 M) (fun r1 M1 => bnd (f_Hp_doOwnsc3 n x0 x1 M1) (fun r2 M2 => bnd (f_H_doVotesc3 n x0 (M2 901 x0.toNat) M2) (fun r4 M4 => some (w32 (r2 + r4), M4))))
def f_H_doRulesc3 (n : Nat) (x0 x1 : Int) (M : Mm) : Rr := bnd (f_H_beginc3 n x0 12 M) (fun r1 M1 => bnd (f_Hk_doOwnsc3 n x0 x1 M1) (fun r2 M2 => some (w32 (r2 - (M2 901 x0.toNat)), M2)))
def f_H_isUnderc3 (n : Nat) (x0 x1 : Int) (M : Mm) : Rr := if x1 = 0 then some (1, M) else (if x1 = 1 then some (0, M) else (if x1 = 2 then some (1, M) else (if x1 = 3 then some (1, M) else (if x1 = 4 then some (0, M) else (some (0, M))))))
def f_H_beginc4_25 (n : Nat) (x0 x2 : Int) (M : Mm) : Rr := some (0, (mset M 10 (20 : Int).toNat (w32 (x2 + 1))))
def f_H_beginc4 (n : Nat) (x0 x1 : Int) (M : Mm) : Rr := if (M 10 (20 : Int).toNat) < 0 then f_H_beginc4_25 n  x0 (M 10 (20 : Int).toNat) M else (if 20 ≤ (M 10 (20 : Int).toNat) then f_H_beginc4_25 n  x0 (M 10 (20 : Int).toNat) M else (ck (0 ≤ (M 10 (20 : Int).toNat) ∧ (M 10 (20 : Int).toNat) < 21) (f_H_beginc4_25 n  x0 (M 10 (20 : Int).toNat) (mset M 10 (M 10 (20 : Int).toNat).toNat x1))))
def f_H_doVotesc4 (n : Nat) (x0 x1 : Int) (M : Mm) : Rr := bnd (f_H_beginc4 n x0 10 M) (fun r1 M1 => some (w32 (x1 + x0), M1))
def f_H_doOwnsc4 (n : Nat) (x0 x1 : Int) (M : Mm) : Rr := bnd (f_H_beginc4 n x0 11 M) (fun r1 M1 => bnd (f_H_doVotesc4 n x0 x1 M1) (fun r2 M2 => some (w32 (r2 * 2), M2)))
def f_H_doRulesc4 (n : Nat) (x0 x1 : Int) (M : Mm) : Rr := bnd (f_H_beginc4 n x0 12 M) (fun r1 M1 => bnd (f_H_doOwnsc4 n x0 x1 M1) (fun r2 M2 => some (w32 (r2 - (M2 901 x0.toNat)), M2)))
def f_Hu_doRulesc4 (n : Nat) (x0 x1 : Int) (M : Mm) : Rr := bnd (f_H_beginc4 n x0 50 M) (fun r1 M1 => bnd (f_H_doOwnsc4 n x0 x1 M1) (fun r2 M2 => bnd (f_H_doRulesc4 n x0 x1 M2) (fun r3 M3 => some (w32 (r2 - r3), M3))))
def f_H_isUnderc4 (n : Nat) (x0 x1 : Int) (M : Mm) : Rr := if x1 = 0 then some (1, M) else (if x1 = 1 then some (0, M) else (if x1 = 2 then some (0, M) else (if x1 = 3 then some (0, M) else (if x1 = 4 then some (1, M) else (some (0, M))))))
def f_H_beginc5_25 (n : Nat) (x0 x2 : Int) (M : Mm) : Rr := some (0, (mset M 10 (20 : Int).toNat (w32 (x2 + 1))))
def f_H_beginc5 (n : Nat) (x0 x1 : Int) (M : Mm) : Rr := if (M 10 (20 : Int).toNat) < 0 then f_H_beginc5_25 n  x0 (M 10 (20 : Int).toNat) M else (if 20 ≤ (M 10 (20 : Int).toNat) then f_H_beginc5_25 n  x0 (M 10 (20 : Int).toNat) M else (ck (0 ≤ (M 10 (20 : Int).toNat) ∧ (M 10 (20 : Int).toNat) < 21) (f_H_beginc5_25 n  x0 (M 10 (20 : Int).toNat) (mset M 10 (M 10 (20 : Int).toNat).toNat x1))))
def f_H_doVotesc5 (n : Nat) (x0 x1 : Int) (M : Mm) : Rr := bnd (f_H_beginc5 n x0 10 M) (fun r1 M1 => some (w32 (x1 + x0), M1))
def f_Hc_doVotesc5 (n : Nat) (x0 x1 : Int) (M : Mm) : Rr := bnd (f_H_beginc5 n x0 60 M) (fun r1 M1 => bnd (f_H_doVotesc5 n x0 (w32 (x1 + 4)) M1) (fun r2 M2 => some (r2, M2)))
def f_H_doOwnsc5 (n : Nat) (x0 x1 : Int) (M : Mm) : Rr := bnd (f_H_beginc5 n x0 11 M) (fun r1 M1 => bnd (f_Hc_doVotesc5 n x0 x1 M1) (fun r2 M2 => some (w32 (r2 * 2), M2)))
def f_H_doRulesc5 (n : Nat) (x0 x1 : Int) (M : Mm) : Rr := bnd (f_H_beginc5 n x0 12 M) (fun r1 M1 => bnd (f_H_doOwnsc5 n x0 x1 M1) (fun r2 M2 => some (w32 (r2 - (M2 901 x0.toNat)), M2)))
def f_Hu_doRulesc5 (n : Nat) (x0 x1 : Int) (M : Mm) : Rr := bnd (f_H_beginc5 n x0 50 M) (fun r1 M1 => bnd (f_H_doOwnsc5 n x0 x1 M1) (fun r2 M2 => bnd (f_H_doRulesc5 n x0 x1 M2) (fun r3 M3 => some (w32 (r2 - r3), M3))))
def f_Hc_doRulesc5 (n : Nat) (x0 x1 : Int) (M : Mm) : Rr := bnd (f_H_beginc5 n x0 61 M) (fun r1 M1 => bnd (f_Hu_doRulesc5 n x0 x1 M1) (fun r2 M2 => some (ixo r2 x0, M2)))
def f_H_isUnderc5 (n : Nat) (x0 x1 : Int) (M : Mm) : Rr := if x1 = 0 then some (1, M) else (if x1 = 1 then some (0, M) else (if x1 = 2 then some (0, M) else (if x1 = 3 then some (0, M) else (if x1 = 4 then some (1, M) else (some (1, M))))))
set_option maxHeartbeats 4000000 in
set_option maxRecDepth 100000 in
theorem wk_H_beginc0_25 {w : Wd} {X : Cx} {r : Int} {M9 : Mm} (G0 : Gx LC w X "WhoRules$Holder" b_H_begin 3 0 0 none) (n : Nat) (x0 x2 : Int) (hx0 : hH w x0 0) (hx2 : inR x2) (M : Mm) (hF : f_H_beginc0_25 n x0 x2 M = some (r, M9)) : VJ LC w X 3 0 r M9 M [(0, .ref (wa w (500 + x0.toNat))), (2, .int (i32 x2))] [] 25 := by
  have G := G0.1
  unfold f_H_beginc0_25 at hF
  refine vj_aload_n G (p9 := 0) d_H_begin_25 rfl rfl ?_
  refine hgf_H_18_0 G hx0 d_H_begin_26 ?_
  refine vj_bipush G (v := 20) d_H_begin_29 rfl ?_
  refine vj_iload_n G (p9 := 1) d_H_begin_31 rfl rfl ?_
  refine vj_iconst G (v := 1) d_H_begin_32 rfl ?_
  refine vj_iadd G d_H_begin_33 ?_
  refine vj_iast G (x := 20) lkC_10 (by decide) (by decide) (by decide) ⟨by decide, by decide⟩ (ir_w _) d_H_begin_34 ?_
  cases hF
  exact vj_vret G0 d_H_begin_35
set_option maxHeartbeats 4000000 in
set_option maxRecDepth 100000 in
theorem ct_H_beginc0 {w : Wd} (hij : ij LC w) (n : Nat) (x0 x1 : Int) (hx0 : hH w x0 0) (hx1 : inR x1) {M : Mm} {r : Int} {M9 : Mm} (hF : f_H_beginc0 n x0 x1 M = some (r, M9)) : Ct LC w y_H_begin b_H_begin 3 none 0 0 0 [.ref (wa w (500 + x0.toNat)), .int (i32 x1)] M r M9 := by
  refine Ct.of hij KstC (by decide +kernel) (Nat.le_of_ble_eq_true rfl) (fun X G0 => ?_)
  have G := G0.1
  show VJ LC w X 3 0 r M9 M [(0, .ref (wa w (500 + x0.toNat))), (1, .int (i32 x1))] [] 0
  unfold f_H_beginc0 at hF
  refine vj_aload_n G (p9 := 0) d_H_begin_0 rfl rfl ?_
  refine hgf_H_18_0 G hx0 d_H_begin_1 ?_
  refine vj_bipush G (v := 20) d_H_begin_4 rfl ?_
  refine vj_iald G (x := 20) lkC_10 (by decide) ⟨by decide, by decide⟩ d_H_begin_6 ?_
  refine vj_mr (fun hM1 => ?_)
  refine vj_istore_n G (lv2 := [(2, .int (i32 (M 10 (20 : Int).toNat))), (0, .ref (wa w (500 + x0.toNat))), (1, .int (i32 x1))]) d_H_begin_7 rfl (by decide) rfl ?_
  refine vj_iload_n G (p9 := 0) d_H_begin_8 rfl rfl ?_
  refine vj_if_lt G (tgt := 25) d_H_begin_9 (by decide) (mr_a hM1 lkC_10) (fun c2 => ?_) (fun c2 => ?_)
  · rw [if_pos c2] at hF
    refine vj_sub [1, 0] rfl ?_
    exact wk_H_beginc0_25 G0 n  x0 (M 10 (20 : Int).toNat) hx0 (mr_a hM1 lkC_10) _ hF
  · rw [if_neg c2] at hF
    refine vj_iload_n G (p9 := 0) d_H_begin_12 rfl rfl ?_
    refine vj_bipush G (v := 20) d_H_begin_13 rfl ?_
    refine vj_icmp_ge G (tgt := 25) d_H_begin_15 (by decide) (mr_a hM1 lkC_10) ic_20 (fun c3 => ?_) (fun c3 => ?_)
    · rw [if_pos c3] at hF
      refine vj_sub [1, 0] rfl ?_
      exact wk_H_beginc0_25 G0 n  x0 (M 10 (20 : Int).toNat) hx0 (mr_a hM1 lkC_10) _ hF
    · rw [if_neg c3] at hF
      refine vj_aload_n G (p9 := 1) d_H_begin_18 rfl rfl ?_
      refine hgf_H_18_0 G hx0 d_H_begin_19 ?_
      refine vj_iload_n G (p9 := 0) d_H_begin_22 rfl rfl ?_
      refine vj_iload_n G (p9 := 2) d_H_begin_23 rfl rfl ?_
      obtain ⟨c4, hF⟩ := ck_some hF
      refine vj_iast G (x := (M 10 (20 : Int).toNat)) lkC_10 (by decide) (by decide) (by decide) c4 hx1 d_H_begin_24 ?_
      refine vj_sub [1, 0] rfl ?_
      exact wk_H_beginc0_25 G0 n  x0 (M 10 (20 : Int).toNat) hx0 (mr_a hM1 lkC_10) _ hF
set_option maxHeartbeats 4000000 in
set_option maxRecDepth 100000 in
theorem ct_H_doVotesc0 {w : Wd} (hij : ij LC w) (n : Nat) (x0 x1 : Int) (hx0 : hH w x0 0) (hx1 : inR x1) {M : Mm} {r : Int} {M9 : Mm} (hF : f_H_doVotesc0 n x0 x1 M = some (r, M9)) : Ct LC w y_H_doVotes b_H_doVotes 2 (some .int) 1 22 1 [.ref (wa w (500 + x0.toNat)), .int (i32 x1)] M r M9 := by
  refine Ct.of hij KstC (by decide +kernel) (Nat.le_of_ble_eq_true rfl) (fun X G0 => ?_)
  have G := G0.1
  show VJ LC w X 2 1 r M9 M [(0, .ref (wa w (500 + x0.toNat))), (1, .int (i32 x1))] [] 0
  unfold f_H_doVotesc0 at hF
  refine vj_aload_n G (p9 := 0) d_H_doVotes_0 rfl rfl ?_
  refine vj_bipush G (v := 10) d_H_doVotes_1 rfl ?_
  obtain ⟨r1, M1, e1, hF⟩ := bnd_some hF
  refine vj_callH G hx0 clC_0 (ct_H_beginc0 (gx_ij G) n x0 10 hx0 ic_10 e1) (cu_of G (x := ⟨"WhoRules$Holder", "begin", "(I)V"⟩) (y := ⟨"WhoRules$Holder", "begin", "(I)V"⟩) (owner := "WhoRules$Holder") (n := 1) q_1198 q_1940 q_1944 q_1175 q_117 q_1176 q_1175 q_1176 (by decide +kernel) (by decide) (by decide)) rfl (Nat.le_of_ble_eq_true rfl) d_H_doVotes_3 rfl (fun hr1 => ?_)
  refine vj_iload_n G (p9 := 1) d_H_doVotes_6 rfl rfl ?_
  refine vj_aload_n G (p9 := 0) d_H_doVotes_7 rfl rfl ?_
  refine hgf_H_9_0 G hx0 d_H_doVotes_8 ?_
  refine vj_iadd G d_H_doVotes_11 ?_
  cases hF
  exact vj_iret G0 (ir_w _) d_H_doVotes_12
set_option maxHeartbeats 4000000 in
set_option maxRecDepth 100000 in
theorem ct_H_doOwnsc0 {w : Wd} (hij : ij LC w) (n : Nat) (x0 x1 : Int) (hx0 : hH w x0 0) (hx1 : inR x1) {M : Mm} {r : Int} {M9 : Mm} (hF : f_H_doOwnsc0 n x0 x1 M = some (r, M9)) : Ct LC w y_H_doOwns b_H_doOwns 2 (some .int) 2 43 1 [.ref (wa w (500 + x0.toNat)), .int (i32 x1)] M r M9 := by
  refine Ct.of hij KstC (by decide +kernel) (Nat.le_of_ble_eq_true rfl) (fun X G0 => ?_)
  have G := G0.1
  show VJ LC w X 2 1 r M9 M [(0, .ref (wa w (500 + x0.toNat))), (1, .int (i32 x1))] [] 0
  unfold f_H_doOwnsc0 at hF
  refine vj_aload_n G (p9 := 0) d_H_doOwns_0 rfl rfl ?_
  refine vj_bipush G (v := 11) d_H_doOwns_1 rfl ?_
  obtain ⟨r1, M1, e1, hF⟩ := bnd_some hF
  refine vj_callH G hx0 clC_0 (ct_H_beginc0 (gx_ij G) n x0 11 hx0 ic_11 e1) (cu_of G (x := ⟨"WhoRules$Holder", "begin", "(I)V"⟩) (y := ⟨"WhoRules$Holder", "begin", "(I)V"⟩) (owner := "WhoRules$Holder") (n := 1) q_1198 q_1940 q_1944 q_1175 q_117 q_1176 q_1175 q_1176 (by decide +kernel) (by decide) (by decide)) rfl (Nat.le_of_ble_eq_true rfl) d_H_doOwns_3 rfl (fun hr1 => ?_)
  refine vj_aload_n G (p9 := 0) d_H_doOwns_6 rfl rfl ?_
  refine vj_iload_n G (p9 := 1) d_H_doOwns_7 rfl rfl ?_
  obtain ⟨r2, M2, e2, hF⟩ := bnd_some hF
  refine vj_callH G hx0 clC_0 (ct_H_doVotesc0 (gx_ij G) n x0 x1 hx0 hx1 e2) (cu_of G (x := ⟨"WhoRules$Holder", "doVotes", "(I)I"⟩) (y := ⟨"WhoRules$Holder", "doVotes", "(I)I"⟩) (owner := "WhoRules$Holder") (n := 1) q_1219 q_1167 q_1166 q_1165 q_117 q_1197 q_1165 q_1197 (by decide +kernel) (by decide) (by decide)) rfl (Nat.le_of_ble_eq_true rfl) d_H_doOwns_8 rfl (fun hr2 => ?_)
  replace hr2 : inR r2 := hr2
  refine vj_iconst G (v := 2) d_H_doOwns_11 rfl ?_
  refine vj_imul G d_H_doOwns_12 ?_
  cases hF
  exact vj_iret G0 (ir_w _) d_H_doOwns_13
set_option maxHeartbeats 4000000 in
set_option maxRecDepth 100000 in
theorem ct_H_doRulesc0 {w : Wd} (hij : ij LC w) (n : Nat) (x0 x1 : Int) (hx0 : hH w x0 0) (hx1 : inR x1) {M : Mm} {r : Int} {M9 : Mm} (hF : f_H_doRulesc0 n x0 x1 M = some (r, M9)) : Ct LC w y_H_doRules b_H_doRules 2 (some .int) 3 64 1 [.ref (wa w (500 + x0.toNat)), .int (i32 x1)] M r M9 := by
  refine Ct.of hij KstC (by decide +kernel) (Nat.le_of_ble_eq_true rfl) (fun X G0 => ?_)
  have G := G0.1
  show VJ LC w X 2 1 r M9 M [(0, .ref (wa w (500 + x0.toNat))), (1, .int (i32 x1))] [] 0
  unfold f_H_doRulesc0 at hF
  refine vj_aload_n G (p9 := 0) d_H_doRules_0 rfl rfl ?_
  refine vj_bipush G (v := 12) d_H_doRules_1 rfl ?_
  obtain ⟨r1, M1, e1, hF⟩ := bnd_some hF
  refine vj_callH G hx0 clC_0 (ct_H_beginc0 (gx_ij G) n x0 12 hx0 ic_12 e1) (cu_of G (x := ⟨"WhoRules$Holder", "begin", "(I)V"⟩) (y := ⟨"WhoRules$Holder", "begin", "(I)V"⟩) (owner := "WhoRules$Holder") (n := 1) q_1198 q_1940 q_1944 q_1175 q_117 q_1176 q_1175 q_1176 (by decide +kernel) (by decide) (by decide)) rfl (Nat.le_of_ble_eq_true rfl) d_H_doRules_3 rfl (fun hr1 => ?_)
  refine vj_aload_n G (p9 := 0) d_H_doRules_6 rfl rfl ?_
  refine vj_iload_n G (p9 := 1) d_H_doRules_7 rfl rfl ?_
  obtain ⟨r2, M2, e2, hF⟩ := bnd_some hF
  refine vj_callH G hx0 clC_0 (ct_H_doOwnsc0 (gx_ij G) n x0 x1 hx0 hx1 e2) (cu_of G (x := ⟨"WhoRules$Holder", "doOwns", "(I)I"⟩) (y := ⟨"WhoRules$Holder", "doOwns", "(I)I"⟩) (owner := "WhoRules$Holder") (n := 1) q_1249 q_1202 q_1201 q_1200 q_117 q_1218 q_1200 q_1218 (by decide +kernel) (by decide) (by decide)) rfl (Nat.le_of_ble_eq_true rfl) d_H_doRules_8 rfl (fun hr2 => ?_)
  replace hr2 : inR r2 := hr2
  refine vj_aload_n G (p9 := 0) d_H_doRules_11 rfl rfl ?_
  refine hgf_H_15_0 G hx0 d_H_doRules_12 ?_
  refine vj_mr (fun hM3 => ?_)
  refine vj_isub G d_H_doRules_15 ?_
  cases hF
  exact vj_iret G0 (ir_w _) d_H_doRules_16
set_option maxHeartbeats 4000000 in
set_option maxRecDepth 100000 in
theorem ct_H_isUnderc0 {w : Wd} (hij : ij LC w) (n : Nat) (x0 x1 : Int) (hx0 : hH w x0 0) (hx1 : inR x1) {M : Mm} {r : Int} {M9 : Mm} (hF : f_H_isUnderc0 n x0 x1 M = some (r, M9)) : Ct LC w y_H_isUnder b_H_isUnder 2 (some .boolean) 0 0 3 [.ref (wa w (500 + x0.toNat)), .int (i32 x1)] M r M9 := by
  refine Ct.of hij KstC (by decide +kernel) (Nat.le_of_ble_eq_true rfl) (fun X G0 => ?_)
  have G := G0.1
  show VJ LC w X 2 3 r M9 M [(0, .ref (wa w (500 + x0.toNat))), (1, .int (i32 x1))] [] 0
  unfold f_H_isUnderc0 at hF
  refine vj_iload_n G (p9 := 1) d_H_isUnder_0 rfl rfl ?_
  by_cases c1 : x1 = 0
  · rw [if_pos c1] at hF
    refine vj_swIn G (y := 0) (tgt := 36) d_H_isUnder_1 hx1 c1 (by decide) (by decide) rfl (by decide) ?_
    refine vj_iconst G (v := 1) d_H_isUnder_36 rfl ?_
    cases hF
    exact vj_zret G0 (Or.inr rfl) d_H_isUnder_37
  · rw [if_neg c1] at hF
    by_cases c2 : x1 = 1
    · rw [if_pos c2] at hF
      refine vj_swIn G (y := 1) (tgt := 38) d_H_isUnder_1 hx1 c2 (by decide) (by decide) rfl (by decide) ?_
      refine vj_aload_n G (p9 := 0) d_H_isUnder_38 rfl rfl ?_
      refine vj_instN G hx0 clC_0 q_1268 (by decide) d_H_isUnder_39 ?_
      cases hF
      exact vj_zret G0 (Or.inl rfl) d_H_isUnder_42
    · rw [if_neg c2] at hF
      by_cases c3 : x1 = 2
      · rw [if_pos c3] at hF
        refine vj_swIn G (y := 2) (tgt := 43) d_H_isUnder_1 hx1 c3 (by decide) (by decide) rfl (by decide) ?_
        refine vj_aload_n G (p9 := 0) d_H_isUnder_43 rfl rfl ?_
        refine vj_instN G hx0 clC_0 q_1269 (by decide) d_H_isUnder_44 ?_
        cases hF
        exact vj_zret G0 (Or.inl rfl) d_H_isUnder_47
      · rw [if_neg c3] at hF
        by_cases c4 : x1 = 3
        · rw [if_pos c4] at hF
          refine vj_swIn G (y := 3) (tgt := 48) d_H_isUnder_1 hx1 c4 (by decide) (by decide) rfl (by decide) ?_
          refine vj_aload_n G (p9 := 0) d_H_isUnder_48 rfl rfl ?_
          refine vj_instN G hx0 clC_0 q_1270 (by decide) d_H_isUnder_49 ?_
          cases hF
          exact vj_zret G0 (Or.inl rfl) d_H_isUnder_52
        · rw [if_neg c4] at hF
          by_cases c5 : x1 = 4
          · rw [if_pos c5] at hF
            refine vj_swIn G (y := 4) (tgt := 53) d_H_isUnder_1 hx1 c5 (by decide) (by decide) rfl (by decide) ?_
            refine vj_aload_n G (p9 := 0) d_H_isUnder_53 rfl rfl ?_
            refine vj_instN G hx0 clC_0 q_1271 (by decide) d_H_isUnder_54 ?_
            cases hF
            exact vj_zret G0 (Or.inl rfl) d_H_isUnder_57
          · rw [if_neg c5] at hF
            refine vj_swOut G (tgt := 58) d_H_isUnder_1 hx1 (by omega) (by decide) ?_
            refine vj_aload_n G (p9 := 0) d_H_isUnder_58 rfl rfl ?_
            refine vj_instN G hx0 clC_0 q_1272 (by decide) d_H_isUnder_59 ?_
            cases hF
            exact vj_zret G0 (Or.inl rfl) d_H_isUnder_62
set_option maxHeartbeats 4000000 in
set_option maxRecDepth 100000 in
theorem wk_H_beginc1_25 {w : Wd} {X : Cx} {r : Int} {M9 : Mm} (G0 : Gx LC w X "WhoRules$Holder" b_H_begin 3 0 0 none) (n : Nat) (x0 x2 : Int) (hx0 : hH w x0 1) (hx2 : inR x2) (M : Mm) (hF : f_H_beginc1_25 n x0 x2 M = some (r, M9)) : VJ LC w X 3 0 r M9 M [(0, .ref (wa w (500 + x0.toNat))), (2, .int (i32 x2))] [] 25 := by
  have G := G0.1
  unfold f_H_beginc1_25 at hF
  refine vj_aload_n G (p9 := 0) d_H_begin_25 rfl rfl ?_
  refine hgf_H_18_1 G hx0 d_H_begin_26 ?_
  refine vj_bipush G (v := 20) d_H_begin_29 rfl ?_
  refine vj_iload_n G (p9 := 1) d_H_begin_31 rfl rfl ?_
  refine vj_iconst G (v := 1) d_H_begin_32 rfl ?_
  refine vj_iadd G d_H_begin_33 ?_
  refine vj_iast G (x := 20) lkC_10 (by decide) (by decide) (by decide) ⟨by decide, by decide⟩ (ir_w _) d_H_begin_34 ?_
  cases hF
  exact vj_vret G0 d_H_begin_35
set_option maxHeartbeats 4000000 in
set_option maxRecDepth 100000 in
theorem ct_H_beginc1 {w : Wd} (hij : ij LC w) (n : Nat) (x0 x1 : Int) (hx0 : hH w x0 1) (hx1 : inR x1) {M : Mm} {r : Int} {M9 : Mm} (hF : f_H_beginc1 n x0 x1 M = some (r, M9)) : Ct LC w y_H_begin b_H_begin 3 none 0 0 0 [.ref (wa w (500 + x0.toNat)), .int (i32 x1)] M r M9 := by
  refine Ct.of hij KstC (by decide +kernel) (Nat.le_of_ble_eq_true rfl) (fun X G0 => ?_)
  have G := G0.1
  show VJ LC w X 3 0 r M9 M [(0, .ref (wa w (500 + x0.toNat))), (1, .int (i32 x1))] [] 0
  unfold f_H_beginc1 at hF
  refine vj_aload_n G (p9 := 0) d_H_begin_0 rfl rfl ?_
  refine hgf_H_18_1 G hx0 d_H_begin_1 ?_
  refine vj_bipush G (v := 20) d_H_begin_4 rfl ?_
  refine vj_iald G (x := 20) lkC_10 (by decide) ⟨by decide, by decide⟩ d_H_begin_6 ?_
  refine vj_mr (fun hM1 => ?_)
  refine vj_istore_n G (lv2 := [(2, .int (i32 (M 10 (20 : Int).toNat))), (0, .ref (wa w (500 + x0.toNat))), (1, .int (i32 x1))]) d_H_begin_7 rfl (by decide) rfl ?_
  refine vj_iload_n G (p9 := 0) d_H_begin_8 rfl rfl ?_
  refine vj_if_lt G (tgt := 25) d_H_begin_9 (by decide) (mr_a hM1 lkC_10) (fun c2 => ?_) (fun c2 => ?_)
  · rw [if_pos c2] at hF
    refine vj_sub [1, 0] rfl ?_
    exact wk_H_beginc1_25 G0 n  x0 (M 10 (20 : Int).toNat) hx0 (mr_a hM1 lkC_10) _ hF
  · rw [if_neg c2] at hF
    refine vj_iload_n G (p9 := 0) d_H_begin_12 rfl rfl ?_
    refine vj_bipush G (v := 20) d_H_begin_13 rfl ?_
    refine vj_icmp_ge G (tgt := 25) d_H_begin_15 (by decide) (mr_a hM1 lkC_10) ic_20 (fun c3 => ?_) (fun c3 => ?_)
    · rw [if_pos c3] at hF
      refine vj_sub [1, 0] rfl ?_
      exact wk_H_beginc1_25 G0 n  x0 (M 10 (20 : Int).toNat) hx0 (mr_a hM1 lkC_10) _ hF
    · rw [if_neg c3] at hF
      refine vj_aload_n G (p9 := 1) d_H_begin_18 rfl rfl ?_
      refine hgf_H_18_1 G hx0 d_H_begin_19 ?_
      refine vj_iload_n G (p9 := 0) d_H_begin_22 rfl rfl ?_
      refine vj_iload_n G (p9 := 2) d_H_begin_23 rfl rfl ?_
      obtain ⟨c4, hF⟩ := ck_some hF
      refine vj_iast G (x := (M 10 (20 : Int).toNat)) lkC_10 (by decide) (by decide) (by decide) c4 hx1 d_H_begin_24 ?_
      refine vj_sub [1, 0] rfl ?_
      exact wk_H_beginc1_25 G0 n  x0 (M 10 (20 : Int).toNat) hx0 (mr_a hM1 lkC_10) _ hF
set_option maxHeartbeats 4000000 in
set_option maxRecDepth 100000 in
theorem ct_H_doVotesc1 {w : Wd} (hij : ij LC w) (n : Nat) (x0 x1 : Int) (hx0 : hH w x0 1) (hx1 : inR x1) {M : Mm} {r : Int} {M9 : Mm} (hF : f_H_doVotesc1 n x0 x1 M = some (r, M9)) : Ct LC w y_H_doVotes b_H_doVotes 2 (some .int) 1 22 1 [.ref (wa w (500 + x0.toNat)), .int (i32 x1)] M r M9 := by
  refine Ct.of hij KstC (by decide +kernel) (Nat.le_of_ble_eq_true rfl) (fun X G0 => ?_)
  have G := G0.1
  show VJ LC w X 2 1 r M9 M [(0, .ref (wa w (500 + x0.toNat))), (1, .int (i32 x1))] [] 0
  unfold f_H_doVotesc1 at hF
  refine vj_aload_n G (p9 := 0) d_H_doVotes_0 rfl rfl ?_
  refine vj_bipush G (v := 10) d_H_doVotes_1 rfl ?_
  obtain ⟨r1, M1, e1, hF⟩ := bnd_some hF
  refine vj_callH G hx0 clC_1 (ct_H_beginc1 (gx_ij G) n x0 10 hx0 ic_10 e1) (cu_of G (x := ⟨"WhoRules$Holder", "begin", "(I)V"⟩) (y := ⟨"WhoRules$Holder", "begin", "(I)V"⟩) (owner := "WhoRules$Holder") (n := 1) q_1198 q_1940 q_1942 q_1175 q_117 q_1176 q_1175 q_1176 (by decide +kernel) (by decide) (by decide)) rfl (Nat.le_of_ble_eq_true rfl) d_H_doVotes_3 rfl (fun hr1 => ?_)
  refine vj_iload_n G (p9 := 1) d_H_doVotes_6 rfl rfl ?_
  refine vj_aload_n G (p9 := 0) d_H_doVotes_7 rfl rfl ?_
  refine hgf_H_9_1 G hx0 d_H_doVotes_8 ?_
  refine vj_iadd G d_H_doVotes_11 ?_
  cases hF
  exact vj_iret G0 (ir_w _) d_H_doVotes_12
set_option maxHeartbeats 4000000 in
set_option maxRecDepth 100000 in
theorem ct_Hf_doVotesc1 {w : Wd} (hij : ij LC w) (n : Nat) (x0 x1 : Int) (hx0 : hH w x0 1) (hx1 : inR x1) {M : Mm} {r : Int} {M9 : Mm} (hF : f_Hf_doVotesc1 n x0 x1 M = some (r, M9)) : Ct LC w y_Hf_doVotes b_Hf_doVotes 2 (some .int) 2 43 1 [.ref (wa w (500 + x0.toNat)), .int (i32 x1)] M r M9 := by
  refine Ct.of hij KstC (by decide +kernel) (Nat.le_of_ble_eq_true rfl) (fun X G0 => ?_)
  have G := G0.1
  show VJ LC w X 2 1 r M9 M [(0, .ref (wa w (500 + x0.toNat))), (1, .int (i32 x1))] [] 0
  unfold f_Hf_doVotesc1 at hF
  refine vj_aload_n G (p9 := 0) d_Hf_doVotes_0 rfl rfl ?_
  refine vj_bipush G (v := 20) d_Hf_doVotes_1 rfl ?_
  obtain ⟨r1, M1, e1, hF⟩ := bnd_some hF
  refine vj_callH G hx0 clC_1 (ct_H_beginc1 (gx_ij G) n x0 20 hx0 ic_20 e1) (cu_of G (x := ⟨"WhoRules$Firm", "begin", "(I)V"⟩) (y := ⟨"WhoRules$Holder", "begin", "(I)V"⟩) (owner := "WhoRules$Holder") (n := 1) q_1183 q_1184 q_1185 q_1175 q_117 q_1176 q_1175 q_1176 (by decide +kernel) (by decide) (by decide)) rfl (Nat.le_of_ble_eq_true rfl) d_Hf_doVotes_3 rfl (fun hr1 => ?_)
  refine vj_aload_n G (p9 := 0) d_Hf_doVotes_6 rfl rfl ?_
  refine vj_iload_n G (p9 := 1) d_Hf_doVotes_7 rfl rfl ?_
  obtain ⟨r2, M2, e2, hF⟩ := bnd_some hF
  refine vj_callHS G hx0 clC_1 (ct_H_doVotesc1 (gx_ij G) n x0 x1 hx0 hx1 e2) (n := 1) (x := ⟨"WhoRules$Holder", "doVotes", "(I)I"⟩) (y := ⟨"WhoRules$Holder", "doVotes", "(I)I"⟩) (owner := "WhoRules$Holder") rfl rfl q_1186 q_1167 q_525 q_1165 q_117 q_1197 (Or.inl rfl) (by decide) (by decide +kernel) rfl (by decide) (by decide) (Nat.le_of_ble_eq_true rfl) d_Hf_doVotes_8 rfl (fun hr2 => ?_)
  replace hr2 : inR r2 := hr2
  refine vj_bipush G (v := 6) d_Hf_doVotes_11 rfl ?_
  refine vj_ixor G d_Hf_doVotes_13 ?_
  cases hF
  exact vj_iret G0 (ir_xo _ _) d_Hf_doVotes_14
set_option maxHeartbeats 4000000 in
set_option maxRecDepth 100000 in
theorem ct_H_doOwnsc1 {w : Wd} (hij : ij LC w) (n : Nat) (x0 x1 : Int) (hx0 : hH w x0 1) (hx1 : inR x1) {M : Mm} {r : Int} {M9 : Mm} (hF : f_H_doOwnsc1 n x0 x1 M = some (r, M9)) : Ct LC w y_H_doOwns b_H_doOwns 2 (some .int) 3 64 1 [.ref (wa w (500 + x0.toNat)), .int (i32 x1)] M r M9 := by
  refine Ct.of hij KstC (by decide +kernel) (Nat.le_of_ble_eq_true rfl) (fun X G0 => ?_)
  have G := G0.1
  show VJ LC w X 2 1 r M9 M [(0, .ref (wa w (500 + x0.toNat))), (1, .int (i32 x1))] [] 0
  unfold f_H_doOwnsc1 at hF
  refine vj_aload_n G (p9 := 0) d_H_doOwns_0 rfl rfl ?_
  refine vj_bipush G (v := 11) d_H_doOwns_1 rfl ?_
  obtain ⟨r1, M1, e1, hF⟩ := bnd_some hF
  refine vj_callH G hx0 clC_1 (ct_H_beginc1 (gx_ij G) n x0 11 hx0 ic_11 e1) (cu_of G (x := ⟨"WhoRules$Holder", "begin", "(I)V"⟩) (y := ⟨"WhoRules$Holder", "begin", "(I)V"⟩) (owner := "WhoRules$Holder") (n := 1) q_1198 q_1940 q_1942 q_1175 q_117 q_1176 q_1175 q_1176 (by decide +kernel) (by decide) (by decide)) rfl (Nat.le_of_ble_eq_true rfl) d_H_doOwns_3 rfl (fun hr1 => ?_)
  refine vj_aload_n G (p9 := 0) d_H_doOwns_6 rfl rfl ?_
  refine vj_iload_n G (p9 := 1) d_H_doOwns_7 rfl rfl ?_
  obtain ⟨r2, M2, e2, hF⟩ := bnd_some hF
  refine vj_callH G hx0 clC_1 (ct_Hf_doVotesc1 (gx_ij G) n x0 x1 hx0 hx1 e2) (cu_of G (x := ⟨"WhoRules$Holder", "doVotes", "(I)I"⟩) (y := ⟨"WhoRules$Firm", "doVotes", "(I)I"⟩) (owner := "WhoRules$Holder") (n := 1) q_1219 q_1167 q_1180 q_1181 q_118 q_1182 q_1165 q_1197 (by decide +kernel) (by decide) (by decide)) rfl (Nat.le_of_ble_eq_true rfl) d_H_doOwns_8 rfl (fun hr2 => ?_)
  replace hr2 : inR r2 := hr2
  refine vj_iconst G (v := 2) d_H_doOwns_11 rfl ?_
  refine vj_imul G d_H_doOwns_12 ?_
  cases hF
  exact vj_iret G0 (ir_w _) d_H_doOwns_13
set_option maxHeartbeats 4000000 in
set_option maxRecDepth 100000 in
theorem ct_H_doRulesc1 {w : Wd} (hij : ij LC w) (n : Nat) (x0 x1 : Int) (hx0 : hH w x0 1) (hx1 : inR x1) {M : Mm} {r : Int} {M9 : Mm} (hF : f_H_doRulesc1 n x0 x1 M = some (r, M9)) : Ct LC w y_H_doRules b_H_doRules 2 (some .int) 4 85 1 [.ref (wa w (500 + x0.toNat)), .int (i32 x1)] M r M9 := by
  refine Ct.of hij KstC (by decide +kernel) (Nat.le_of_ble_eq_true rfl) (fun X G0 => ?_)
  have G := G0.1
  show VJ LC w X 2 1 r M9 M [(0, .ref (wa w (500 + x0.toNat))), (1, .int (i32 x1))] [] 0
  unfold f_H_doRulesc1 at hF
  refine vj_aload_n G (p9 := 0) d_H_doRules_0 rfl rfl ?_
  refine vj_bipush G (v := 12) d_H_doRules_1 rfl ?_
  obtain ⟨r1, M1, e1, hF⟩ := bnd_some hF
  refine vj_callH G hx0 clC_1 (ct_H_beginc1 (gx_ij G) n x0 12 hx0 ic_12 e1) (cu_of G (x := ⟨"WhoRules$Holder", "begin", "(I)V"⟩) (y := ⟨"WhoRules$Holder", "begin", "(I)V"⟩) (owner := "WhoRules$Holder") (n := 1) q_1198 q_1940 q_1942 q_1175 q_117 q_1176 q_1175 q_1176 (by decide +kernel) (by decide) (by decide)) rfl (Nat.le_of_ble_eq_true rfl) d_H_doRules_3 rfl (fun hr1 => ?_)
  refine vj_aload_n G (p9 := 0) d_H_doRules_6 rfl rfl ?_
  refine vj_iload_n G (p9 := 1) d_H_doRules_7 rfl rfl ?_
  obtain ⟨r2, M2, e2, hF⟩ := bnd_some hF
  refine vj_callH G hx0 clC_1 (ct_H_doOwnsc1 (gx_ij G) n x0 x1 hx0 hx1 e2) (cu_of G (x := ⟨"WhoRules$Holder", "doOwns", "(I)I"⟩) (y := ⟨"WhoRules$Holder", "doOwns", "(I)I"⟩) (owner := "WhoRules$Holder") (n := 1) q_1249 q_1202 q_1204 q_1200 q_117 q_1218 q_1200 q_1218 (by decide +kernel) (by decide) (by decide)) rfl (Nat.le_of_ble_eq_true rfl) d_H_doRules_8 rfl (fun hr2 => ?_)
  replace hr2 : inR r2 := hr2
  refine vj_aload_n G (p9 := 0) d_H_doRules_11 rfl rfl ?_
  refine hgf_H_15_1 G hx0 d_H_doRules_12 ?_
  refine vj_mr (fun hM3 => ?_)
  refine vj_isub G d_H_doRules_15 ?_
  cases hF
  exact vj_iret G0 (ir_w _) d_H_doRules_16
set_option maxHeartbeats 4000000 in
set_option maxRecDepth 100000 in
theorem ct_Hf_doRulesc1 {w : Wd} (hij : ij LC w) (n : Nat) (x0 x1 : Int) (hx0 : hH w x0 1) (hx1 : inR x1) {M : Mm} {r : Int} {M9 : Mm} (hF : f_Hf_doRulesc1 n x0 x1 M = some (r, M9)) : Ct LC w y_Hf_doRules b_Hf_doRules 2 (some .int) 5 106 1 [.ref (wa w (500 + x0.toNat)), .int (i32 x1)] M r M9 := by
  refine Ct.of hij KstC (by decide +kernel) (Nat.le_of_ble_eq_true rfl) (fun X G0 => ?_)
  have G := G0.1
  show VJ LC w X 2 1 r M9 M [(0, .ref (wa w (500 + x0.toNat))), (1, .int (i32 x1))] [] 0
  unfold f_Hf_doRulesc1 at hF
  refine vj_aload_n G (p9 := 0) d_Hf_doRules_0 rfl rfl ?_
  refine vj_bipush G (v := 21) d_Hf_doRules_1 rfl ?_
  obtain ⟨r1, M1, e1, hF⟩ := bnd_some hF
  refine vj_callH G hx0 clC_1 (ct_H_beginc1 (gx_ij G) n x0 21 hx0 ic_21 e1) (cu_of G (x := ⟨"WhoRules$Firm", "begin", "(I)V"⟩) (y := ⟨"WhoRules$Holder", "begin", "(I)V"⟩) (owner := "WhoRules$Holder") (n := 1) q_1183 q_1184 q_1185 q_1175 q_117 q_1176 q_1175 q_1176 (by decide +kernel) (by decide) (by decide)) rfl (Nat.le_of_ble_eq_true rfl) d_Hf_doRules_3 rfl (fun hr1 => ?_)
  refine vj_aload_n G (p9 := 0) d_Hf_doRules_6 rfl rfl ?_
  refine vj_iload_n G (p9 := 1) d_Hf_doRules_7 rfl rfl ?_
  obtain ⟨r2, M2, e2, hF⟩ := bnd_some hF
  refine vj_callHS G hx0 clC_1 (ct_H_doRulesc1 (gx_ij G) n x0 x1 hx0 hx1 e2) (n := 1) (x := ⟨"WhoRules$Holder", "doRules", "(I)I"⟩) (y := ⟨"WhoRules$Holder", "doRules", "(I)I"⟩) (owner := "WhoRules$Holder") rfl rfl q_1243 q_1223 q_525 q_1221 q_117 q_1248 (Or.inl rfl) (by decide) (by decide +kernel) rfl (by decide) (by decide) (Nat.le_of_ble_eq_true rfl) d_Hf_doRules_8 rfl (fun hr2 => ?_)
  replace hr2 : inR r2 := hr2
  refine vj_aload_n G (p9 := 0) d_Hf_doRules_11 rfl rfl ?_
  refine vj_iconst G (v := 1) d_Hf_doRules_12 rfl ?_
  obtain ⟨r3, M3, e3, hF⟩ := bnd_some hF
  refine vj_callHV G hx0 clC_1 (ct_Hf_doVotesc1 (gx_ij G) n x0 1 hx0 ic_1 e3) rfl q_1244 cq_Hf_doVotes rfl (by decide) (by decide) (Nat.le_of_ble_eq_true rfl) d_Hf_doRules_13 rfl (fun hr3 => ?_)
  replace hr3 : inR r3 := hr3
  refine vj_iadd G d_Hf_doRules_16 ?_
  cases hF
  exact vj_iret G0 (ir_w _) d_Hf_doRules_17
set_option maxHeartbeats 4000000 in
set_option maxRecDepth 100000 in
theorem ct_H_isUnderc1 {w : Wd} (hij : ij LC w) (n : Nat) (x0 x1 : Int) (hx0 : hH w x0 1) (hx1 : inR x1) {M : Mm} {r : Int} {M9 : Mm} (hF : f_H_isUnderc1 n x0 x1 M = some (r, M9)) : Ct LC w y_H_isUnder b_H_isUnder 2 (some .boolean) 0 0 3 [.ref (wa w (500 + x0.toNat)), .int (i32 x1)] M r M9 := by
  refine Ct.of hij KstC (by decide +kernel) (Nat.le_of_ble_eq_true rfl) (fun X G0 => ?_)
  have G := G0.1
  show VJ LC w X 2 3 r M9 M [(0, .ref (wa w (500 + x0.toNat))), (1, .int (i32 x1))] [] 0
  unfold f_H_isUnderc1 at hF
  refine vj_iload_n G (p9 := 1) d_H_isUnder_0 rfl rfl ?_
  by_cases c1 : x1 = 0
  · rw [if_pos c1] at hF
    refine vj_swIn G (y := 0) (tgt := 36) d_H_isUnder_1 hx1 c1 (by decide) (by decide) rfl (by decide) ?_
    refine vj_iconst G (v := 1) d_H_isUnder_36 rfl ?_
    cases hF
    exact vj_zret G0 (Or.inr rfl) d_H_isUnder_37
  · rw [if_neg c1] at hF
    by_cases c2 : x1 = 1
    · rw [if_pos c2] at hF
      refine vj_swIn G (y := 1) (tgt := 38) d_H_isUnder_1 hx1 c2 (by decide) (by decide) rfl (by decide) ?_
      refine vj_aload_n G (p9 := 0) d_H_isUnder_38 rfl rfl ?_
      refine vj_instS G hx0 clC_1 q_1268 d_H_isUnder_39 ?_
      cases hF
      exact vj_zret G0 (Or.inr rfl) d_H_isUnder_42
    · rw [if_neg c2] at hF
      by_cases c3 : x1 = 2
      · rw [if_pos c3] at hF
        refine vj_swIn G (y := 2) (tgt := 43) d_H_isUnder_1 hx1 c3 (by decide) (by decide) rfl (by decide) ?_
        refine vj_aload_n G (p9 := 0) d_H_isUnder_43 rfl rfl ?_
        refine vj_instN G hx0 clC_1 q_1269 (by decide) d_H_isUnder_44 ?_
        cases hF
        exact vj_zret G0 (Or.inl rfl) d_H_isUnder_47
      · rw [if_neg c3] at hF
        by_cases c4 : x1 = 3
        · rw [if_pos c4] at hF
          refine vj_swIn G (y := 3) (tgt := 48) d_H_isUnder_1 hx1 c4 (by decide) (by decide) rfl (by decide) ?_
          refine vj_aload_n G (p9 := 0) d_H_isUnder_48 rfl rfl ?_
          refine vj_instN G hx0 clC_1 q_1270 (by decide) d_H_isUnder_49 ?_
          cases hF
          exact vj_zret G0 (Or.inl rfl) d_H_isUnder_52
        · rw [if_neg c4] at hF
          by_cases c5 : x1 = 4
          · rw [if_pos c5] at hF
            refine vj_swIn G (y := 4) (tgt := 53) d_H_isUnder_1 hx1 c5 (by decide) (by decide) rfl (by decide) ?_
            refine vj_aload_n G (p9 := 0) d_H_isUnder_53 rfl rfl ?_
            refine vj_instN G hx0 clC_1 q_1271 (by decide) d_H_isUnder_54 ?_
            cases hF
            exact vj_zret G0 (Or.inl rfl) d_H_isUnder_57
          · rw [if_neg c5] at hF
            refine vj_swOut G (tgt := 58) d_H_isUnder_1 hx1 (by omega) (by decide) ?_
            refine vj_aload_n G (p9 := 0) d_H_isUnder_58 rfl rfl ?_
            refine vj_instN G hx0 clC_1 q_1272 (by decide) d_H_isUnder_59 ?_
            cases hF
            exact vj_zret G0 (Or.inl rfl) d_H_isUnder_62
set_option maxHeartbeats 4000000 in
set_option maxRecDepth 100000 in
theorem wk_H_beginc2_25 {w : Wd} {X : Cx} {r : Int} {M9 : Mm} (G0 : Gx LC w X "WhoRules$Holder" b_H_begin 3 0 0 none) (n : Nat) (x0 x2 : Int) (hx0 : hH w x0 2) (hx2 : inR x2) (M : Mm) (hF : f_H_beginc2_25 n x0 x2 M = some (r, M9)) : VJ LC w X 3 0 r M9 M [(0, .ref (wa w (500 + x0.toNat))), (2, .int (i32 x2))] [] 25 := by
  have G := G0.1
  unfold f_H_beginc2_25 at hF
  refine vj_aload_n G (p9 := 0) d_H_begin_25 rfl rfl ?_
  refine hgf_H_18_2 G hx0 d_H_begin_26 ?_
  refine vj_bipush G (v := 20) d_H_begin_29 rfl ?_
  refine vj_iload_n G (p9 := 1) d_H_begin_31 rfl rfl ?_
  refine vj_iconst G (v := 1) d_H_begin_32 rfl ?_
  refine vj_iadd G d_H_begin_33 ?_
  refine vj_iast G (x := 20) lkC_10 (by decide) (by decide) (by decide) ⟨by decide, by decide⟩ (ir_w _) d_H_begin_34 ?_
  cases hF
  exact vj_vret G0 d_H_begin_35
set_option maxHeartbeats 4000000 in
set_option maxRecDepth 100000 in
theorem ct_H_beginc2 {w : Wd} (hij : ij LC w) (n : Nat) (x0 x1 : Int) (hx0 : hH w x0 2) (hx1 : inR x1) {M : Mm} {r : Int} {M9 : Mm} (hF : f_H_beginc2 n x0 x1 M = some (r, M9)) : Ct LC w y_H_begin b_H_begin 3 none 0 0 0 [.ref (wa w (500 + x0.toNat)), .int (i32 x1)] M r M9 := by
  refine Ct.of hij KstC (by decide +kernel) (Nat.le_of_ble_eq_true rfl) (fun X G0 => ?_)
  have G := G0.1
  show VJ LC w X 3 0 r M9 M [(0, .ref (wa w (500 + x0.toNat))), (1, .int (i32 x1))] [] 0
  unfold f_H_beginc2 at hF
  refine vj_aload_n G (p9 := 0) d_H_begin_0 rfl rfl ?_
  refine hgf_H_18_2 G hx0 d_H_begin_1 ?_
  refine vj_bipush G (v := 20) d_H_begin_4 rfl ?_
  refine vj_iald G (x := 20) lkC_10 (by decide) ⟨by decide, by decide⟩ d_H_begin_6 ?_
  refine vj_mr (fun hM1 => ?_)
  refine vj_istore_n G (lv2 := [(2, .int (i32 (M 10 (20 : Int).toNat))), (0, .ref (wa w (500 + x0.toNat))), (1, .int (i32 x1))]) d_H_begin_7 rfl (by decide) rfl ?_
  refine vj_iload_n G (p9 := 0) d_H_begin_8 rfl rfl ?_
  refine vj_if_lt G (tgt := 25) d_H_begin_9 (by decide) (mr_a hM1 lkC_10) (fun c2 => ?_) (fun c2 => ?_)
  · rw [if_pos c2] at hF
    refine vj_sub [1, 0] rfl ?_
    exact wk_H_beginc2_25 G0 n  x0 (M 10 (20 : Int).toNat) hx0 (mr_a hM1 lkC_10) _ hF
  · rw [if_neg c2] at hF
    refine vj_iload_n G (p9 := 0) d_H_begin_12 rfl rfl ?_
    refine vj_bipush G (v := 20) d_H_begin_13 rfl ?_
    refine vj_icmp_ge G (tgt := 25) d_H_begin_15 (by decide) (mr_a hM1 lkC_10) ic_20 (fun c3 => ?_) (fun c3 => ?_)
    · rw [if_pos c3] at hF
      refine vj_sub [1, 0] rfl ?_
      exact wk_H_beginc2_25 G0 n  x0 (M 10 (20 : Int).toNat) hx0 (mr_a hM1 lkC_10) _ hF
    · rw [if_neg c3] at hF
      refine vj_aload_n G (p9 := 1) d_H_begin_18 rfl rfl ?_
      refine hgf_H_18_2 G hx0 d_H_begin_19 ?_
      refine vj_iload_n G (p9 := 0) d_H_begin_22 rfl rfl ?_
      refine vj_iload_n G (p9 := 2) d_H_begin_23 rfl rfl ?_
      obtain ⟨c4, hF⟩ := ck_some hF
      refine vj_iast G (x := (M 10 (20 : Int).toNat)) lkC_10 (by decide) (by decide) (by decide) c4 hx1 d_H_begin_24 ?_
      refine vj_sub [1, 0] rfl ?_
      exact wk_H_beginc2_25 G0 n  x0 (M 10 (20 : Int).toNat) hx0 (mr_a hM1 lkC_10) _ hF
set_option maxHeartbeats 4000000 in
set_option maxRecDepth 100000 in
theorem ct_H_doVotesc2 {w : Wd} (hij : ij LC w) (n : Nat) (x0 x1 : Int) (hx0 : hH w x0 2) (hx1 : inR x1) {M : Mm} {r : Int} {M9 : Mm} (hF : f_H_doVotesc2 n x0 x1 M = some (r, M9)) : Ct LC w y_H_doVotes b_H_doVotes 2 (some .int) 1 22 1 [.ref (wa w (500 + x0.toNat)), .int (i32 x1)] M r M9 := by
  refine Ct.of hij KstC (by decide +kernel) (Nat.le_of_ble_eq_true rfl) (fun X G0 => ?_)
  have G := G0.1
  show VJ LC w X 2 1 r M9 M [(0, .ref (wa w (500 + x0.toNat))), (1, .int (i32 x1))] [] 0
  unfold f_H_doVotesc2 at hF
  refine vj_aload_n G (p9 := 0) d_H_doVotes_0 rfl rfl ?_
  refine vj_bipush G (v := 10) d_H_doVotes_1 rfl ?_
  obtain ⟨r1, M1, e1, hF⟩ := bnd_some hF
  refine vj_callH G hx0 clC_2 (ct_H_beginc2 (gx_ij G) n x0 10 hx0 ic_10 e1) (cu_of G (x := ⟨"WhoRules$Holder", "begin", "(I)V"⟩) (y := ⟨"WhoRules$Holder", "begin", "(I)V"⟩) (owner := "WhoRules$Holder") (n := 1) q_1198 q_1940 q_1946 q_1175 q_117 q_1176 q_1175 q_1176 (by decide +kernel) (by decide) (by decide)) rfl (Nat.le_of_ble_eq_true rfl) d_H_doVotes_3 rfl (fun hr1 => ?_)
  refine vj_iload_n G (p9 := 1) d_H_doVotes_6 rfl rfl ?_
  refine vj_aload_n G (p9 := 0) d_H_doVotes_7 rfl rfl ?_
  refine hgf_H_9_2 G hx0 d_H_doVotes_8 ?_
  refine vj_iadd G d_H_doVotes_11 ?_
  cases hF
  exact vj_iret G0 (ir_w _) d_H_doVotes_12
set_option maxHeartbeats 4000000 in
set_option maxRecDepth 100000 in
theorem ct_H_doOwnsc2 {w : Wd} (hij : ij LC w) (n : Nat) (x0 x1 : Int) (hx0 : hH w x0 2) (hx1 : inR x1) {M : Mm} {r : Int} {M9 : Mm} (hF : f_H_doOwnsc2 n x0 x1 M = some (r, M9)) : Ct LC w y_H_doOwns b_H_doOwns 2 (some .int) 2 43 1 [.ref (wa w (500 + x0.toNat)), .int (i32 x1)] M r M9 := by
  refine Ct.of hij KstC (by decide +kernel) (Nat.le_of_ble_eq_true rfl) (fun X G0 => ?_)
  have G := G0.1
  show VJ LC w X 2 1 r M9 M [(0, .ref (wa w (500 + x0.toNat))), (1, .int (i32 x1))] [] 0
  unfold f_H_doOwnsc2 at hF
  refine vj_aload_n G (p9 := 0) d_H_doOwns_0 rfl rfl ?_
  refine vj_bipush G (v := 11) d_H_doOwns_1 rfl ?_
  obtain ⟨r1, M1, e1, hF⟩ := bnd_some hF
  refine vj_callH G hx0 clC_2 (ct_H_beginc2 (gx_ij G) n x0 11 hx0 ic_11 e1) (cu_of G (x := ⟨"WhoRules$Holder", "begin", "(I)V"⟩) (y := ⟨"WhoRules$Holder", "begin", "(I)V"⟩) (owner := "WhoRules$Holder") (n := 1) q_1198 q_1940 q_1946 q_1175 q_117 q_1176 q_1175 q_1176 (by decide +kernel) (by decide) (by decide)) rfl (Nat.le_of_ble_eq_true rfl) d_H_doOwns_3 rfl (fun hr1 => ?_)
  refine vj_aload_n G (p9 := 0) d_H_doOwns_6 rfl rfl ?_
  refine vj_iload_n G (p9 := 1) d_H_doOwns_7 rfl rfl ?_
  obtain ⟨r2, M2, e2, hF⟩ := bnd_some hF
  refine vj_callH G hx0 clC_2 (ct_H_doVotesc2 (gx_ij G) n x0 x1 hx0 hx1 e2) (cu_of G (x := ⟨"WhoRules$Holder", "doVotes", "(I)I"⟩) (y := ⟨"WhoRules$Holder", "doVotes", "(I)I"⟩) (owner := "WhoRules$Holder") (n := 1) q_1219 q_1167 q_1196 q_1165 q_117 q_1197 q_1165 q_1197 (by decide +kernel) (by decide) (by decide)) rfl (Nat.le_of_ble_eq_true rfl) d_H_doOwns_8 rfl (fun hr2 => ?_)
  replace hr2 : inR r2 := hr2
  refine vj_iconst G (v := 2) d_H_doOwns_11 rfl ?_
  refine vj_imul G d_H_doOwns_12 ?_
  cases hF
  exact vj_iret G0 (ir_w _) d_H_doOwns_13
set_option maxHeartbeats 4000000 in
set_option maxRecDepth 100000 in
theorem ct_Hp_doOwnsc2 {w : Wd} (hij : ij LC w) (n : Nat) (x0 x1 : Int) (hx0 : hH w x0 2) (hx1 : inR x1) {M : Mm} {r : Int} {M9 : Mm} (hF : f_Hp_doOwnsc2 n x0 x1 M = some (r, M9)) : Ct LC w y_Hp_doOwns b_Hp_doOwns 2 (some .int) 3 64 1 [.ref (wa w (500 + x0.toNat)), .int (i32 x1)] M r M9 := by
  refine Ct.of hij KstC (by decide +kernel) (Nat.le_of_ble_eq_true rfl) (fun X G0 => ?_)
  have G := G0.1
  show VJ LC w X 2 1 r M9 M [(0, .ref (wa w (500 + x0.toNat))), (1, .int (i32 x1))] [] 0
  unfold f_Hp_doOwnsc2 at hF
  refine vj_aload_n G (p9 := 0) d_Hp_doOwns_0 rfl rfl ?_
  refine vj_bipush G (v := 30) d_Hp_doOwns_1 rfl ?_
  obtain ⟨r1, M1, e1, hF⟩ := bnd_some hF
  refine vj_callH G hx0 clC_2 (ct_H_beginc2 (gx_ij G) n x0 30 hx0 ic_30 e1) (cu_of G (x := ⟨"WhoRules$Person", "begin", "(I)V"⟩) (y := ⟨"WhoRules$Holder", "begin", "(I)V"⟩) (owner := "WhoRules$Holder") (n := 1) q_1212 q_1213 q_1215 q_1175 q_117 q_1176 q_1175 q_1176 (by decide +kernel) (by decide) (by decide)) rfl (Nat.le_of_ble_eq_true rfl) d_Hp_doOwns_3 rfl (fun hr1 => ?_)
  refine vj_aload_n G (p9 := 0) d_Hp_doOwns_6 rfl rfl ?_
  refine vj_iload_n G (p9 := 1) d_Hp_doOwns_7 rfl rfl ?_
  refine vj_iconst G (v := 3) d_Hp_doOwns_8 rfl ?_
  refine vj_imul G d_Hp_doOwns_9 ?_
  obtain ⟨r2, M2, e2, hF⟩ := bnd_some hF
  refine vj_callHS G hx0 clC_2 (ct_H_doOwnsc2 (gx_ij G) n x0 (w32 (x1 * 3)) hx0 (ir_w _) e2) (n := 1) (x := ⟨"WhoRules$Holder", "doOwns", "(I)I"⟩) (y := ⟨"WhoRules$Holder", "doOwns", "(I)I"⟩) (owner := "WhoRules$Holder") rfl rfl q_1216 q_1202 q_535 q_1200 q_117 q_1218 (Or.inl rfl) (by decide) (by decide +kernel) rfl (by decide) (by decide) (Nat.le_of_ble_eq_true rfl) d_Hp_doOwns_10 rfl (fun hr2 => ?_)
  replace hr2 : inR r2 := hr2
  cases hF
  exact vj_iret G0 hr2 d_Hp_doOwns_13
set_option maxHeartbeats 4000000 in
set_option maxRecDepth 100000 in
theorem ct_H_doRulesc2 {w : Wd} (hij : ij LC w) (n : Nat) (x0 x1 : Int) (hx0 : hH w x0 2) (hx1 : inR x1) {M : Mm} {r : Int} {M9 : Mm} (hF : f_H_doRulesc2 n x0 x1 M = some (r, M9)) : Ct LC w y_H_doRules b_H_doRules 2 (some .int) 4 85 1 [.ref (wa w (500 + x0.toNat)), .int (i32 x1)] M r M9 := by
  refine Ct.of hij KstC (by decide +kernel) (Nat.le_of_ble_eq_true rfl) (fun X G0 => ?_)
  have G := G0.1
  show VJ LC w X 2 1 r M9 M [(0, .ref (wa w (500 + x0.toNat))), (1, .int (i32 x1))] [] 0
  unfold f_H_doRulesc2 at hF
  refine vj_aload_n G (p9 := 0) d_H_doRules_0 rfl rfl ?_
  refine vj_bipush G (v := 12) d_H_doRules_1 rfl ?_
  obtain ⟨r1, M1, e1, hF⟩ := bnd_some hF
  refine vj_callH G hx0 clC_2 (ct_H_beginc2 (gx_ij G) n x0 12 hx0 ic_12 e1) (cu_of G (x := ⟨"WhoRules$Holder", "begin", "(I)V"⟩) (y := ⟨"WhoRules$Holder", "begin", "(I)V"⟩) (owner := "WhoRules$Holder") (n := 1) q_1198 q_1940 q_1946 q_1175 q_117 q_1176 q_1175 q_1176 (by decide +kernel) (by decide) (by decide)) rfl (Nat.le_of_ble_eq_true rfl) d_H_doRules_3 rfl (fun hr1 => ?_)
  refine vj_aload_n G (p9 := 0) d_H_doRules_6 rfl rfl ?_
  refine vj_iload_n G (p9 := 1) d_H_doRules_7 rfl rfl ?_
  obtain ⟨r2, M2, e2, hF⟩ := bnd_some hF
  refine vj_callH G hx0 clC_2 (ct_Hp_doOwnsc2 (gx_ij G) n x0 x1 hx0 hx1 e2) (cu_of G (x := ⟨"WhoRules$Holder", "doOwns", "(I)I"⟩) (y := ⟨"WhoRules$Person", "doOwns", "(I)I"⟩) (owner := "WhoRules$Holder") (n := 1) q_1249 q_1202 q_1217 q_1210 q_119 q_1211 q_1200 q_1218 (by decide +kernel) (by decide) (by decide)) rfl (Nat.le_of_ble_eq_true rfl) d_H_doRules_8 rfl (fun hr2 => ?_)
  replace hr2 : inR r2 := hr2
  refine vj_aload_n G (p9 := 0) d_H_doRules_11 rfl rfl ?_
  refine hgf_H_15_2 G hx0 d_H_doRules_12 ?_
  refine vj_mr (fun hM3 => ?_)
  refine vj_isub G d_H_doRules_15 ?_
  cases hF
  exact vj_iret G0 (ir_w _) d_H_doRules_16
set_option maxHeartbeats 4000000 in
set_option maxRecDepth 100000 in
theorem ct_H_isUnderc2 {w : Wd} (hij : ij LC w) (n : Nat) (x0 x1 : Int) (hx0 : hH w x0 2) (hx1 : inR x1) {M : Mm} {r : Int} {M9 : Mm} (hF : f_H_isUnderc2 n x0 x1 M = some (r, M9)) : Ct LC w y_H_isUnder b_H_isUnder 2 (some .boolean) 0 0 3 [.ref (wa w (500 + x0.toNat)), .int (i32 x1)] M r M9 := by
  refine Ct.of hij KstC (by decide +kernel) (Nat.le_of_ble_eq_true rfl) (fun X G0 => ?_)
  have G := G0.1
  show VJ LC w X 2 3 r M9 M [(0, .ref (wa w (500 + x0.toNat))), (1, .int (i32 x1))] [] 0
  unfold f_H_isUnderc2 at hF
  refine vj_iload_n G (p9 := 1) d_H_isUnder_0 rfl rfl ?_
  by_cases c1 : x1 = 0
  · rw [if_pos c1] at hF
    refine vj_swIn G (y := 0) (tgt := 36) d_H_isUnder_1 hx1 c1 (by decide) (by decide) rfl (by decide) ?_
    refine vj_iconst G (v := 1) d_H_isUnder_36 rfl ?_
    cases hF
    exact vj_zret G0 (Or.inr rfl) d_H_isUnder_37
  · rw [if_neg c1] at hF
    by_cases c2 : x1 = 1
    · rw [if_pos c2] at hF
      refine vj_swIn G (y := 1) (tgt := 38) d_H_isUnder_1 hx1 c2 (by decide) (by decide) rfl (by decide) ?_
      refine vj_aload_n G (p9 := 0) d_H_isUnder_38 rfl rfl ?_
      refine vj_instN G hx0 clC_2 q_1268 (by decide) d_H_isUnder_39 ?_
      cases hF
      exact vj_zret G0 (Or.inl rfl) d_H_isUnder_42
    · rw [if_neg c2] at hF
      by_cases c3 : x1 = 2
      · rw [if_pos c3] at hF
        refine vj_swIn G (y := 2) (tgt := 43) d_H_isUnder_1 hx1 c3 (by decide) (by decide) rfl (by decide) ?_
        refine vj_aload_n G (p9 := 0) d_H_isUnder_43 rfl rfl ?_
        refine vj_instS G hx0 clC_2 q_1269 d_H_isUnder_44 ?_
        cases hF
        exact vj_zret G0 (Or.inr rfl) d_H_isUnder_47
      · rw [if_neg c3] at hF
        by_cases c4 : x1 = 3
        · rw [if_pos c4] at hF
          refine vj_swIn G (y := 3) (tgt := 48) d_H_isUnder_1 hx1 c4 (by decide) (by decide) rfl (by decide) ?_
          refine vj_aload_n G (p9 := 0) d_H_isUnder_48 rfl rfl ?_
          refine vj_instN G hx0 clC_2 q_1270 (by decide) d_H_isUnder_49 ?_
          cases hF
          exact vj_zret G0 (Or.inl rfl) d_H_isUnder_52
        · rw [if_neg c4] at hF
          by_cases c5 : x1 = 4
          · rw [if_pos c5] at hF
            refine vj_swIn G (y := 4) (tgt := 53) d_H_isUnder_1 hx1 c5 (by decide) (by decide) rfl (by decide) ?_
            refine vj_aload_n G (p9 := 0) d_H_isUnder_53 rfl rfl ?_
            refine vj_instN G hx0 clC_2 q_1271 (by decide) d_H_isUnder_54 ?_
            cases hF
            exact vj_zret G0 (Or.inl rfl) d_H_isUnder_57
          · rw [if_neg c5] at hF
            refine vj_swOut G (tgt := 58) d_H_isUnder_1 hx1 (by omega) (by decide) ?_
            refine vj_aload_n G (p9 := 0) d_H_isUnder_58 rfl rfl ?_
            refine vj_instN G hx0 clC_2 q_1272 (by decide) d_H_isUnder_59 ?_
            cases hF
            exact vj_zret G0 (Or.inl rfl) d_H_isUnder_62
set_option maxHeartbeats 4000000 in
set_option maxRecDepth 100000 in
theorem wk_H_beginc3_25 {w : Wd} {X : Cx} {r : Int} {M9 : Mm} (G0 : Gx LC w X "WhoRules$Holder" b_H_begin 3 0 0 none) (n : Nat) (x0 x2 : Int) (hx0 : hH w x0 3) (hx2 : inR x2) (M : Mm) (hF : f_H_beginc3_25 n x0 x2 M = some (r, M9)) : VJ LC w X 3 0 r M9 M [(0, .ref (wa w (500 + x0.toNat))), (2, .int (i32 x2))] [] 25 := by
  have G := G0.1
  unfold f_H_beginc3_25 at hF
  refine vj_aload_n G (p9 := 0) d_H_begin_25 rfl rfl ?_
  refine hgf_H_18_3 G hx0 d_H_begin_26 ?_
  refine vj_bipush G (v := 20) d_H_begin_29 rfl ?_
  refine vj_iload_n G (p9 := 1) d_H_begin_31 rfl rfl ?_
  refine vj_iconst G (v := 1) d_H_begin_32 rfl ?_
  refine vj_iadd G d_H_begin_33 ?_
  refine vj_iast G (x := 20) lkC_10 (by decide) (by decide) (by decide) ⟨by decide, by decide⟩ (ir_w _) d_H_begin_34 ?_
  cases hF
  exact vj_vret G0 d_H_begin_35
set_option maxHeartbeats 4000000 in
set_option maxRecDepth 100000 in
theorem ct_H_beginc3 {w : Wd} (hij : ij LC w) (n : Nat) (x0 x1 : Int) (hx0 : hH w x0 3) (hx1 : inR x1) {M : Mm} {r : Int} {M9 : Mm} (hF : f_H_beginc3 n x0 x1 M = some (r, M9)) : Ct LC w y_H_begin b_H_begin 3 none 0 0 0 [.ref (wa w (500 + x0.toNat)), .int (i32 x1)] M r M9 := by
  refine Ct.of hij KstC (by decide +kernel) (Nat.le_of_ble_eq_true rfl) (fun X G0 => ?_)
  have G := G0.1
  show VJ LC w X 3 0 r M9 M [(0, .ref (wa w (500 + x0.toNat))), (1, .int (i32 x1))] [] 0
  unfold f_H_beginc3 at hF
  refine vj_aload_n G (p9 := 0) d_H_begin_0 rfl rfl ?_
  refine hgf_H_18_3 G hx0 d_H_begin_1 ?_
  refine vj_bipush G (v := 20) d_H_begin_4 rfl ?_
  refine vj_iald G (x := 20) lkC_10 (by decide) ⟨by decide, by decide⟩ d_H_begin_6 ?_
  refine vj_mr (fun hM1 => ?_)
  refine vj_istore_n G (lv2 := [(2, .int (i32 (M 10 (20 : Int).toNat))), (0, .ref (wa w (500 + x0.toNat))), (1, .int (i32 x1))]) d_H_begin_7 rfl (by decide) rfl ?_
  refine vj_iload_n G (p9 := 0) d_H_begin_8 rfl rfl ?_
  refine vj_if_lt G (tgt := 25) d_H_begin_9 (by decide) (mr_a hM1 lkC_10) (fun c2 => ?_) (fun c2 => ?_)
  · rw [if_pos c2] at hF
    refine vj_sub [1, 0] rfl ?_
    exact wk_H_beginc3_25 G0 n  x0 (M 10 (20 : Int).toNat) hx0 (mr_a hM1 lkC_10) _ hF
  · rw [if_neg c2] at hF
    refine vj_iload_n G (p9 := 0) d_H_begin_12 rfl rfl ?_
    refine vj_bipush G (v := 20) d_H_begin_13 rfl ?_
    refine vj_icmp_ge G (tgt := 25) d_H_begin_15 (by decide) (mr_a hM1 lkC_10) ic_20 (fun c3 => ?_) (fun c3 => ?_)
    · rw [if_pos c3] at hF
      refine vj_sub [1, 0] rfl ?_
      exact wk_H_beginc3_25 G0 n  x0 (M 10 (20 : Int).toNat) hx0 (mr_a hM1 lkC_10) _ hF
    · rw [if_neg c3] at hF
      refine vj_aload_n G (p9 := 1) d_H_begin_18 rfl rfl ?_
      refine hgf_H_18_3 G hx0 d_H_begin_19 ?_
      refine vj_iload_n G (p9 := 0) d_H_begin_22 rfl rfl ?_
      refine vj_iload_n G (p9 := 2) d_H_begin_23 rfl rfl ?_
      obtain ⟨c4, hF⟩ := ck_some hF
      refine vj_iast G (x := (M 10 (20 : Int).toNat)) lkC_10 (by decide) (by decide) (by decide) c4 hx1 d_H_begin_24 ?_
      refine vj_sub [1, 0] rfl ?_
      exact wk_H_beginc3_25 G0 n  x0 (M 10 (20 : Int).toNat) hx0 (mr_a hM1 lkC_10) _ hF
set_option maxHeartbeats 4000000 in
set_option maxRecDepth 100000 in
theorem ct_H_doVotesc3 {w : Wd} (hij : ij LC w) (n : Nat) (x0 x1 : Int) (hx0 : hH w x0 3) (hx1 : inR x1) {M : Mm} {r : Int} {M9 : Mm} (hF : f_H_doVotesc3 n x0 x1 M = some (r, M9)) : Ct LC w y_H_doVotes b_H_doVotes 2 (some .int) 1 22 1 [.ref (wa w (500 + x0.toNat)), .int (i32 x1)] M r M9 := by
  refine Ct.of hij KstC (by decide +kernel) (Nat.le_of_ble_eq_true rfl) (fun X G0 => ?_)
  have G := G0.1
  show VJ LC w X 2 1 r M9 M [(0, .ref (wa w (500 + x0.toNat))), (1, .int (i32 x1))] [] 0
  unfold f_H_doVotesc3 at hF
  refine vj_aload_n G (p9 := 0) d_H_doVotes_0 rfl rfl ?_
  refine vj_bipush G (v := 10) d_H_doVotes_1 rfl ?_
  obtain ⟨r1, M1, e1, hF⟩ := bnd_some hF
  refine vj_callH G hx0 clC_3 (ct_H_beginc3 (gx_ij G) n x0 10 hx0 ic_10 e1) (cu_of G (x := ⟨"WhoRules$Holder", "begin", "(I)V"⟩) (y := ⟨"WhoRules$Holder", "begin", "(I)V"⟩) (owner := "WhoRules$Holder") (n := 1) q_1198 q_1940 q_1945 q_1175 q_117 q_1176 q_1175 q_1176 (by decide +kernel) (by decide) (by decide)) rfl (Nat.le_of_ble_eq_true rfl) d_H_doVotes_3 rfl (fun hr1 => ?_)
  refine vj_iload_n G (p9 := 1) d_H_doVotes_6 rfl rfl ?_
  refine vj_aload_n G (p9 := 0) d_H_doVotes_7 rfl rfl ?_
  refine hgf_H_9_3 G hx0 d_H_doVotes_8 ?_
  refine vj_iadd G d_H_doVotes_11 ?_
  cases hF
  exact vj_iret G0 (ir_w _) d_H_doVotes_12
set_option maxHeartbeats 4000000 in
set_option maxRecDepth 100000 in
theorem ct_Hk_doVotesc3 {w : Wd} (hij : ij LC w) (n : Nat) (x0 x1 : Int) (hx0 : hH w x0 3) (hx1 : inR x1) {M : Mm} {r : Int} {M9 : Mm} (hF : f_Hk_doVotesc3 n x0 x1 M = some (r, M9)) : Ct LC w y_Hk_doVotes b_Hk_doVotes 2 (some .int) 2 43 1 [.ref (wa w (500 + x0.toNat)), .int (i32 x1)] M r M9 := by
  refine Ct.of hij KstC (by decide +kernel) (Nat.le_of_ble_eq_true rfl) (fun X G0 => ?_)
  have G := G0.1
  show VJ LC w X 2 1 r M9 M [(0, .ref (wa w (500 + x0.toNat))), (1, .int (i32 x1))] [] 0
  unfold f_Hk_doVotesc3 at hF
  refine vj_aload_n G (p9 := 0) d_Hk_doVotes_0 rfl rfl ?_
  refine vj_bipush G (v := 40) d_Hk_doVotes_1 rfl ?_
  obtain ⟨r1, M1, e1, hF⟩ := bnd_some hF
  refine vj_callH G hx0 clC_3 (ct_H_beginc3 (gx_ij G) n x0 40 hx0 ic_40 e1) (cu_of G (x := ⟨"WhoRules$Kin", "begin", "(I)V"⟩) (y := ⟨"WhoRules$Holder", "begin", "(I)V"⟩) (owner := "WhoRules$Holder") (n := 1) q_1191 q_1192 q_1193 q_1175 q_117 q_1176 q_1175 q_1176 (by decide +kernel) (by decide) (by decide)) rfl (Nat.le_of_ble_eq_true rfl) d_Hk_doVotes_3 rfl (fun hr1 => ?_)
  refine vj_aload_n G (p9 := 0) d_Hk_doVotes_6 rfl rfl ?_
  refine vj_iload_n G (p9 := 1) d_Hk_doVotes_7 rfl rfl ?_
  obtain ⟨r2, M2, e2, hF⟩ := bnd_some hF
  refine vj_callHS G hx0 clC_3 (ct_H_doVotesc3 (gx_ij G) n x0 x1 hx0 hx1 e2) (n := 1) (x := ⟨"WhoRules$Person", "doVotes", "(I)I"⟩) (y := ⟨"WhoRules$Holder", "doVotes", "(I)I"⟩) (owner := "WhoRules$Holder") rfl rfl q_1194 q_1195 q_545 q_1165 q_117 q_1197 (Or.inr q_535) (by decide) (by decide +kernel) rfl (by decide) (by decide) (Nat.le_of_ble_eq_true rfl) d_Hk_doVotes_8 rfl (fun hr2 => ?_)
  replace hr2 : inR r2 := hr2
  refine vj_ineg G d_Hk_doVotes_11 ?_
  cases hF
  exact vj_iret G0 (ir_w _) d_Hk_doVotes_12
set_option maxHeartbeats 4000000 in
set_option maxRecDepth 100000 in
theorem ct_H_doOwnsc3 {w : Wd} (hij : ij LC w) (n : Nat) (x0 x1 : Int) (hx0 : hH w x0 3) (hx1 : inR x1) {M : Mm} {r : Int} {M9 : Mm} (hF : f_H_doOwnsc3 n x0 x1 M = some (r, M9)) : Ct LC w y_H_doOwns b_H_doOwns 2 (some .int) 3 64 1 [.ref (wa w (500 + x0.toNat)), .int (i32 x1)] M r M9 := by
  refine Ct.of hij KstC (by decide +kernel) (Nat.le_of_ble_eq_true rfl) (fun X G0 => ?_)
  have G := G0.1
  show VJ LC w X 2 1 r M9 M [(0, .ref (wa w (500 + x0.toNat))), (1, .int (i32 x1))] [] 0
  unfold f_H_doOwnsc3 at hF
  refine vj_aload_n G (p9 := 0) d_H_doOwns_0 rfl rfl ?_
  refine vj_bipush G (v := 11) d_H_doOwns_1 rfl ?_
  obtain ⟨r1, M1, e1, hF⟩ := bnd_some hF
  refine vj_callH G hx0 clC_3 (ct_H_beginc3 (gx_ij G) n x0 11 hx0 ic_11 e1) (cu_of G (x := ⟨"WhoRules$Holder", "begin", "(I)V"⟩) (y := ⟨"WhoRules$Holder", "begin", "(I)V"⟩) (owner := "WhoRules$Holder") (n := 1) q_1198 q_1940 q_1945 q_1175 q_117 q_1176 q_1175 q_1176 (by decide +kernel) (by decide) (by decide)) rfl (Nat.le_of_ble_eq_true rfl) d_H_doOwns_3 rfl (fun hr1 => ?_)
  refine vj_aload_n G (p9 := 0) d_H_doOwns_6 rfl rfl ?_
  refine vj_iload_n G (p9 := 1) d_H_doOwns_7 rfl rfl ?_
  obtain ⟨r2, M2, e2, hF⟩ := bnd_some hF
  refine vj_callH G hx0 clC_3 (ct_Hk_doVotesc3 (gx_ij G) n x0 x1 hx0 hx1 e2) (cu_of G (x := ⟨"WhoRules$Holder", "doVotes", "(I)I"⟩) (y := ⟨"WhoRules$Kin", "doVotes", "(I)I"⟩) (owner := "WhoRules$Holder") (n := 1) q_1219 q_1167 q_1188 q_1189 q_120 q_1190 q_1165 q_1197 (by decide +kernel) (by decide) (by decide)) rfl (Nat.le_of_ble_eq_true rfl) d_H_doOwns_8 rfl (fun hr2 => ?_)
  replace hr2 : inR r2 := hr2
  refine vj_iconst G (v := 2) d_H_doOwns_11 rfl ?_
  refine vj_imul G d_H_doOwns_12 ?_
  cases hF
  exact vj_iret G0 (ir_w _) d_H_doOwns_13
set_option maxHeartbeats 4000000 in
set_option maxRecDepth 100000 in
theorem ct_Hp_doOwnsc3 {w : Wd} (hij : ij LC w) (n : Nat) (x0 x1 : Int) (hx0 : hH w x0 3) (hx1 : inR x1) {M : Mm} {r : Int} {M9 : Mm} (hF : f_Hp_doOwnsc3 n x0 x1 M = some (r, M9)) : Ct LC w y_Hp_doOwns b_Hp_doOwns 2 (some .int) 4 85 1 [.ref (wa w (500 + x0.toNat)), .int (i32 x1)] M r M9 := by
  refine Ct.of hij KstC (by decide +kernel) (Nat.le_of_ble_eq_true rfl) (fun X G0 => ?_)
  have G := G0.1
  show VJ LC w X 2 1 r M9 M [(0, .ref (wa w (500 + x0.toNat))), (1, .int (i32 x1))] [] 0
  unfold f_Hp_doOwnsc3 at hF
  refine vj_aload_n G (p9 := 0) d_Hp_doOwns_0 rfl rfl ?_
  refine vj_bipush G (v := 30) d_Hp_doOwns_1 rfl ?_
  obtain ⟨r1, M1, e1, hF⟩ := bnd_some hF
  refine vj_callH G hx0 clC_3 (ct_H_beginc3 (gx_ij G) n x0 30 hx0 ic_30 e1) (cu_of G (x := ⟨"WhoRules$Person", "begin", "(I)V"⟩) (y := ⟨"WhoRules$Holder", "begin", "(I)V"⟩) (owner := "WhoRules$Holder") (n := 1) q_1212 q_1213 q_1214 q_1175 q_117 q_1176 q_1175 q_1176 (by decide +kernel) (by decide) (by decide)) rfl (Nat.le_of_ble_eq_true rfl) d_Hp_doOwns_3 rfl (fun hr1 => ?_)
  refine vj_aload_n G (p9 := 0) d_Hp_doOwns_6 rfl rfl ?_
  refine vj_iload_n G (p9 := 1) d_Hp_doOwns_7 rfl rfl ?_
  refine vj_iconst G (v := 3) d_Hp_doOwns_8 rfl ?_
  refine vj_imul G d_Hp_doOwns_9 ?_
  obtain ⟨r2, M2, e2, hF⟩ := bnd_some hF
  refine vj_callHS G hx0 clC_3 (ct_H_doOwnsc3 (gx_ij G) n x0 (w32 (x1 * 3)) hx0 (ir_w _) e2) (n := 1) (x := ⟨"WhoRules$Holder", "doOwns", "(I)I"⟩) (y := ⟨"WhoRules$Holder", "doOwns", "(I)I"⟩) (owner := "WhoRules$Holder") rfl rfl q_1216 q_1202 q_535 q_1200 q_117 q_1218 (Or.inl rfl) (by decide) (by decide +kernel) rfl (by decide) (by decide) (Nat.le_of_ble_eq_true rfl) d_Hp_doOwns_10 rfl (fun hr2 => ?_)
  replace hr2 : inR r2 := hr2
  cases hF
  exact vj_iret G0 hr2 d_Hp_doOwns_13
set_option maxHeartbeats 4000000 in
set_option maxRecDepth 100000 in
theorem ct_Hk_doOwnsc3 {w : Wd} (hij : ij LC w) (n : Nat) (x0 x1 : Int) (hx0 : hH w x0 3) (hx1 : inR x1) {M : Mm} {r : Int} {M9 : Mm} (hF : f_Hk_doOwnsc3 n x0 x1 M = some (r, M9)) : Ct LC w y_Hk_doOwns b_Hk_doOwns 2 (some .int) 5 106 1 [.ref (wa w (500 + x0.toNat)), .int (i32 x1)] M r M9 := by
  refine Ct.of hij KstC (by decide +kernel) (Nat.le_of_ble_eq_true rfl) (fun X G0 => ?_)
  have G := G0.1
  show VJ LC w X 2 1 r M9 M [(0, .ref (wa w (500 + x0.toNat))), (1, .int (i32 x1))] [] 0
  unfold f_Hk_doOwnsc3 at hF
  refine vj_aload_n G (p9 := 0) d_Hk_doOwns_0 rfl rfl ?_
  refine vj_bipush G (v := 41) d_Hk_doOwns_1 rfl ?_
  obtain ⟨r1, M1, e1, hF⟩ := bnd_some hF
  refine vj_callH G hx0 clC_3 (ct_H_beginc3 (gx_ij G) n x0 41 hx0 ic_41 e1) (cu_of G (x := ⟨"WhoRules$Kin", "begin", "(I)V"⟩) (y := ⟨"WhoRules$Holder", "begin", "(I)V"⟩) (owner := "WhoRules$Holder") (n := 1) q_1191 q_1192 q_1193 q_1175 q_117 q_1176 q_1175 q_1176 (by decide +kernel) (by decide) (by decide)) rfl (Nat.le_of_ble_eq_true rfl) d_Hk_doOwns_3 rfl (fun hr1 => ?_)
  refine vj_aload_n G (p9 := 0) d_Hk_doOwns_6 rfl rfl ?_
  refine vj_iload_n G (p9 := 1) d_Hk_doOwns_7 rfl rfl ?_
  obtain ⟨r2, M2, e2, hF⟩ := bnd_some hF
  refine vj_callHS G hx0 clC_3 (ct_Hp_doOwnsc3 (gx_ij G) n x0 x1 hx0 hx1 e2) (n := 1) (x := ⟨"WhoRules$Person", "doOwns", "(I)I"⟩) (y := ⟨"WhoRules$Person", "doOwns", "(I)I"⟩) (owner := "WhoRules$Person") rfl rfl q_1209 q_1947 q_545 q_1210 q_119 q_1211 (Or.inl rfl) (by decide) (by decide +kernel) rfl (by decide) (by decide) (Nat.le_of_ble_eq_true rfl) d_Hk_doOwns_8 rfl (fun hr2 => ?_)
  replace hr2 : inR r2 := hr2
  refine vj_aload_n G (p9 := 0) d_Hk_doOwns_11 rfl rfl ?_
  refine vj_aload_n G (p9 := 0) d_Hk_doOwns_12 rfl rfl ?_
  refine hgf_Hk_20_3 G hx0 d_Hk_doOwns_13 ?_
  refine vj_mr (fun hM3 => ?_)
  obtain ⟨r4, M4, e4, hF⟩ := bnd_some hF
  refine vj_callHS G hx0 clC_3 (ct_H_doVotesc3 (gx_ij G) n x0 (M2 901 x0.toNat) hx0 (mr_v901 hM3 _) e4) (n := 1) (x := ⟨"WhoRules$Person", "doVotes", "(I)I"⟩) (y := ⟨"WhoRules$Holder", "doVotes", "(I)I"⟩) (owner := "WhoRules$Holder") rfl rfl q_1194 q_1195 q_545 q_1165 q_117 q_1197 (Or.inr q_535) (by decide) (by decide +kernel) rfl (by decide) (by decide) (Nat.le_of_ble_eq_true rfl) d_Hk_doOwns_16 rfl (fun hr4 => ?_)
  replace hr4 : inR r4 := hr4
  refine vj_iadd G d_Hk_doOwns_19 ?_
  cases hF
  exact vj_iret G0 (ir_w _) d_Hk_doOwns_20
set_option maxHeartbeats 4000000 in
set_option maxRecDepth 100000 in
theorem ct_H_doRulesc3 {w : Wd} (hij : ij LC w) (n : Nat) (x0 x1 : Int) (hx0 : hH w x0 3) (hx1 : inR x1) {M : Mm} {r : Int} {M9 : Mm} (hF : f_H_doRulesc3 n x0 x1 M = some (r, M9)) : Ct LC w y_H_doRules b_H_doRules 2 (some .int) 6 127 1 [.ref (wa w (500 + x0.toNat)), .int (i32 x1)] M r M9 := by
  refine Ct.of hij KstC (by decide +kernel) (Nat.le_of_ble_eq_true rfl) (fun X G0 => ?_)
  have G := G0.1
  show VJ LC w X 2 1 r M9 M [(0, .ref (wa w (500 + x0.toNat))), (1, .int (i32 x1))] [] 0
  unfold f_H_doRulesc3 at hF
  refine vj_aload_n G (p9 := 0) d_H_doRules_0 rfl rfl ?_
  refine vj_bipush G (v := 12) d_H_doRules_1 rfl ?_
  obtain ⟨r1, M1, e1, hF⟩ := bnd_some hF
  refine vj_callH G hx0 clC_3 (ct_H_beginc3 (gx_ij G) n x0 12 hx0 ic_12 e1) (cu_of G (x := ⟨"WhoRules$Holder", "begin", "(I)V"⟩) (y := ⟨"WhoRules$Holder", "begin", "(I)V"⟩) (owner := "WhoRules$Holder") (n := 1) q_1198 q_1940 q_1945 q_1175 q_117 q_1176 q_1175 q_1176 (by decide +kernel) (by decide) (by decide)) rfl (Nat.le_of_ble_eq_true rfl) d_H_doRules_3 rfl (fun hr1 => ?_)
  refine vj_aload_n G (p9 := 0) d_H_doRules_6 rfl rfl ?_
  refine vj_iload_n G (p9 := 1) d_H_doRules_7 rfl rfl ?_
  obtain ⟨r2, M2, e2, hF⟩ := bnd_some hF
  refine vj_callH G hx0 clC_3 (ct_Hk_doOwnsc3 (gx_ij G) n x0 x1 hx0 hx1 e2) (cu_of G (x := ⟨"WhoRules$Holder", "doOwns", "(I)I"⟩) (y := ⟨"WhoRules$Kin", "doOwns", "(I)I"⟩) (owner := "WhoRules$Holder") (n := 1) q_1249 q_1202 q_1206 q_1207 q_120 q_1208 q_1200 q_1218 (by decide +kernel) (by decide) (by decide)) rfl (Nat.le_of_ble_eq_true rfl) d_H_doRules_8 rfl (fun hr2 => ?_)
  replace hr2 : inR r2 := hr2
  refine vj_aload_n G (p9 := 0) d_H_doRules_11 rfl rfl ?_
  refine hgf_H_15_3 G hx0 d_H_doRules_12 ?_
  refine vj_mr (fun hM3 => ?_)
  refine vj_isub G d_H_doRules_15 ?_
  cases hF
  exact vj_iret G0 (ir_w _) d_H_doRules_16
set_option maxHeartbeats 4000000 in
set_option maxRecDepth 100000 in
theorem ct_H_isUnderc3 {w : Wd} (hij : ij LC w) (n : Nat) (x0 x1 : Int) (hx0 : hH w x0 3) (hx1 : inR x1) {M : Mm} {r : Int} {M9 : Mm} (hF : f_H_isUnderc3 n x0 x1 M = some (r, M9)) : Ct LC w y_H_isUnder b_H_isUnder 2 (some .boolean) 0 0 3 [.ref (wa w (500 + x0.toNat)), .int (i32 x1)] M r M9 := by
  refine Ct.of hij KstC (by decide +kernel) (Nat.le_of_ble_eq_true rfl) (fun X G0 => ?_)
  have G := G0.1
  show VJ LC w X 2 3 r M9 M [(0, .ref (wa w (500 + x0.toNat))), (1, .int (i32 x1))] [] 0
  unfold f_H_isUnderc3 at hF
  refine vj_iload_n G (p9 := 1) d_H_isUnder_0 rfl rfl ?_
  by_cases c1 : x1 = 0
  · rw [if_pos c1] at hF
    refine vj_swIn G (y := 0) (tgt := 36) d_H_isUnder_1 hx1 c1 (by decide) (by decide) rfl (by decide) ?_
    refine vj_iconst G (v := 1) d_H_isUnder_36 rfl ?_
    cases hF
    exact vj_zret G0 (Or.inr rfl) d_H_isUnder_37
  · rw [if_neg c1] at hF
    by_cases c2 : x1 = 1
    · rw [if_pos c2] at hF
      refine vj_swIn G (y := 1) (tgt := 38) d_H_isUnder_1 hx1 c2 (by decide) (by decide) rfl (by decide) ?_
      refine vj_aload_n G (p9 := 0) d_H_isUnder_38 rfl rfl ?_
      refine vj_instN G hx0 clC_3 q_1268 (by decide) d_H_isUnder_39 ?_
      cases hF
      exact vj_zret G0 (Or.inl rfl) d_H_isUnder_42
    · rw [if_neg c2] at hF
      by_cases c3 : x1 = 2
      · rw [if_pos c3] at hF
        refine vj_swIn G (y := 2) (tgt := 43) d_H_isUnder_1 hx1 c3 (by decide) (by decide) rfl (by decide) ?_
        refine vj_aload_n G (p9 := 0) d_H_isUnder_43 rfl rfl ?_
        refine vj_instY G hx0 clC_3 q_1269 (by decide) d_H_isUnder_44 ?_
        cases hF
        exact vj_zret G0 (Or.inr rfl) d_H_isUnder_47
      · rw [if_neg c3] at hF
        by_cases c4 : x1 = 3
        · rw [if_pos c4] at hF
          refine vj_swIn G (y := 3) (tgt := 48) d_H_isUnder_1 hx1 c4 (by decide) (by decide) rfl (by decide) ?_
          refine vj_aload_n G (p9 := 0) d_H_isUnder_48 rfl rfl ?_
          refine vj_instS G hx0 clC_3 q_1270 d_H_isUnder_49 ?_
          cases hF
          exact vj_zret G0 (Or.inr rfl) d_H_isUnder_52
        · rw [if_neg c4] at hF
          by_cases c5 : x1 = 4
          · rw [if_pos c5] at hF
            refine vj_swIn G (y := 4) (tgt := 53) d_H_isUnder_1 hx1 c5 (by decide) (by decide) rfl (by decide) ?_
            refine vj_aload_n G (p9 := 0) d_H_isUnder_53 rfl rfl ?_
            refine vj_instN G hx0 clC_3 q_1271 (by decide) d_H_isUnder_54 ?_
            cases hF
            exact vj_zret G0 (Or.inl rfl) d_H_isUnder_57
          · rw [if_neg c5] at hF
            refine vj_swOut G (tgt := 58) d_H_isUnder_1 hx1 (by omega) (by decide) ?_
            refine vj_aload_n G (p9 := 0) d_H_isUnder_58 rfl rfl ?_
            refine vj_instN G hx0 clC_3 q_1272 (by decide) d_H_isUnder_59 ?_
            cases hF
            exact vj_zret G0 (Or.inl rfl) d_H_isUnder_62
set_option maxHeartbeats 4000000 in
set_option maxRecDepth 100000 in
theorem wk_H_beginc4_25 {w : Wd} {X : Cx} {r : Int} {M9 : Mm} (G0 : Gx LC w X "WhoRules$Holder" b_H_begin 3 0 0 none) (n : Nat) (x0 x2 : Int) (hx0 : hH w x0 4) (hx2 : inR x2) (M : Mm) (hF : f_H_beginc4_25 n x0 x2 M = some (r, M9)) : VJ LC w X 3 0 r M9 M [(0, .ref (wa w (500 + x0.toNat))), (2, .int (i32 x2))] [] 25 := by
  have G := G0.1
  unfold f_H_beginc4_25 at hF
  refine vj_aload_n G (p9 := 0) d_H_begin_25 rfl rfl ?_
  refine hgf_H_18_4 G hx0 d_H_begin_26 ?_
  refine vj_bipush G (v := 20) d_H_begin_29 rfl ?_
  refine vj_iload_n G (p9 := 1) d_H_begin_31 rfl rfl ?_
  refine vj_iconst G (v := 1) d_H_begin_32 rfl ?_
  refine vj_iadd G d_H_begin_33 ?_
  refine vj_iast G (x := 20) lkC_10 (by decide) (by decide) (by decide) ⟨by decide, by decide⟩ (ir_w _) d_H_begin_34 ?_
  cases hF
  exact vj_vret G0 d_H_begin_35
set_option maxHeartbeats 4000000 in
set_option maxRecDepth 100000 in
theorem ct_H_beginc4 {w : Wd} (hij : ij LC w) (n : Nat) (x0 x1 : Int) (hx0 : hH w x0 4) (hx1 : inR x1) {M : Mm} {r : Int} {M9 : Mm} (hF : f_H_beginc4 n x0 x1 M = some (r, M9)) : Ct LC w y_H_begin b_H_begin 3 none 0 0 0 [.ref (wa w (500 + x0.toNat)), .int (i32 x1)] M r M9 := by
  refine Ct.of hij KstC (by decide +kernel) (Nat.le_of_ble_eq_true rfl) (fun X G0 => ?_)
  have G := G0.1
  show VJ LC w X 3 0 r M9 M [(0, .ref (wa w (500 + x0.toNat))), (1, .int (i32 x1))] [] 0
  unfold f_H_beginc4 at hF
  refine vj_aload_n G (p9 := 0) d_H_begin_0 rfl rfl ?_
  refine hgf_H_18_4 G hx0 d_H_begin_1 ?_
  refine vj_bipush G (v := 20) d_H_begin_4 rfl ?_
  refine vj_iald G (x := 20) lkC_10 (by decide) ⟨by decide, by decide⟩ d_H_begin_6 ?_
  refine vj_mr (fun hM1 => ?_)
  refine vj_istore_n G (lv2 := [(2, .int (i32 (M 10 (20 : Int).toNat))), (0, .ref (wa w (500 + x0.toNat))), (1, .int (i32 x1))]) d_H_begin_7 rfl (by decide) rfl ?_
  refine vj_iload_n G (p9 := 0) d_H_begin_8 rfl rfl ?_
  refine vj_if_lt G (tgt := 25) d_H_begin_9 (by decide) (mr_a hM1 lkC_10) (fun c2 => ?_) (fun c2 => ?_)
  · rw [if_pos c2] at hF
    refine vj_sub [1, 0] rfl ?_
    exact wk_H_beginc4_25 G0 n  x0 (M 10 (20 : Int).toNat) hx0 (mr_a hM1 lkC_10) _ hF
  · rw [if_neg c2] at hF
    refine vj_iload_n G (p9 := 0) d_H_begin_12 rfl rfl ?_
    refine vj_bipush G (v := 20) d_H_begin_13 rfl ?_
    refine vj_icmp_ge G (tgt := 25) d_H_begin_15 (by decide) (mr_a hM1 lkC_10) ic_20 (fun c3 => ?_) (fun c3 => ?_)
    · rw [if_pos c3] at hF
      refine vj_sub [1, 0] rfl ?_
      exact wk_H_beginc4_25 G0 n  x0 (M 10 (20 : Int).toNat) hx0 (mr_a hM1 lkC_10) _ hF
    · rw [if_neg c3] at hF
      refine vj_aload_n G (p9 := 1) d_H_begin_18 rfl rfl ?_
      refine hgf_H_18_4 G hx0 d_H_begin_19 ?_
      refine vj_iload_n G (p9 := 0) d_H_begin_22 rfl rfl ?_
      refine vj_iload_n G (p9 := 2) d_H_begin_23 rfl rfl ?_
      obtain ⟨c4, hF⟩ := ck_some hF
      refine vj_iast G (x := (M 10 (20 : Int).toNat)) lkC_10 (by decide) (by decide) (by decide) c4 hx1 d_H_begin_24 ?_
      refine vj_sub [1, 0] rfl ?_
      exact wk_H_beginc4_25 G0 n  x0 (M 10 (20 : Int).toNat) hx0 (mr_a hM1 lkC_10) _ hF
set_option maxHeartbeats 4000000 in
set_option maxRecDepth 100000 in
theorem ct_H_doVotesc4 {w : Wd} (hij : ij LC w) (n : Nat) (x0 x1 : Int) (hx0 : hH w x0 4) (hx1 : inR x1) {M : Mm} {r : Int} {M9 : Mm} (hF : f_H_doVotesc4 n x0 x1 M = some (r, M9)) : Ct LC w y_H_doVotes b_H_doVotes 2 (some .int) 1 22 1 [.ref (wa w (500 + x0.toNat)), .int (i32 x1)] M r M9 := by
  refine Ct.of hij KstC (by decide +kernel) (Nat.le_of_ble_eq_true rfl) (fun X G0 => ?_)
  have G := G0.1
  show VJ LC w X 2 1 r M9 M [(0, .ref (wa w (500 + x0.toNat))), (1, .int (i32 x1))] [] 0
  unfold f_H_doVotesc4 at hF
  refine vj_aload_n G (p9 := 0) d_H_doVotes_0 rfl rfl ?_
  refine vj_bipush G (v := 10) d_H_doVotes_1 rfl ?_
  obtain ⟨r1, M1, e1, hF⟩ := bnd_some hF
  refine vj_callH G hx0 clC_4 (ct_H_beginc4 (gx_ij G) n x0 10 hx0 ic_10 e1) (cu_of G (x := ⟨"WhoRules$Holder", "begin", "(I)V"⟩) (y := ⟨"WhoRules$Holder", "begin", "(I)V"⟩) (owner := "WhoRules$Holder") (n := 1) q_1198 q_1940 q_1943 q_1175 q_117 q_1176 q_1175 q_1176 (by decide +kernel) (by decide) (by decide)) rfl (Nat.le_of_ble_eq_true rfl) d_H_doVotes_3 rfl (fun hr1 => ?_)
  refine vj_iload_n G (p9 := 1) d_H_doVotes_6 rfl rfl ?_
  refine vj_aload_n G (p9 := 0) d_H_doVotes_7 rfl rfl ?_
  refine hgf_H_9_4 G hx0 d_H_doVotes_8 ?_
  refine vj_iadd G d_H_doVotes_11 ?_
  cases hF
  exact vj_iret G0 (ir_w _) d_H_doVotes_12
set_option maxHeartbeats 4000000 in
set_option maxRecDepth 100000 in
theorem ct_H_doOwnsc4 {w : Wd} (hij : ij LC w) (n : Nat) (x0 x1 : Int) (hx0 : hH w x0 4) (hx1 : inR x1) {M : Mm} {r : Int} {M9 : Mm} (hF : f_H_doOwnsc4 n x0 x1 M = some (r, M9)) : Ct LC w y_H_doOwns b_H_doOwns 2 (some .int) 2 43 1 [.ref (wa w (500 + x0.toNat)), .int (i32 x1)] M r M9 := by
  refine Ct.of hij KstC (by decide +kernel) (Nat.le_of_ble_eq_true rfl) (fun X G0 => ?_)
  have G := G0.1
  show VJ LC w X 2 1 r M9 M [(0, .ref (wa w (500 + x0.toNat))), (1, .int (i32 x1))] [] 0
  unfold f_H_doOwnsc4 at hF
  refine vj_aload_n G (p9 := 0) d_H_doOwns_0 rfl rfl ?_
  refine vj_bipush G (v := 11) d_H_doOwns_1 rfl ?_
  obtain ⟨r1, M1, e1, hF⟩ := bnd_some hF
  refine vj_callH G hx0 clC_4 (ct_H_beginc4 (gx_ij G) n x0 11 hx0 ic_11 e1) (cu_of G (x := ⟨"WhoRules$Holder", "begin", "(I)V"⟩) (y := ⟨"WhoRules$Holder", "begin", "(I)V"⟩) (owner := "WhoRules$Holder") (n := 1) q_1198 q_1940 q_1943 q_1175 q_117 q_1176 q_1175 q_1176 (by decide +kernel) (by decide) (by decide)) rfl (Nat.le_of_ble_eq_true rfl) d_H_doOwns_3 rfl (fun hr1 => ?_)
  refine vj_aload_n G (p9 := 0) d_H_doOwns_6 rfl rfl ?_
  refine vj_iload_n G (p9 := 1) d_H_doOwns_7 rfl rfl ?_
  obtain ⟨r2, M2, e2, hF⟩ := bnd_some hF
  refine vj_callH G hx0 clC_4 (ct_H_doVotesc4 (gx_ij G) n x0 x1 hx0 hx1 e2) (cu_of G (x := ⟨"WhoRules$Holder", "doVotes", "(I)I"⟩) (y := ⟨"WhoRules$Holder", "doVotes", "(I)I"⟩) (owner := "WhoRules$Holder") (n := 1) q_1219 q_1167 q_1187 q_1165 q_117 q_1197 q_1165 q_1197 (by decide +kernel) (by decide) (by decide)) rfl (Nat.le_of_ble_eq_true rfl) d_H_doOwns_8 rfl (fun hr2 => ?_)
  replace hr2 : inR r2 := hr2
  refine vj_iconst G (v := 2) d_H_doOwns_11 rfl ?_
  refine vj_imul G d_H_doOwns_12 ?_
  cases hF
  exact vj_iret G0 (ir_w _) d_H_doOwns_13
set_option maxHeartbeats 4000000 in
set_option maxRecDepth 100000 in
theorem ct_H_doRulesc4 {w : Wd} (hij : ij LC w) (n : Nat) (x0 x1 : Int) (hx0 : hH w x0 4) (hx1 : inR x1) {M : Mm} {r : Int} {M9 : Mm} (hF : f_H_doRulesc4 n x0 x1 M = some (r, M9)) : Ct LC w y_H_doRules b_H_doRules 2 (some .int) 3 64 1 [.ref (wa w (500 + x0.toNat)), .int (i32 x1)] M r M9 := by
  refine Ct.of hij KstC (by decide +kernel) (Nat.le_of_ble_eq_true rfl) (fun X G0 => ?_)
  have G := G0.1
  show VJ LC w X 2 1 r M9 M [(0, .ref (wa w (500 + x0.toNat))), (1, .int (i32 x1))] [] 0
  unfold f_H_doRulesc4 at hF
  refine vj_aload_n G (p9 := 0) d_H_doRules_0 rfl rfl ?_
  refine vj_bipush G (v := 12) d_H_doRules_1 rfl ?_
  obtain ⟨r1, M1, e1, hF⟩ := bnd_some hF
  refine vj_callH G hx0 clC_4 (ct_H_beginc4 (gx_ij G) n x0 12 hx0 ic_12 e1) (cu_of G (x := ⟨"WhoRules$Holder", "begin", "(I)V"⟩) (y := ⟨"WhoRules$Holder", "begin", "(I)V"⟩) (owner := "WhoRules$Holder") (n := 1) q_1198 q_1940 q_1943 q_1175 q_117 q_1176 q_1175 q_1176 (by decide +kernel) (by decide) (by decide)) rfl (Nat.le_of_ble_eq_true rfl) d_H_doRules_3 rfl (fun hr1 => ?_)
  refine vj_aload_n G (p9 := 0) d_H_doRules_6 rfl rfl ?_
  refine vj_iload_n G (p9 := 1) d_H_doRules_7 rfl rfl ?_
  obtain ⟨r2, M2, e2, hF⟩ := bnd_some hF
  refine vj_callH G hx0 clC_4 (ct_H_doOwnsc4 (gx_ij G) n x0 x1 hx0 hx1 e2) (cu_of G (x := ⟨"WhoRules$Holder", "doOwns", "(I)I"⟩) (y := ⟨"WhoRules$Holder", "doOwns", "(I)I"⟩) (owner := "WhoRules$Holder") (n := 1) q_1249 q_1202 q_1205 q_1200 q_117 q_1218 q_1200 q_1218 (by decide +kernel) (by decide) (by decide)) rfl (Nat.le_of_ble_eq_true rfl) d_H_doRules_8 rfl (fun hr2 => ?_)
  replace hr2 : inR r2 := hr2
  refine vj_aload_n G (p9 := 0) d_H_doRules_11 rfl rfl ?_
  refine hgf_H_15_4 G hx0 d_H_doRules_12 ?_
  refine vj_mr (fun hM3 => ?_)
  refine vj_isub G d_H_doRules_15 ?_
  cases hF
  exact vj_iret G0 (ir_w _) d_H_doRules_16
set_option maxHeartbeats 4000000 in
set_option maxRecDepth 100000 in
theorem ct_Hu_doRulesc4 {w : Wd} (hij : ij LC w) (n : Nat) (x0 x1 : Int) (hx0 : hH w x0 4) (hx1 : inR x1) {M : Mm} {r : Int} {M9 : Mm} (hF : f_Hu_doRulesc4 n x0 x1 M = some (r, M9)) : Ct LC w y_Hu_doRules b_Hu_doRules 2 (some .int) 4 85 1 [.ref (wa w (500 + x0.toNat)), .int (i32 x1)] M r M9 := by
  refine Ct.of hij KstC (by decide +kernel) (Nat.le_of_ble_eq_true rfl) (fun X G0 => ?_)
  have G := G0.1
  show VJ LC w X 2 1 r M9 M [(0, .ref (wa w (500 + x0.toNat))), (1, .int (i32 x1))] [] 0
  unfold f_Hu_doRulesc4 at hF
  refine vj_aload_n G (p9 := 0) d_Hu_doRules_0 rfl rfl ?_
  refine vj_bipush G (v := 50) d_Hu_doRules_1 rfl ?_
  obtain ⟨r1, M1, e1, hF⟩ := bnd_some hF
  refine vj_callH G hx0 clC_4 (ct_H_beginc4 (gx_ij G) n x0 50 hx0 ic_50 e1) (cu_of G (x := ⟨"WhoRules$Fund", "begin", "(I)V"⟩) (y := ⟨"WhoRules$Holder", "begin", "(I)V"⟩) (owner := "WhoRules$Holder") (n := 1) q_1230 q_1231 q_1233 q_1175 q_117 q_1176 q_1175 q_1176 (by decide +kernel) (by decide) (by decide)) rfl (Nat.le_of_ble_eq_true rfl) d_Hu_doRules_3 rfl (fun hr1 => ?_)
  refine vj_aload_n G (p9 := 0) d_Hu_doRules_6 rfl rfl ?_
  refine vj_iload_n G (p9 := 1) d_Hu_doRules_7 rfl rfl ?_
  obtain ⟨r2, M2, e2, hF⟩ := bnd_some hF
  refine vj_callH G hx0 clC_4 (ct_H_doOwnsc4 (gx_ij G) n x0 x1 hx0 hx1 e2) (cu_of G (x := ⟨"WhoRules$Fund", "doOwns", "(I)I"⟩) (y := ⟨"WhoRules$Holder", "doOwns", "(I)I"⟩) (owner := "WhoRules$Holder") (n := 1) q_1234 q_1235 q_1238 q_1200 q_117 q_1218 q_1200 q_1218 (by decide +kernel) (by decide) (by decide)) rfl (Nat.le_of_ble_eq_true rfl) d_Hu_doRules_8 rfl (fun hr2 => ?_)
  replace hr2 : inR r2 := hr2
  refine vj_aload_n G (p9 := 0) d_Hu_doRules_11 rfl rfl ?_
  refine vj_iload_n G (p9 := 1) d_Hu_doRules_12 rfl rfl ?_
  obtain ⟨r3, M3, e3, hF⟩ := bnd_some hF
  refine vj_callHS G hx0 clC_4 (ct_H_doRulesc4 (gx_ij G) n x0 x1 hx0 hx1 e3) (n := 1) (x := ⟨"WhoRules$Holder", "doRules", "(I)I"⟩) (y := ⟨"WhoRules$Holder", "doRules", "(I)I"⟩) (owner := "WhoRules$Holder") rfl rfl q_1239 q_1223 q_555 q_1221 q_117 q_1248 (Or.inl rfl) (by decide) (by decide +kernel) rfl (by decide) (by decide) (Nat.le_of_ble_eq_true rfl) d_Hu_doRules_13 rfl (fun hr3 => ?_)
  replace hr3 : inR r3 := hr3
  refine vj_isub G d_Hu_doRules_16 ?_
  cases hF
  exact vj_iret G0 (ir_w _) d_Hu_doRules_17
set_option maxHeartbeats 4000000 in
set_option maxRecDepth 100000 in
theorem ct_H_isUnderc4 {w : Wd} (hij : ij LC w) (n : Nat) (x0 x1 : Int) (hx0 : hH w x0 4) (hx1 : inR x1) {M : Mm} {r : Int} {M9 : Mm} (hF : f_H_isUnderc4 n x0 x1 M = some (r, M9)) : Ct LC w y_H_isUnder b_H_isUnder 2 (some .boolean) 0 0 3 [.ref (wa w (500 + x0.toNat)), .int (i32 x1)] M r M9 := by
  refine Ct.of hij KstC (by decide +kernel) (Nat.le_of_ble_eq_true rfl) (fun X G0 => ?_)
  have G := G0.1
  show VJ LC w X 2 3 r M9 M [(0, .ref (wa w (500 + x0.toNat))), (1, .int (i32 x1))] [] 0
  unfold f_H_isUnderc4 at hF
  refine vj_iload_n G (p9 := 1) d_H_isUnder_0 rfl rfl ?_
  by_cases c1 : x1 = 0
  · rw [if_pos c1] at hF
    refine vj_swIn G (y := 0) (tgt := 36) d_H_isUnder_1 hx1 c1 (by decide) (by decide) rfl (by decide) ?_
    refine vj_iconst G (v := 1) d_H_isUnder_36 rfl ?_
    cases hF
    exact vj_zret G0 (Or.inr rfl) d_H_isUnder_37
  · rw [if_neg c1] at hF
    by_cases c2 : x1 = 1
    · rw [if_pos c2] at hF
      refine vj_swIn G (y := 1) (tgt := 38) d_H_isUnder_1 hx1 c2 (by decide) (by decide) rfl (by decide) ?_
      refine vj_aload_n G (p9 := 0) d_H_isUnder_38 rfl rfl ?_
      refine vj_instN G hx0 clC_4 q_1268 (by decide) d_H_isUnder_39 ?_
      cases hF
      exact vj_zret G0 (Or.inl rfl) d_H_isUnder_42
    · rw [if_neg c2] at hF
      by_cases c3 : x1 = 2
      · rw [if_pos c3] at hF
        refine vj_swIn G (y := 2) (tgt := 43) d_H_isUnder_1 hx1 c3 (by decide) (by decide) rfl (by decide) ?_
        refine vj_aload_n G (p9 := 0) d_H_isUnder_43 rfl rfl ?_
        refine vj_instN G hx0 clC_4 q_1269 (by decide) d_H_isUnder_44 ?_
        cases hF
        exact vj_zret G0 (Or.inl rfl) d_H_isUnder_47
      · rw [if_neg c3] at hF
        by_cases c4 : x1 = 3
        · rw [if_pos c4] at hF
          refine vj_swIn G (y := 3) (tgt := 48) d_H_isUnder_1 hx1 c4 (by decide) (by decide) rfl (by decide) ?_
          refine vj_aload_n G (p9 := 0) d_H_isUnder_48 rfl rfl ?_
          refine vj_instN G hx0 clC_4 q_1270 (by decide) d_H_isUnder_49 ?_
          cases hF
          exact vj_zret G0 (Or.inl rfl) d_H_isUnder_52
        · rw [if_neg c4] at hF
          by_cases c5 : x1 = 4
          · rw [if_pos c5] at hF
            refine vj_swIn G (y := 4) (tgt := 53) d_H_isUnder_1 hx1 c5 (by decide) (by decide) rfl (by decide) ?_
            refine vj_aload_n G (p9 := 0) d_H_isUnder_53 rfl rfl ?_
            refine vj_instS G hx0 clC_4 q_1271 d_H_isUnder_54 ?_
            cases hF
            exact vj_zret G0 (Or.inr rfl) d_H_isUnder_57
          · rw [if_neg c5] at hF
            refine vj_swOut G (tgt := 58) d_H_isUnder_1 hx1 (by omega) (by decide) ?_
            refine vj_aload_n G (p9 := 0) d_H_isUnder_58 rfl rfl ?_
            refine vj_instN G hx0 clC_4 q_1272 (by decide) d_H_isUnder_59 ?_
            cases hF
            exact vj_zret G0 (Or.inl rfl) d_H_isUnder_62
set_option maxHeartbeats 4000000 in
set_option maxRecDepth 100000 in
theorem wk_H_beginc5_25 {w : Wd} {X : Cx} {r : Int} {M9 : Mm} (G0 : Gx LC w X "WhoRules$Holder" b_H_begin 3 0 0 none) (n : Nat) (x0 x2 : Int) (hx0 : hH w x0 5) (hx2 : inR x2) (M : Mm) (hF : f_H_beginc5_25 n x0 x2 M = some (r, M9)) : VJ LC w X 3 0 r M9 M [(0, .ref (wa w (500 + x0.toNat))), (2, .int (i32 x2))] [] 25 := by
  have G := G0.1
  unfold f_H_beginc5_25 at hF
  refine vj_aload_n G (p9 := 0) d_H_begin_25 rfl rfl ?_
  refine hgf_H_18_5 G hx0 d_H_begin_26 ?_
  refine vj_bipush G (v := 20) d_H_begin_29 rfl ?_
  refine vj_iload_n G (p9 := 1) d_H_begin_31 rfl rfl ?_
  refine vj_iconst G (v := 1) d_H_begin_32 rfl ?_
  refine vj_iadd G d_H_begin_33 ?_
  refine vj_iast G (x := 20) lkC_10 (by decide) (by decide) (by decide) ⟨by decide, by decide⟩ (ir_w _) d_H_begin_34 ?_
  cases hF
  exact vj_vret G0 d_H_begin_35
set_option maxHeartbeats 4000000 in
set_option maxRecDepth 100000 in
theorem ct_H_beginc5 {w : Wd} (hij : ij LC w) (n : Nat) (x0 x1 : Int) (hx0 : hH w x0 5) (hx1 : inR x1) {M : Mm} {r : Int} {M9 : Mm} (hF : f_H_beginc5 n x0 x1 M = some (r, M9)) : Ct LC w y_H_begin b_H_begin 3 none 0 0 0 [.ref (wa w (500 + x0.toNat)), .int (i32 x1)] M r M9 := by
  refine Ct.of hij KstC (by decide +kernel) (Nat.le_of_ble_eq_true rfl) (fun X G0 => ?_)
  have G := G0.1
  show VJ LC w X 3 0 r M9 M [(0, .ref (wa w (500 + x0.toNat))), (1, .int (i32 x1))] [] 0
  unfold f_H_beginc5 at hF
  refine vj_aload_n G (p9 := 0) d_H_begin_0 rfl rfl ?_
  refine hgf_H_18_5 G hx0 d_H_begin_1 ?_
  refine vj_bipush G (v := 20) d_H_begin_4 rfl ?_
  refine vj_iald G (x := 20) lkC_10 (by decide) ⟨by decide, by decide⟩ d_H_begin_6 ?_
  refine vj_mr (fun hM1 => ?_)
  refine vj_istore_n G (lv2 := [(2, .int (i32 (M 10 (20 : Int).toNat))), (0, .ref (wa w (500 + x0.toNat))), (1, .int (i32 x1))]) d_H_begin_7 rfl (by decide) rfl ?_
  refine vj_iload_n G (p9 := 0) d_H_begin_8 rfl rfl ?_
  refine vj_if_lt G (tgt := 25) d_H_begin_9 (by decide) (mr_a hM1 lkC_10) (fun c2 => ?_) (fun c2 => ?_)
  · rw [if_pos c2] at hF
    refine vj_sub [1, 0] rfl ?_
    exact wk_H_beginc5_25 G0 n  x0 (M 10 (20 : Int).toNat) hx0 (mr_a hM1 lkC_10) _ hF
  · rw [if_neg c2] at hF
    refine vj_iload_n G (p9 := 0) d_H_begin_12 rfl rfl ?_
    refine vj_bipush G (v := 20) d_H_begin_13 rfl ?_
    refine vj_icmp_ge G (tgt := 25) d_H_begin_15 (by decide) (mr_a hM1 lkC_10) ic_20 (fun c3 => ?_) (fun c3 => ?_)
    · rw [if_pos c3] at hF
      refine vj_sub [1, 0] rfl ?_
      exact wk_H_beginc5_25 G0 n  x0 (M 10 (20 : Int).toNat) hx0 (mr_a hM1 lkC_10) _ hF
    · rw [if_neg c3] at hF
      refine vj_aload_n G (p9 := 1) d_H_begin_18 rfl rfl ?_
      refine hgf_H_18_5 G hx0 d_H_begin_19 ?_
      refine vj_iload_n G (p9 := 0) d_H_begin_22 rfl rfl ?_
      refine vj_iload_n G (p9 := 2) d_H_begin_23 rfl rfl ?_
      obtain ⟨c4, hF⟩ := ck_some hF
      refine vj_iast G (x := (M 10 (20 : Int).toNat)) lkC_10 (by decide) (by decide) (by decide) c4 hx1 d_H_begin_24 ?_
      refine vj_sub [1, 0] rfl ?_
      exact wk_H_beginc5_25 G0 n  x0 (M 10 (20 : Int).toNat) hx0 (mr_a hM1 lkC_10) _ hF
set_option maxHeartbeats 4000000 in
set_option maxRecDepth 100000 in
theorem ct_H_doVotesc5 {w : Wd} (hij : ij LC w) (n : Nat) (x0 x1 : Int) (hx0 : hH w x0 5) (hx1 : inR x1) {M : Mm} {r : Int} {M9 : Mm} (hF : f_H_doVotesc5 n x0 x1 M = some (r, M9)) : Ct LC w y_H_doVotes b_H_doVotes 2 (some .int) 1 22 1 [.ref (wa w (500 + x0.toNat)), .int (i32 x1)] M r M9 := by
  refine Ct.of hij KstC (by decide +kernel) (Nat.le_of_ble_eq_true rfl) (fun X G0 => ?_)
  have G := G0.1
  show VJ LC w X 2 1 r M9 M [(0, .ref (wa w (500 + x0.toNat))), (1, .int (i32 x1))] [] 0
  unfold f_H_doVotesc5 at hF
  refine vj_aload_n G (p9 := 0) d_H_doVotes_0 rfl rfl ?_
  refine vj_bipush G (v := 10) d_H_doVotes_1 rfl ?_
  obtain ⟨r1, M1, e1, hF⟩ := bnd_some hF
  refine vj_callH G hx0 clC_5 (ct_H_beginc5 (gx_ij G) n x0 10 hx0 ic_10 e1) (cu_of G (x := ⟨"WhoRules$Holder", "begin", "(I)V"⟩) (y := ⟨"WhoRules$Holder", "begin", "(I)V"⟩) (owner := "WhoRules$Holder") (n := 1) q_1198 q_1940 q_1941 q_1175 q_117 q_1176 q_1175 q_1176 (by decide +kernel) (by decide) (by decide)) rfl (Nat.le_of_ble_eq_true rfl) d_H_doVotes_3 rfl (fun hr1 => ?_)
  refine vj_iload_n G (p9 := 1) d_H_doVotes_6 rfl rfl ?_
  refine vj_aload_n G (p9 := 0) d_H_doVotes_7 rfl rfl ?_
  refine hgf_H_9_5 G hx0 d_H_doVotes_8 ?_
  refine vj_iadd G d_H_doVotes_11 ?_
  cases hF
  exact vj_iret G0 (ir_w _) d_H_doVotes_12
set_option maxHeartbeats 4000000 in
set_option maxRecDepth 100000 in
theorem ct_Hc_doVotesc5 {w : Wd} (hij : ij LC w) (n : Nat) (x0 x1 : Int) (hx0 : hH w x0 5) (hx1 : inR x1) {M : Mm} {r : Int} {M9 : Mm} (hF : f_Hc_doVotesc5 n x0 x1 M = some (r, M9)) : Ct LC w y_Hc_doVotes b_Hc_doVotes 2 (some .int) 2 43 1 [.ref (wa w (500 + x0.toNat)), .int (i32 x1)] M r M9 := by
  refine Ct.of hij KstC (by decide +kernel) (Nat.le_of_ble_eq_true rfl) (fun X G0 => ?_)
  have G := G0.1
  show VJ LC w X 2 1 r M9 M [(0, .ref (wa w (500 + x0.toNat))), (1, .int (i32 x1))] [] 0
  unfold f_Hc_doVotesc5 at hF
  refine vj_aload_n G (p9 := 0) d_Hc_doVotes_0 rfl rfl ?_
  refine vj_bipush G (v := 60) d_Hc_doVotes_1 rfl ?_
  obtain ⟨r1, M1, e1, hF⟩ := bnd_some hF
  refine vj_callH G hx0 clC_5 (ct_H_beginc5 (gx_ij G) n x0 60 hx0 ic_60 e1) (cu_of G (x := ⟨"WhoRules$Club", "begin", "(I)V"⟩) (y := ⟨"WhoRules$Holder", "begin", "(I)V"⟩) (owner := "WhoRules$Holder") (n := 1) q_1171 q_1172 q_1174 q_1175 q_117 q_1176 q_1175 q_1176 (by decide +kernel) (by decide) (by decide)) rfl (Nat.le_of_ble_eq_true rfl) d_Hc_doVotes_3 rfl (fun hr1 => ?_)
  refine vj_aload_n G (p9 := 0) d_Hc_doVotes_6 rfl rfl ?_
  refine vj_iload_n G (p9 := 1) d_Hc_doVotes_7 rfl rfl ?_
  refine vj_iconst G (v := 4) d_Hc_doVotes_8 rfl ?_
  refine vj_iadd G d_Hc_doVotes_9 ?_
  obtain ⟨r2, M2, e2, hF⟩ := bnd_some hF
  refine vj_callHS G hx0 clC_5 (ct_H_doVotesc5 (gx_ij G) n x0 (w32 (x1 + 4)) hx0 (ir_w _) e2) (n := 1) (x := ⟨"WhoRules$Fund", "doVotes", "(I)I"⟩) (y := ⟨"WhoRules$Holder", "doVotes", "(I)I"⟩) (owner := "WhoRules$Holder") rfl rfl q_1177 q_1178 q_565 q_1165 q_117 q_1197 (Or.inr q_555) (by decide) (by decide +kernel) rfl (by decide) (by decide) (Nat.le_of_ble_eq_true rfl) d_Hc_doVotes_10 rfl (fun hr2 => ?_)
  replace hr2 : inR r2 := hr2
  cases hF
  exact vj_iret G0 hr2 d_Hc_doVotes_13
set_option maxHeartbeats 4000000 in
set_option maxRecDepth 100000 in
theorem ct_H_doOwnsc5 {w : Wd} (hij : ij LC w) (n : Nat) (x0 x1 : Int) (hx0 : hH w x0 5) (hx1 : inR x1) {M : Mm} {r : Int} {M9 : Mm} (hF : f_H_doOwnsc5 n x0 x1 M = some (r, M9)) : Ct LC w y_H_doOwns b_H_doOwns 2 (some .int) 3 64 1 [.ref (wa w (500 + x0.toNat)), .int (i32 x1)] M r M9 := by
  refine Ct.of hij KstC (by decide +kernel) (Nat.le_of_ble_eq_true rfl) (fun X G0 => ?_)
  have G := G0.1
  show VJ LC w X 2 1 r M9 M [(0, .ref (wa w (500 + x0.toNat))), (1, .int (i32 x1))] [] 0
  unfold f_H_doOwnsc5 at hF
  refine vj_aload_n G (p9 := 0) d_H_doOwns_0 rfl rfl ?_
  refine vj_bipush G (v := 11) d_H_doOwns_1 rfl ?_
  obtain ⟨r1, M1, e1, hF⟩ := bnd_some hF
  refine vj_callH G hx0 clC_5 (ct_H_beginc5 (gx_ij G) n x0 11 hx0 ic_11 e1) (cu_of G (x := ⟨"WhoRules$Holder", "begin", "(I)V"⟩) (y := ⟨"WhoRules$Holder", "begin", "(I)V"⟩) (owner := "WhoRules$Holder") (n := 1) q_1198 q_1940 q_1941 q_1175 q_117 q_1176 q_1175 q_1176 (by decide +kernel) (by decide) (by decide)) rfl (Nat.le_of_ble_eq_true rfl) d_H_doOwns_3 rfl (fun hr1 => ?_)
  refine vj_aload_n G (p9 := 0) d_H_doOwns_6 rfl rfl ?_
  refine vj_iload_n G (p9 := 1) d_H_doOwns_7 rfl rfl ?_
  obtain ⟨r2, M2, e2, hF⟩ := bnd_some hF
  refine vj_callH G hx0 clC_5 (ct_Hc_doVotesc5 (gx_ij G) n x0 x1 hx0 hx1 e2) (cu_of G (x := ⟨"WhoRules$Holder", "doVotes", "(I)I"⟩) (y := ⟨"WhoRules$Club", "doVotes", "(I)I"⟩) (owner := "WhoRules$Holder") (n := 1) q_1219 q_1167 q_1168 q_1169 q_122 q_1170 q_1165 q_1197 (by decide +kernel) (by decide) (by decide)) rfl (Nat.le_of_ble_eq_true rfl) d_H_doOwns_8 rfl (fun hr2 => ?_)
  replace hr2 : inR r2 := hr2
  refine vj_iconst G (v := 2) d_H_doOwns_11 rfl ?_
  refine vj_imul G d_H_doOwns_12 ?_
  cases hF
  exact vj_iret G0 (ir_w _) d_H_doOwns_13
set_option maxHeartbeats 4000000 in
set_option maxRecDepth 100000 in
theorem ct_H_doRulesc5 {w : Wd} (hij : ij LC w) (n : Nat) (x0 x1 : Int) (hx0 : hH w x0 5) (hx1 : inR x1) {M : Mm} {r : Int} {M9 : Mm} (hF : f_H_doRulesc5 n x0 x1 M = some (r, M9)) : Ct LC w y_H_doRules b_H_doRules 2 (some .int) 4 85 1 [.ref (wa w (500 + x0.toNat)), .int (i32 x1)] M r M9 := by
  refine Ct.of hij KstC (by decide +kernel) (Nat.le_of_ble_eq_true rfl) (fun X G0 => ?_)
  have G := G0.1
  show VJ LC w X 2 1 r M9 M [(0, .ref (wa w (500 + x0.toNat))), (1, .int (i32 x1))] [] 0
  unfold f_H_doRulesc5 at hF
  refine vj_aload_n G (p9 := 0) d_H_doRules_0 rfl rfl ?_
  refine vj_bipush G (v := 12) d_H_doRules_1 rfl ?_
  obtain ⟨r1, M1, e1, hF⟩ := bnd_some hF
  refine vj_callH G hx0 clC_5 (ct_H_beginc5 (gx_ij G) n x0 12 hx0 ic_12 e1) (cu_of G (x := ⟨"WhoRules$Holder", "begin", "(I)V"⟩) (y := ⟨"WhoRules$Holder", "begin", "(I)V"⟩) (owner := "WhoRules$Holder") (n := 1) q_1198 q_1940 q_1941 q_1175 q_117 q_1176 q_1175 q_1176 (by decide +kernel) (by decide) (by decide)) rfl (Nat.le_of_ble_eq_true rfl) d_H_doRules_3 rfl (fun hr1 => ?_)
  refine vj_aload_n G (p9 := 0) d_H_doRules_6 rfl rfl ?_
  refine vj_iload_n G (p9 := 1) d_H_doRules_7 rfl rfl ?_
  obtain ⟨r2, M2, e2, hF⟩ := bnd_some hF
  refine vj_callH G hx0 clC_5 (ct_H_doOwnsc5 (gx_ij G) n x0 x1 hx0 hx1 e2) (cu_of G (x := ⟨"WhoRules$Holder", "doOwns", "(I)I"⟩) (y := ⟨"WhoRules$Holder", "doOwns", "(I)I"⟩) (owner := "WhoRules$Holder") (n := 1) q_1249 q_1202 q_1203 q_1200 q_117 q_1218 q_1200 q_1218 (by decide +kernel) (by decide) (by decide)) rfl (Nat.le_of_ble_eq_true rfl) d_H_doRules_8 rfl (fun hr2 => ?_)
  replace hr2 : inR r2 := hr2
  refine vj_aload_n G (p9 := 0) d_H_doRules_11 rfl rfl ?_
  refine hgf_H_15_5 G hx0 d_H_doRules_12 ?_
  refine vj_mr (fun hM3 => ?_)
  refine vj_isub G d_H_doRules_15 ?_
  cases hF
  exact vj_iret G0 (ir_w _) d_H_doRules_16
set_option maxHeartbeats 4000000 in
set_option maxRecDepth 100000 in
theorem ct_Hu_doRulesc5 {w : Wd} (hij : ij LC w) (n : Nat) (x0 x1 : Int) (hx0 : hH w x0 5) (hx1 : inR x1) {M : Mm} {r : Int} {M9 : Mm} (hF : f_Hu_doRulesc5 n x0 x1 M = some (r, M9)) : Ct LC w y_Hu_doRules b_Hu_doRules 2 (some .int) 5 106 1 [.ref (wa w (500 + x0.toNat)), .int (i32 x1)] M r M9 := by
  refine Ct.of hij KstC (by decide +kernel) (Nat.le_of_ble_eq_true rfl) (fun X G0 => ?_)
  have G := G0.1
  show VJ LC w X 2 1 r M9 M [(0, .ref (wa w (500 + x0.toNat))), (1, .int (i32 x1))] [] 0
  unfold f_Hu_doRulesc5 at hF
  refine vj_aload_n G (p9 := 0) d_Hu_doRules_0 rfl rfl ?_
  refine vj_bipush G (v := 50) d_Hu_doRules_1 rfl ?_
  obtain ⟨r1, M1, e1, hF⟩ := bnd_some hF
  refine vj_callH G hx0 clC_5 (ct_H_beginc5 (gx_ij G) n x0 50 hx0 ic_50 e1) (cu_of G (x := ⟨"WhoRules$Fund", "begin", "(I)V"⟩) (y := ⟨"WhoRules$Holder", "begin", "(I)V"⟩) (owner := "WhoRules$Holder") (n := 1) q_1230 q_1231 q_1232 q_1175 q_117 q_1176 q_1175 q_1176 (by decide +kernel) (by decide) (by decide)) rfl (Nat.le_of_ble_eq_true rfl) d_Hu_doRules_3 rfl (fun hr1 => ?_)
  refine vj_aload_n G (p9 := 0) d_Hu_doRules_6 rfl rfl ?_
  refine vj_iload_n G (p9 := 1) d_Hu_doRules_7 rfl rfl ?_
  obtain ⟨r2, M2, e2, hF⟩ := bnd_some hF
  refine vj_callH G hx0 clC_5 (ct_H_doOwnsc5 (gx_ij G) n x0 x1 hx0 hx1 e2) (cu_of G (x := ⟨"WhoRules$Fund", "doOwns", "(I)I"⟩) (y := ⟨"WhoRules$Holder", "doOwns", "(I)I"⟩) (owner := "WhoRules$Holder") (n := 1) q_1234 q_1235 q_1237 q_1200 q_117 q_1218 q_1200 q_1218 (by decide +kernel) (by decide) (by decide)) rfl (Nat.le_of_ble_eq_true rfl) d_Hu_doRules_8 rfl (fun hr2 => ?_)
  replace hr2 : inR r2 := hr2
  refine vj_aload_n G (p9 := 0) d_Hu_doRules_11 rfl rfl ?_
  refine vj_iload_n G (p9 := 1) d_Hu_doRules_12 rfl rfl ?_
  obtain ⟨r3, M3, e3, hF⟩ := bnd_some hF
  refine vj_callHS G hx0 clC_5 (ct_H_doRulesc5 (gx_ij G) n x0 x1 hx0 hx1 e3) (n := 1) (x := ⟨"WhoRules$Holder", "doRules", "(I)I"⟩) (y := ⟨"WhoRules$Holder", "doRules", "(I)I"⟩) (owner := "WhoRules$Holder") rfl rfl q_1239 q_1223 q_555 q_1221 q_117 q_1248 (Or.inl rfl) (by decide) (by decide +kernel) rfl (by decide) (by decide) (Nat.le_of_ble_eq_true rfl) d_Hu_doRules_13 rfl (fun hr3 => ?_)
  replace hr3 : inR r3 := hr3
  refine vj_isub G d_Hu_doRules_16 ?_
  cases hF
  exact vj_iret G0 (ir_w _) d_Hu_doRules_17
set_option maxHeartbeats 4000000 in
set_option maxRecDepth 100000 in
theorem ct_Hc_doRulesc5 {w : Wd} (hij : ij LC w) (n : Nat) (x0 x1 : Int) (hx0 : hH w x0 5) (hx1 : inR x1) {M : Mm} {r : Int} {M9 : Mm} (hF : f_Hc_doRulesc5 n x0 x1 M = some (r, M9)) : Ct LC w y_Hc_doRules b_Hc_doRules 2 (some .int) 6 127 1 [.ref (wa w (500 + x0.toNat)), .int (i32 x1)] M r M9 := by
  refine Ct.of hij KstC (by decide +kernel) (Nat.le_of_ble_eq_true rfl) (fun X G0 => ?_)
  have G := G0.1
  show VJ LC w X 2 1 r M9 M [(0, .ref (wa w (500 + x0.toNat))), (1, .int (i32 x1))] [] 0
  unfold f_Hc_doRulesc5 at hF
  refine vj_aload_n G (p9 := 0) d_Hc_doRules_0 rfl rfl ?_
  refine vj_bipush G (v := 61) d_Hc_doRules_1 rfl ?_
  obtain ⟨r1, M1, e1, hF⟩ := bnd_some hF
  refine vj_callH G hx0 clC_5 (ct_H_beginc5 (gx_ij G) n x0 61 hx0 ic_61 e1) (cu_of G (x := ⟨"WhoRules$Club", "begin", "(I)V"⟩) (y := ⟨"WhoRules$Holder", "begin", "(I)V"⟩) (owner := "WhoRules$Holder") (n := 1) q_1171 q_1172 q_1174 q_1175 q_117 q_1176 q_1175 q_1176 (by decide +kernel) (by decide) (by decide)) rfl (Nat.le_of_ble_eq_true rfl) d_Hc_doRules_3 rfl (fun hr1 => ?_)
  refine vj_aload_n G (p9 := 0) d_Hc_doRules_6 rfl rfl ?_
  refine vj_iload_n G (p9 := 1) d_Hc_doRules_7 rfl rfl ?_
  obtain ⟨r2, M2, e2, hF⟩ := bnd_some hF
  refine vj_callHS G hx0 clC_5 (ct_Hu_doRulesc5 (gx_ij G) n x0 x1 hx0 hx1 e2) (n := 1) (x := ⟨"WhoRules$Fund", "doRules", "(I)I"⟩) (y := ⟨"WhoRules$Fund", "doRules", "(I)I"⟩) (owner := "WhoRules$Fund") rfl rfl q_1227 q_1948 q_565 q_1228 q_121 q_1229 (Or.inl rfl) (by decide) (by decide +kernel) rfl (by decide) (by decide) (Nat.le_of_ble_eq_true rfl) d_Hc_doRules_8 rfl (fun hr2 => ?_)
  replace hr2 : inR r2 := hr2
  refine vj_aload_n G (p9 := 0) d_Hc_doRules_11 rfl rfl ?_
  refine hgf_Hc_20_5 G hx0 d_Hc_doRules_12 ?_
  refine vj_ixor G d_Hc_doRules_15 ?_
  cases hF
  exact vj_iret G0 (ir_xo _ _) d_Hc_doRules_16
set_option maxHeartbeats 4000000 in
set_option maxRecDepth 100000 in
theorem ct_H_isUnderc5 {w : Wd} (hij : ij LC w) (n : Nat) (x0 x1 : Int) (hx0 : hH w x0 5) (hx1 : inR x1) {M : Mm} {r : Int} {M9 : Mm} (hF : f_H_isUnderc5 n x0 x1 M = some (r, M9)) : Ct LC w y_H_isUnder b_H_isUnder 2 (some .boolean) 0 0 3 [.ref (wa w (500 + x0.toNat)), .int (i32 x1)] M r M9 := by
  refine Ct.of hij KstC (by decide +kernel) (Nat.le_of_ble_eq_true rfl) (fun X G0 => ?_)
  have G := G0.1
  show VJ LC w X 2 3 r M9 M [(0, .ref (wa w (500 + x0.toNat))), (1, .int (i32 x1))] [] 0
  unfold f_H_isUnderc5 at hF
  refine vj_iload_n G (p9 := 1) d_H_isUnder_0 rfl rfl ?_
  by_cases c1 : x1 = 0
  · rw [if_pos c1] at hF
    refine vj_swIn G (y := 0) (tgt := 36) d_H_isUnder_1 hx1 c1 (by decide) (by decide) rfl (by decide) ?_
    refine vj_iconst G (v := 1) d_H_isUnder_36 rfl ?_
    cases hF
    exact vj_zret G0 (Or.inr rfl) d_H_isUnder_37
  · rw [if_neg c1] at hF
    by_cases c2 : x1 = 1
    · rw [if_pos c2] at hF
      refine vj_swIn G (y := 1) (tgt := 38) d_H_isUnder_1 hx1 c2 (by decide) (by decide) rfl (by decide) ?_
      refine vj_aload_n G (p9 := 0) d_H_isUnder_38 rfl rfl ?_
      refine vj_instN G hx0 clC_5 q_1268 (by decide) d_H_isUnder_39 ?_
      cases hF
      exact vj_zret G0 (Or.inl rfl) d_H_isUnder_42
    · rw [if_neg c2] at hF
      by_cases c3 : x1 = 2
      · rw [if_pos c3] at hF
        refine vj_swIn G (y := 2) (tgt := 43) d_H_isUnder_1 hx1 c3 (by decide) (by decide) rfl (by decide) ?_
        refine vj_aload_n G (p9 := 0) d_H_isUnder_43 rfl rfl ?_
        refine vj_instN G hx0 clC_5 q_1269 (by decide) d_H_isUnder_44 ?_
        cases hF
        exact vj_zret G0 (Or.inl rfl) d_H_isUnder_47
      · rw [if_neg c3] at hF
        by_cases c4 : x1 = 3
        · rw [if_pos c4] at hF
          refine vj_swIn G (y := 3) (tgt := 48) d_H_isUnder_1 hx1 c4 (by decide) (by decide) rfl (by decide) ?_
          refine vj_aload_n G (p9 := 0) d_H_isUnder_48 rfl rfl ?_
          refine vj_instN G hx0 clC_5 q_1270 (by decide) d_H_isUnder_49 ?_
          cases hF
          exact vj_zret G0 (Or.inl rfl) d_H_isUnder_52
        · rw [if_neg c4] at hF
          by_cases c5 : x1 = 4
          · rw [if_pos c5] at hF
            refine vj_swIn G (y := 4) (tgt := 53) d_H_isUnder_1 hx1 c5 (by decide) (by decide) rfl (by decide) ?_
            refine vj_aload_n G (p9 := 0) d_H_isUnder_53 rfl rfl ?_
            refine vj_instY G hx0 clC_5 q_1271 (by decide) d_H_isUnder_54 ?_
            cases hF
            exact vj_zret G0 (Or.inr rfl) d_H_isUnder_57
          · rw [if_neg c5] at hF
            refine vj_swOut G (tgt := 58) d_H_isUnder_1 hx1 (by omega) (by decide) ?_
            refine vj_aload_n G (p9 := 0) d_H_isUnder_58 rfl rfl ?_
            refine vj_instS G hx0 clC_5 q_1272 d_H_isUnder_59 ?_
            cases hF
            exact vj_zret G0 (Or.inr rfl) d_H_isUnder_62
