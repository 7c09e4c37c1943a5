/-! Written by wip/whole/gen/emitj.py: names and words of the JDK members that are walked. -/
abbrev b_sCoder : ByteArray := prog_17_method_152_code
abbrev y_sCoder : MethodName := ⟨"java/lang/String", "coder", "()B"⟩
theorem d_sCoder_0 : decode b_sCoder 0 = .ok (.getstatic 38, 3) := by decide +kernel
theorem d_sCoder_3 : decode b_sCoder 3 = .ok (.ifCond .eq 10, 3) := by decide +kernel
theorem d_sCoder_6 : decode b_sCoder 6 = .ok (.aload_n 0, 1) := by decide +kernel
theorem d_sCoder_7 : decode b_sCoder 7 = .ok (.getfield 15, 3) := by decide +kernel
theorem d_sCoder_10 : decode b_sCoder 10 = .ok (.goto 4, 3) := by decide +kernel
theorem d_sCoder_13 : decode b_sCoder 13 = .ok (.iconst 1, 1) := by decide +kernel
theorem d_sCoder_14 : decode b_sCoder 14 = .ok (.ireturn, 1) := by decide +kernel
theorem cq_sCoder : cqV y_sCoder b_sCoder 1 (some .byte) 0 := ⟨all_in 723 (by decide +kernel) rfl, all_in 724 (by decide +kernel) rfl, all_in 123 (by decide +kernel) rfl, all_in 725 (by decide +kernel) rfl, by decide +kernel⟩
abbrev b_sLat : ByteArray := prog_17_method_154_code
abbrev y_sLat : MethodName := ⟨"java/lang/String", "isLatin1", "()Z"⟩
theorem d_sLat_0 : decode b_sLat 0 = .ok (.getstatic 38, 3) := by decide +kernel
theorem d_sLat_3 : decode b_sLat 3 = .ok (.ifCond .eq 14, 3) := by decide +kernel
theorem d_sLat_6 : decode b_sLat 6 = .ok (.aload_n 0, 1) := by decide +kernel
theorem d_sLat_7 : decode b_sLat 7 = .ok (.getfield 15, 3) := by decide +kernel
theorem d_sLat_10 : decode b_sLat 10 = .ok (.ifCond .ne 7, 3) := by decide +kernel
theorem d_sLat_13 : decode b_sLat 13 = .ok (.iconst 1, 1) := by decide +kernel
theorem d_sLat_14 : decode b_sLat 14 = .ok (.goto 4, 3) := by decide +kernel
theorem d_sLat_17 : decode b_sLat 17 = .ok (.iconst 0, 1) := by decide +kernel
theorem d_sLat_18 : decode b_sLat 18 = .ok (.ireturn, 1) := by decide +kernel
theorem cq_sLat : cqV y_sLat b_sLat 1 (some .boolean) 0 := ⟨all_in 679 (by decide +kernel) rfl, all_in 680 (by decide +kernel) rfl, all_in 123 (by decide +kernel) rfl, all_in 681 (by decide +kernel) rfl, by decide +kernel⟩
abbrev b_sLen : ByteArray := prog_17_method_54_code
abbrev y_sLen : MethodName := ⟨"java/lang/String", "length", "()I"⟩
theorem d_sLen_0 : decode b_sLen 0 = .ok (.aload_n 0, 1) := by decide +kernel
theorem d_sLen_1 : decode b_sLen 1 = .ok (.getfield 9, 3) := by decide +kernel
theorem d_sLen_4 : decode b_sLen 4 = .ok (.arraylength, 1) := by decide +kernel
theorem d_sLen_5 : decode b_sLen 5 = .ok (.aload_n 0, 1) := by decide +kernel
theorem d_sLen_6 : decode b_sLen 6 = .ok (.invokevirtual 335, 3) := by decide +kernel
theorem d_sLen_9 : decode b_sLen 9 = .ok (.ishr, 1) := by decide +kernel
theorem d_sLen_10 : decode b_sLen 10 = .ok (.ireturn, 1) := by decide +kernel
theorem cq_sLen : cqV y_sLen b_sLen 1 (some .int) 0 := ⟨all_in 719 (by decide +kernel) rfl, all_in 720 (by decide +kernel) rfl, all_in 123 (by decide +kernel) rfl, all_in 721 (by decide +kernel) rfl, by decide +kernel⟩
abbrev b_sCh : ByteArray := prog_17_method_56_code
abbrev y_sCh : MethodName := ⟨"java/lang/String", "charAt", "(I)C"⟩
theorem d_sCh_0 : decode b_sCh 0 = .ok (.aload_n 0, 1) := by decide +kernel
theorem d_sCh_1 : decode b_sCh 1 = .ok (.invokevirtual 492, 3) := by decide +kernel
theorem d_sCh_4 : decode b_sCh 4 = .ok (.ifCond .eq 12, 3) := by decide +kernel
theorem d_sCh_7 : decode b_sCh 7 = .ok (.aload_n 0, 1) := by decide +kernel
theorem d_sCh_8 : decode b_sCh 8 = .ok (.getfield 9, 3) := by decide +kernel
theorem d_sCh_11 : decode b_sCh 11 = .ok (.iload_n 1, 1) := by decide +kernel
theorem d_sCh_12 : decode b_sCh 12 = .ok (.invokestatic 495, 3) := by decide +kernel
theorem d_sCh_15 : decode b_sCh 15 = .ok (.ireturn, 1) := by decide +kernel
theorem d_sCh_16 : decode b_sCh 16 = .ok (.aload_n 0, 1) := by decide +kernel
theorem d_sCh_17 : decode b_sCh 17 = .ok (.getfield 9, 3) := by decide +kernel
theorem d_sCh_20 : decode b_sCh 20 = .ok (.iload_n 1, 1) := by decide +kernel
theorem d_sCh_21 : decode b_sCh 21 = .ok (.invokestatic 498, 3) := by decide +kernel
theorem d_sCh_24 : decode b_sCh 24 = .ok (.ireturn, 1) := by decide +kernel
theorem cq_sCh : cqV y_sCh b_sCh 2 (some .char) 1 := ⟨all_in 675 (by decide +kernel) rfl, all_in 676 (by decide +kernel) rfl, all_in 123 (by decide +kernel) rfl, all_in 677 (by decide +kernel) rfl, by decide +kernel⟩
abbrev b_lCh : ByteArray := prog_18_method_2_code
abbrev y_lCh : MethodName := ⟨"java/lang/StringLatin1", "charAt", "([BI)C"⟩
theorem d_lCh_0 : decode b_lCh 0 = .ok (.iload_n 1, 1) := by decide +kernel
theorem d_lCh_1 : decode b_lCh 1 = .ok (.aload_n 0, 1) := by decide +kernel
theorem d_lCh_2 : decode b_lCh 2 = .ok (.arraylength, 1) := by decide +kernel
theorem d_lCh_3 : decode b_lCh 3 = .ok (.invokestatic 9, 3) := by decide +kernel
theorem d_lCh_6 : decode b_lCh 6 = .ok (.aload_n 0, 1) := by decide +kernel
theorem d_lCh_7 : decode b_lCh 7 = .ok (.iload_n 1, 1) := by decide +kernel
theorem d_lCh_8 : decode b_lCh 8 = .ok (.baload, 1) := by decide +kernel
theorem d_lCh_9 : decode b_lCh 9 = .ok (.sipush 255, 3) := by decide +kernel
theorem d_lCh_12 : decode b_lCh 12 = .ok (.iand, 1) := by decide +kernel
theorem d_lCh_13 : decode b_lCh 13 = .ok (.i2c, 1) := by decide +kernel
theorem d_lCh_14 : decode b_lCh 14 = .ok (.ireturn, 1) := by decide +kernel
theorem cq_lCh : cqS y_lCh b_lCh 2 (some .char) 2 := ⟨all_in 685 (by decide +kernel) rfl, all_in 124 (by decide +kernel) rfl, all_in 686 (by decide +kernel) rfl, by decide +kernel⟩
abbrev b_sChk : ByteArray := prog_17_method_155_code
abbrev y_sChk : MethodName := ⟨"java/lang/String", "checkIndex", "(II)V"⟩
theorem d_sChk_0 : decode b_sChk 0 = .ok (.iload_n 0, 1) := by decide +kernel
theorem d_sChk_1 : decode b_sChk 1 = .ok (.iload_n 1, 1) := by decide +kernel
theorem d_sChk_2 : decode b_sChk 2 = .ok (.getstatic 1053, 3) := by decide +kernel
theorem d_sChk_5 : decode b_sChk 5 = .ok (.invokestatic 1059, 3) := by decide +kernel
theorem d_sChk_8 : decode b_sChk 8 = .ok (.pop, 1) := by decide +kernel
theorem d_sChk_9 : decode b_sChk 9 = .ok (.return_, 1) := by decide +kernel
theorem cq_sChk : cqS y_sChk b_sChk 2 none 2 := ⟨all_in 688 (by decide +kernel) rfl, all_in 123 (by decide +kernel) rfl, all_in 689 (by decide +kernel) rfl, by decide +kernel⟩
abbrev b_pChk : ByteArray := prog_22_method_11_code
abbrev y_pChk : MethodName := ⟨"jdk/internal/util/Preconditions", "checkIndex", "(IILjava/util/function/BiFunction;)I"⟩
theorem d_pChk_0 : decode b_pChk 0 = .ok (.iload_n 0, 1) := by decide +kernel
theorem d_pChk_1 : decode b_pChk 1 = .ok (.ifCond .lt 8, 3) := by decide +kernel
theorem d_pChk_4 : decode b_pChk 4 = .ok (.iload_n 0, 1) := by decide +kernel
theorem d_pChk_5 : decode b_pChk 5 = .ok (.iload_n 1, 1) := by decide +kernel
theorem d_pChk_6 : decode b_pChk 6 = .ok (.if_icmp .lt 10, 3) := by decide +kernel
theorem d_pChk_16 : decode b_pChk 16 = .ok (.iload_n 0, 1) := by decide +kernel
theorem d_pChk_17 : decode b_pChk 17 = .ok (.ireturn, 1) := by decide +kernel
theorem cq_pChk : cqS y_pChk b_pChk 3 (some .int) 3 := ⟨all_in 693 (by decide +kernel) rfl, all_in 125 (by decide +kernel) rfl, all_in 694 (by decide +kernel) rfl, by decide +kernel⟩
abbrev b_fillI : ByteArray := prog_21_method_103_code
abbrev y_fillI : MethodName := ⟨"java/util/Arrays", "fill", "([II)V"⟩
theorem d_fillI_0 : decode b_fillI 0 = .ok (.iconst 0, 1) := by decide +kernel
theorem d_fillI_1 : decode b_fillI 1 = .ok (.istore_n 2, 1) := by decide +kernel
theorem d_fillI_2 : decode b_fillI 2 = .ok (.aload_n 0, 1) := by decide +kernel
theorem d_fillI_3 : decode b_fillI 3 = .ok (.arraylength, 1) := by decide +kernel
theorem d_fillI_4 : decode b_fillI 4 = .ok (.istore_n 3, 1) := by decide +kernel
theorem d_fillI_5 : decode b_fillI 5 = .ok (.iload_n 2, 1) := by decide +kernel
theorem d_fillI_6 : decode b_fillI 6 = .ok (.iload_n 3, 1) := by decide +kernel
theorem d_fillI_7 : decode b_fillI 7 = .ok (.if_icmp .ge 13, 3) := by decide +kernel
theorem d_fillI_10 : decode b_fillI 10 = .ok (.aload_n 0, 1) := by decide +kernel
theorem d_fillI_11 : decode b_fillI 11 = .ok (.iload_n 2, 1) := by decide +kernel
theorem d_fillI_12 : decode b_fillI 12 = .ok (.iload_n 1, 1) := by decide +kernel
theorem d_fillI_13 : decode b_fillI 13 = .ok (.iastore, 1) := by decide +kernel
theorem d_fillI_14 : decode b_fillI 14 = .ok (.iinc 2 1, 3) := by decide +kernel
theorem d_fillI_17 : decode b_fillI 17 = .ok (.goto (-12), 3) := by decide +kernel
theorem d_fillI_20 : decode b_fillI 20 = .ok (.return_, 1) := by decide +kernel
theorem cq_fillI : cqS y_fillI b_fillI 4 none 2 := ⟨all_in 448 (by decide +kernel) rfl, all_in 115 (by decide +kernel) rfl, all_in 449 (by decide +kernel) rfl, by decide +kernel⟩
abbrev b_fillJ : ByteArray := prog_21_method_101_code
abbrev y_fillJ : MethodName := ⟨"java/util/Arrays", "fill", "([JJ)V"⟩
theorem d_fillJ_0 : decode b_fillJ 0 = .ok (.iconst 0, 1) := by decide +kernel
theorem d_fillJ_1 : decode b_fillJ 1 = .ok (.istore_n 3, 1) := by decide +kernel
theorem d_fillJ_2 : decode b_fillJ 2 = .ok (.aload_n 0, 1) := by decide +kernel
theorem d_fillJ_3 : decode b_fillJ 3 = .ok (.arraylength, 1) := by decide +kernel
theorem d_fillJ_4 : decode b_fillJ 4 = .ok (.istore 4, 2) := by decide +kernel
theorem d_fillJ_6 : decode b_fillJ 6 = .ok (.iload_n 3, 1) := by decide +kernel
theorem d_fillJ_7 : decode b_fillJ 7 = .ok (.iload 4, 2) := by decide +kernel
theorem d_fillJ_9 : decode b_fillJ 9 = .ok (.if_icmp .ge 13, 3) := by decide +kernel
theorem d_fillJ_12 : decode b_fillJ 12 = .ok (.aload_n 0, 1) := by decide +kernel
theorem d_fillJ_13 : decode b_fillJ 13 = .ok (.iload_n 3, 1) := by decide +kernel
theorem d_fillJ_14 : decode b_fillJ 14 = .ok (.lload_n 1, 1) := by decide +kernel
theorem d_fillJ_15 : decode b_fillJ 15 = .ok (.lastore, 1) := by decide +kernel
theorem d_fillJ_16 : decode b_fillJ 16 = .ok (.iinc 3 1, 3) := by decide +kernel
theorem d_fillJ_19 : decode b_fillJ 19 = .ok (.goto (-13), 3) := by decide +kernel
theorem d_fillJ_22 : decode b_fillJ 22 = .ok (.return_, 1) := by decide +kernel
theorem cq_fillJ : cqS y_fillJ b_fillJ 5 none 2 := ⟨all_in 1282 (by decide +kernel) rfl, all_in 115 (by decide +kernel) rfl, all_in 1283 (by decide +kernel) rfl, by decide +kernel⟩
theorem qj_1958 : Cond.fieldLink "java/lang/String" 9 "java/lang/String" "value" "[B" ∈ ALL := all_in 1958 (by decide +kernel) rfl
theorem qj_1957 : Cond.fieldLink "java/lang/String" 15 "java/lang/String" "coder" "B" ∈ ALL := all_in 1957 (by decide +kernel) rfl
theorem qj_682 : Cond.fieldLink "java/lang/String" 38 "java/lang/String" "COMPACT_STRINGS" "Z" ∈ ALL := all_in 682 (by decide +kernel) rfl
theorem qj_690 : Cond.fieldLink "java/lang/String" 1053 "jdk/internal/util/Preconditions" "SIOOBE_FORMATTER" "Ljava/util/function/BiFunction;" ∈ ALL := all_in 690 (by decide +kernel) rfl
theorem qj_678 : Cond.methodLink "java/lang/String" 492 ⟨"java/lang/String", "isLatin1", "()Z"⟩ ∈ ALL := all_in 678 (by decide +kernel) rfl
theorem qj_722 : Cond.methodLink "java/lang/String" 335 ⟨"java/lang/String", "coder", "()B"⟩ ∈ ALL := all_in 722 (by decide +kernel) rfl
theorem qj_684 : Cond.methodLink "java/lang/String" 495 ⟨"java/lang/StringLatin1", "charAt", "([BI)C"⟩ ∈ ALL := all_in 684 (by decide +kernel) rfl
theorem qj_687 : Cond.methodLink "java/lang/StringLatin1" 9 ⟨"java/lang/String", "checkIndex", "(II)V"⟩ ∈ ALL := all_in 687 (by decide +kernel) rfl
theorem qj_692 : Cond.methodLink "java/lang/String" 1059 ⟨"jdk/internal/util/Preconditions", "checkIndex", "(IILjava/util/function/BiFunction;)I"⟩ ∈ ALL := all_in 692 (by decide +kernel) rfl
