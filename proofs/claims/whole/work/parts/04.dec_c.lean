theorem dX12_init_0 : decode cX12_init 0 = .ok (.aload_n 0, 1) := by decide +kernel
theorem dX12_init_1 : decode cX12_init 1 = .ok (.invokespecial 1, 3) := by decide +kernel
theorem dX12_init_4 : decode cX12_init 4 = .ok (.aload_n 0, 1) := by decide +kernel
theorem dX12_init_5 : decode cX12_init 5 = .ok (.sipush 1208, 3) := by decide +kernel
theorem dX12_init_8 : decode cX12_init 8 = .ok (.newarray .int, 2) := by decide +kernel
theorem dX12_init_10 : decode cX12_init 10 = .ok (.putfield 7, 3) := by decide +kernel
theorem dX12_init_13 : decode cX12_init 13 = .ok (.aload_n 0, 1) := by decide +kernel
theorem dX12_init_14 : decode cX12_init 14 = .ok (.sipush 1208, 3) := by decide +kernel
theorem dX12_init_17 : decode cX12_init 17 = .ok (.newarray .int, 2) := by decide +kernel
theorem dX12_init_19 : decode cX12_init 19 = .ok (.putfield 13, 3) := by decide +kernel
theorem dX12_init_22 : decode cX12_init 22 = .ok (.aload_n 0, 1) := by decide +kernel
theorem dX12_init_23 : decode cX12_init 23 = .ok (.bipush 120, 2) := by decide +kernel
theorem dX12_init_25 : decode cX12_init 25 = .ok (.newarray .int, 2) := by decide +kernel
theorem dX12_init_27 : decode cX12_init 27 = .ok (.putfield 16, 3) := by decide +kernel
theorem dX12_init_30 : decode cX12_init 30 = .ok (.aload_n 0, 1) := by decide +kernel
theorem dX12_init_31 : decode cX12_init 31 = .ok (.bipush 7, 2) := by decide +kernel
theorem dX12_init_33 : decode cX12_init 33 = .ok (.newarray .int, 2) := by decide +kernel
theorem dX12_init_35 : decode cX12_init 35 = .ok (.putfield 19, 3) := by decide +kernel
theorem dX12_init_38 : decode cX12_init 38 = .ok (.aload_n 0, 1) := by decide +kernel
theorem dX12_init_39 : decode cX12_init 39 = .ok (.sipush 1024, 3) := by decide +kernel
theorem dX12_init_42 : decode cX12_init 42 = .ok (.newarray .boolean, 2) := by decide +kernel
theorem dX12_init_44 : decode cX12_init 44 = .ok (.putfield 22, 3) := by decide +kernel
theorem dX12_init_47 : decode cX12_init 47 = .ok (.aload_n 0, 1) := by decide +kernel
theorem dX12_init_48 : decode cX12_init 48 = .ok (.sipush 1024, 3) := by decide +kernel
theorem dX12_init_51 : decode cX12_init 51 = .ok (.newarray .boolean, 2) := by decide +kernel
theorem dX12_init_53 : decode cX12_init 53 = .ok (.putfield 26, 3) := by decide +kernel
theorem dX12_init_56 : decode cX12_init 56 = .ok (.aload_n 0, 1) := by decide +kernel
theorem dX12_init_57 : decode cX12_init 57 = .ok (.bipush 40, 2) := by decide +kernel
theorem dX12_init_59 : decode cX12_init 59 = .ok (.newarray .int, 2) := by decide +kernel
theorem dX12_init_61 : decode cX12_init 61 = .ok (.putfield 29, 3) := by decide +kernel
theorem dX12_init_64 : decode cX12_init 64 = .ok (.aload_n 0, 1) := by decide +kernel
theorem dX12_init_65 : decode cX12_init 65 = .ok (.bipush 40, 2) := by decide +kernel
theorem dX12_init_67 : decode cX12_init 67 = .ok (.newarray .int, 2) := by decide +kernel
theorem dX12_init_69 : decode cX12_init 69 = .ok (.putfield 32, 3) := by decide +kernel
theorem dX12_init_72 : decode cX12_init 72 = .ok (.aload_n 0, 1) := by decide +kernel
theorem dX12_init_73 : decode cX12_init 73 = .ok (.bipush 40, 2) := by decide +kernel
theorem dX12_init_75 : decode cX12_init 75 = .ok (.newarray .boolean, 2) := by decide +kernel
theorem dX12_init_77 : decode cX12_init 77 = .ok (.putfield 35, 3) := by decide +kernel
theorem dX12_init_80 : decode cX12_init 80 = .ok (.aload_n 0, 1) := by decide +kernel
theorem dX12_init_81 : decode cX12_init 81 = .ok (.bipush 40, 2) := by decide +kernel
theorem dX12_init_83 : decode cX12_init 83 = .ok (.newarray .int, 2) := by decide +kernel
theorem dX12_init_85 : decode cX12_init 85 = .ok (.putfield 38, 3) := by decide +kernel
theorem dX12_init_88 : decode cX12_init 88 = .ok (.aload_n 0, 1) := by decide +kernel
theorem dX12_init_89 : decode cX12_init 89 = .ok (.sipush 1024, 3) := by decide +kernel
theorem dX12_init_92 : decode cX12_init 92 = .ok (.newarray .int, 2) := by decide +kernel
theorem dX12_init_94 : decode cX12_init 94 = .ok (.putfield 41, 3) := by decide +kernel
theorem dX12_init_97 : decode cX12_init 97 = .ok (.aload_n 0, 1) := by decide +kernel
theorem dX12_init_98 : decode cX12_init 98 = .ok (.sipush 200, 3) := by decide +kernel
theorem dX12_init_101 : decode cX12_init 101 = .ok (.newarray .int, 2) := by decide +kernel
theorem dX12_init_103 : decode cX12_init 103 = .ok (.putfield 44, 3) := by decide +kernel
theorem dX12_init_106 : decode cX12_init 106 = .ok (.aload_n 0, 1) := by decide +kernel
theorem dX12_init_107 : decode cX12_init 107 = .ok (.sipush 200, 3) := by decide +kernel
theorem dX12_init_110 : decode cX12_init 110 = .ok (.newarray .int, 2) := by decide +kernel
theorem dX12_init_112 : decode cX12_init 112 = .ok (.putfield 47, 3) := by decide +kernel
theorem dX12_init_115 : decode cX12_init 115 = .ok (.aload_n 0, 1) := by decide +kernel
theorem dX12_init_116 : decode cX12_init 116 = .ok (.iconst 4, 1) := by decide +kernel
theorem dX12_init_117 : decode cX12_init 117 = .ok (.newarray .int, 2) := by decide +kernel
theorem dX12_init_119 : decode cX12_init 119 = .ok (.putfield 50, 3) := by decide +kernel
theorem dX12_init_122 : decode cX12_init 122 = .ok (.aload_n 0, 1) := by decide +kernel
theorem dX12_init_123 : decode cX12_init 123 = .ok (.iconst 4, 1) := by decide +kernel
theorem dX12_init_124 : decode cX12_init 124 = .ok (.newarray .int, 2) := by decide +kernel
theorem dX12_init_126 : decode cX12_init 126 = .ok (.putfield 53, 3) := by decide +kernel
theorem dX12_init_129 : decode cX12_init 129 = .ok (.aload_n 0, 1) := by decide +kernel
theorem dX12_init_130 : decode cX12_init 130 = .ok (.sipush 160, 3) := by decide +kernel
theorem dX12_init_133 : decode cX12_init 133 = .ok (.newarray .long, 2) := by decide +kernel
theorem dX12_init_135 : decode cX12_init 135 = .ok (.putfield 56, 3) := by decide +kernel
theorem dX12_init_138 : decode cX12_init 138 = .ok (.aload_n 0, 1) := by decide +kernel
theorem dX12_init_139 : decode cX12_init 139 = .ok (.bipush 40, 2) := by decide +kernel
theorem dX12_init_141 : decode cX12_init 141 = .ok (.newarray .long, 2) := by decide +kernel
theorem dX12_init_143 : decode cX12_init 143 = .ok (.putfield 60, 3) := by decide +kernel
theorem dX12_init_146 : decode cX12_init 146 = .ok (.aload_n 0, 1) := by decide +kernel
theorem dX12_init_147 : decode cX12_init 147 = .ok (.getfield 7, 3) := by decide +kernel
theorem dX12_init_150 : decode cX12_init 150 = .ok (.iconst 2, 1) := by decide +kernel
theorem dX12_init_151 : decode cX12_init 151 = .ok (.iconst (-1), 1) := by decide +kernel
theorem dX12_init_152 : decode cX12_init 152 = .ok (.iastore, 1) := by decide +kernel
theorem dX12_init_153 : decode cX12_init 153 = .ok (.return_, 1) := by decide +kernel
theorem dX12_finding_0 : decode cX12_finding 0 = .ok (.aload_n 0, 1) := by decide +kernel
theorem dX12_finding_1 : decode cX12_finding 1 = .ok (.getfield 19, 3) := by decide +kernel
theorem dX12_finding_4 : decode cX12_finding 4 = .ok (.iload_n 1, 1) := by decide +kernel
theorem dX12_finding_5 : decode cX12_finding 5 = .ok (.dup2, 1) := by decide +kernel
theorem dX12_finding_6 : decode cX12_finding 6 = .ok (.iaload, 1) := by decide +kernel
theorem dX12_finding_7 : decode cX12_finding 7 = .ok (.iconst 1, 1) := by decide +kernel
theorem dX12_finding_8 : decode cX12_finding 8 = .ok (.iadd, 1) := by decide +kernel
theorem dX12_finding_9 : decode cX12_finding 9 = .ok (.iastore, 1) := by decide +kernel
theorem dX12_finding_10 : decode cX12_finding 10 = .ok (.ldc 63, 2) := by decide +kernel
theorem dX12_finding_12 : decode cX12_finding 12 = .ok (.iload_n 1, 1) := by decide +kernel
theorem dX12_finding_13 : decode cX12_finding 13 = .ok (.isub, 1) := by decide +kernel
theorem dX12_finding_14 : decode cX12_finding 14 = .ok (.ireturn, 1) := by decide +kernel
theorem dX12_in_0 : decode cX12_in 0 = .ok (.iload_n 0, 1) := by decide +kernel
theorem dX12_in_1 : decode cX12_in 1 = .ok (.iload_n 1, 1) := by decide +kernel
theorem dX12_in_2 : decode cX12_in 2 = .ok (.if_icmp .lt 12, 3) := by decide +kernel
theorem dX12_in_5 : decode cX12_in 5 = .ok (.iload_n 0, 1) := by decide +kernel
theorem dX12_in_6 : decode cX12_in 6 = .ok (.iload_n 2, 1) := by decide +kernel
theorem dX12_in_7 : decode cX12_in 7 = .ok (.if_icmp .gt 7, 3) := by decide +kernel
theorem dX12_in_10 : decode cX12_in 10 = .ok (.iconst 1, 1) := by decide +kernel
theorem dX12_in_11 : decode cX12_in 11 = .ok (.goto 4, 3) := by decide +kernel
theorem dX12_in_14 : decode cX12_in 14 = .ok (.iconst 0, 1) := by decide +kernel
theorem dX12_in_15 : decode cX12_in 15 = .ok (.ireturn, 1) := by decide +kernel
theorem dX12_many_0 : decode cX12_many 0 = .ok (.iconst 0, 1) := by decide +kernel
theorem dX12_many_1 : decode cX12_many 1 = .ok (.istore_n 1, 1) := by decide +kernel
theorem dX12_many_2 : decode cX12_many 2 = .ok (.iconst 0, 1) := by decide +kernel
theorem dX12_many_3 : decode cX12_many 3 = .ok (.istore_n 2, 1) := by decide +kernel
theorem dX12_many_4 : decode cX12_many 4 = .ok (.iload_n 2, 1) := by decide +kernel
theorem dX12_many_5 : decode cX12_many 5 = .ok (.bipush 24, 2) := by decide +kernel
theorem dX12_many_7 : decode cX12_many 7 = .ok (.if_icmp .ge 17, 3) := by decide +kernel
theorem dX12_many_10 : decode cX12_many 10 = .ok (.iload_n 1, 1) := by decide +kernel
theorem dX12_many_11 : decode cX12_many 11 = .ok (.iload_n 0, 1) := by decide +kernel
theorem dX12_many_12 : decode cX12_many 12 = .ok (.iload_n 2, 1) := by decide +kernel
theorem dX12_many_13 : decode cX12_many 13 = .ok (.ishr, 1) := by decide +kernel
theorem dX12_many_14 : decode cX12_many 14 = .ok (.iconst 1, 1) := by decide +kernel
theorem dX12_many_15 : decode cX12_many 15 = .ok (.iand, 1) := by decide +kernel
theorem dX12_many_16 : decode cX12_many 16 = .ok (.iadd, 1) := by decide +kernel
theorem dX12_many_17 : decode cX12_many 17 = .ok (.istore_n 1, 1) := by decide +kernel
theorem dX12_many_18 : decode cX12_many 18 = .ok (.iinc 2 1, 3) := by decide +kernel
theorem dX12_many_21 : decode cX12_many 21 = .ok (.goto (-17), 3) := by decide +kernel
theorem dX12_many_24 : decode cX12_many 24 = .ok (.iload_n 1, 1) := by decide +kernel
theorem dX12_many_25 : decode cX12_many 25 = .ok (.ireturn, 1) := by decide +kernel
theorem dX12_isElder_0 : decode cX12_isElder 0 = .ok (.iload_n 1, 1) := by decide +kernel
theorem dX12_isElder_1 : decode cX12_isElder 1 = .ok (.iconst 0, 1) := by decide +kernel
theorem dX12_isElder_2 : decode cX12_isElder 2 = .ok (.aload_n 0, 1) := by decide +kernel
theorem dX12_isElder_3 : decode cX12_isElder 3 = .ok (.getfield 7, 3) := by decide +kernel
theorem dX12_isElder_6 : decode cX12_isElder 6 = .ok (.iconst 0, 1) := by decide +kernel
theorem dX12_isElder_7 : decode cX12_isElder 7 = .ok (.iaload, 1) := by decide +kernel
theorem dX12_isElder_8 : decode cX12_isElder 8 = .ok (.iconst 1, 1) := by decide +kernel
theorem dX12_isElder_9 : decode cX12_isElder 9 = .ok (.isub, 1) := by decide +kernel
theorem dX12_isElder_10 : decode cX12_isElder 10 = .ok (.invokestatic 64, 3) := by decide +kernel
theorem dX12_isElder_13 : decode cX12_isElder 13 = .ok (.ireturn, 1) := by decide +kernel
theorem dX12_isHanging_0 : decode cX12_isHanging 0 = .ok (.iload_n 1, 1) := by decide +kernel
theorem dX12_isHanging_1 : decode cX12_isHanging 1 = .ok (.iconst 0, 1) := by decide +kernel
theorem dX12_isHanging_2 : decode cX12_isHanging 2 = .ok (.aload_n 0, 1) := by decide +kernel
theorem dX12_isHanging_3 : decode cX12_isHanging 3 = .ok (.getfield 7, 3) := by decide +kernel
theorem dX12_isHanging_6 : decode cX12_isHanging 6 = .ok (.iconst 3, 1) := by decide +kernel
theorem dX12_isHanging_7 : decode cX12_isHanging 7 = .ok (.iaload, 1) := by decide +kernel
theorem dX12_isHanging_8 : decode cX12_isHanging 8 = .ok (.iconst 1, 1) := by decide +kernel
theorem dX12_isHanging_9 : decode cX12_isHanging 9 = .ok (.isub, 1) := by decide +kernel
theorem dX12_isHanging_10 : decode cX12_isHanging 10 = .ok (.invokestatic 64, 3) := by decide +kernel
theorem dX12_isHanging_13 : decode cX12_isHanging 13 = .ok (.ireturn, 1) := by decide +kernel
theorem dX12_isSet_0 : decode cX12_isSet 0 = .ok (.iload_n 1, 1) := by decide +kernel
theorem dX12_isSet_1 : decode cX12_isSet 1 = .ok (.ifCond .lt 18, 3) := by decide +kernel
theorem dX12_isSet_4 : decode cX12_isSet 4 = .ok (.iload_n 1, 1) := by decide +kernel
theorem dX12_isSet_5 : decode cX12_isSet 5 = .ok (.aload_n 0, 1) := by decide +kernel
theorem dX12_isSet_6 : decode cX12_isSet 6 = .ok (.getfield 7, 3) := by decide +kernel
theorem dX12_isSet_9 : decode cX12_isSet 9 = .ok (.iconst 0, 1) := by decide +kernel
theorem dX12_isSet_10 : decode cX12_isSet 10 = .ok (.iaload, 1) := by decide +kernel
theorem dX12_isSet_11 : decode cX12_isSet 11 = .ok (.ishr, 1) := by decide +kernel
theorem dX12_isSet_12 : decode cX12_isSet 12 = .ok (.ifCond .ne 7, 3) := by decide +kernel
theorem dX12_isSet_15 : decode cX12_isSet 15 = .ok (.iconst 1, 1) := by decide +kernel
theorem dX12_isSet_16 : decode cX12_isSet 16 = .ok (.goto 4, 3) := by decide +kernel
theorem dX12_isSet_19 : decode cX12_isSet 19 = .ok (.iconst 0, 1) := by decide +kernel
theorem dX12_isSet_20 : decode cX12_isSet 20 = .ok (.ireturn, 1) := by decide +kernel
theorem dX12_isKey_0 : decode cX12_isKey 0 = .ok (.iload_n 0, 1) := by decide +kernel
theorem dX12_isKey_1 : decode cX12_isKey 1 = .ok (.iconst 0, 1) := by decide +kernel
theorem dX12_isKey_2 : decode cX12_isKey 2 = .ok (.bipush 23, 2) := by decide +kernel
theorem dX12_isKey_4 : decode cX12_isKey 4 = .ok (.invokestatic 64, 3) := by decide +kernel
theorem dX12_isKey_7 : decode cX12_isKey 7 = .ok (.ireturn, 1) := by decide +kernel
theorem dX12_hang_0 : decode cX12_hang 0 = .ok (.aload_n 0, 1) := by decide +kernel
theorem dX12_hang_1 : decode cX12_hang 1 = .ok (.getfield 7, 3) := by decide +kernel
theorem dX12_hang_4 : decode cX12_hang 4 = .ok (.bipush 40, 2) := by decide +kernel
theorem dX12_hang_6 : decode cX12_hang 6 = .ok (.iconst 4, 1) := by decide +kernel
theorem dX12_hang_7 : decode cX12_hang 7 = .ok (.iload_n 1, 1) := by decide +kernel
theorem dX12_hang_8 : decode cX12_hang 8 = .ok (.imul, 1) := by decide +kernel
theorem dX12_hang_9 : decode cX12_hang 9 = .ok (.iadd, 1) := by decide +kernel
theorem dX12_hang_10 : decode cX12_hang 10 = .ok (.iload_n 2, 1) := by decide +kernel
theorem dX12_hang_11 : decode cX12_hang 11 = .ok (.iadd, 1) := by decide +kernel
theorem dX12_hang_12 : decode cX12_hang 12 = .ok (.iaload, 1) := by decide +kernel
theorem dX12_hang_13 : decode cX12_hang 13 = .ok (.ireturn, 1) := by decide +kernel
theorem dX12_all_0 : decode cX12_all 0 = .ok (.iconst 0, 1) := by decide +kernel
theorem dX12_all_1 : decode cX12_all 1 = .ok (.istore_n 1, 1) := by decide +kernel
theorem dX12_all_2 : decode cX12_all 2 = .ok (.iconst 0, 1) := by decide +kernel
theorem dX12_all_3 : decode cX12_all 3 = .ok (.istore_n 2, 1) := by decide +kernel
theorem dX12_all_4 : decode cX12_all 4 = .ok (.iload_n 2, 1) := by decide +kernel
theorem dX12_all_5 : decode cX12_all 5 = .ok (.aload_n 0, 1) := by decide +kernel
theorem dX12_all_6 : decode cX12_all 6 = .ok (.getfield 7, 3) := by decide +kernel
theorem dX12_all_9 : decode cX12_all 9 = .ok (.iconst 0, 1) := by decide +kernel
theorem dX12_all_10 : decode cX12_all 10 = .ok (.iaload, 1) := by decide +kernel
theorem dX12_all_11 : decode cX12_all 11 = .ok (.if_icmp .ge 31, 3) := by decide +kernel
theorem dX12_all_14 : decode cX12_all 14 = .ok (.iload_n 1, 1) := by decide +kernel
theorem dX12_all_15 : decode cX12_all 15 = .ok (.aload_n 0, 1) := by decide +kernel
theorem dX12_all_16 : decode cX12_all 16 = .ok (.getfield 7, 3) := by decide +kernel
theorem dX12_all_19 : decode cX12_all 19 = .ok (.bipush 20, 2) := by decide +kernel
theorem dX12_all_21 : decode cX12_all 21 = .ok (.iload_n 2, 1) := by decide +kernel
theorem dX12_all_22 : decode cX12_all 22 = .ok (.iadd, 1) := by decide +kernel
theorem dX12_all_23 : decode cX12_all 23 = .ok (.iaload, 1) := by decide +kernel
theorem dX12_all_24 : decode cX12_all 24 = .ok (.ifCond .ne 9, 3) := by decide +kernel
theorem dX12_all_27 : decode cX12_all 27 = .ok (.iconst 1, 1) := by decide +kernel
theorem dX12_all_28 : decode cX12_all 28 = .ok (.iload_n 2, 1) := by decide +kernel
theorem dX12_all_29 : decode cX12_all 29 = .ok (.ishl, 1) := by decide +kernel
theorem dX12_all_30 : decode cX12_all 30 = .ok (.goto 4, 3) := by decide +kernel
theorem dX12_all_33 : decode cX12_all 33 = .ok (.iconst 0, 1) := by decide +kernel
theorem dX12_all_34 : decode cX12_all 34 = .ok (.ior, 1) := by decide +kernel
theorem dX12_all_35 : decode cX12_all 35 = .ok (.istore_n 1, 1) := by decide +kernel
theorem dX12_all_36 : decode cX12_all 36 = .ok (.iinc 2 1, 3) := by decide +kernel
theorem dX12_all_39 : decode cX12_all 39 = .ok (.goto (-35), 3) := by decide +kernel
theorem dX12_all_42 : decode cX12_all 42 = .ok (.iload_n 1, 1) := by decide +kernel
theorem dX12_all_43 : decode cX12_all 43 = .ok (.ireturn, 1) := by decide +kernel
theorem dX12_byteAt_0 : decode cX12_byteAt 0 = .ok (.iload_n 1, 1) := by decide +kernel
theorem dX12_byteAt_1 : decode cX12_byteAt 1 = .ok (.aload_n 0, 1) := by decide +kernel
theorem dX12_byteAt_2 : decode cX12_byteAt 2 = .ok (.getfield 68, 3) := by decide +kernel
theorem dX12_byteAt_5 : decode cX12_byteAt 5 = .ok (.if_icmp .lt 7, 3) := by decide +kernel
theorem dX12_byteAt_8 : decode cX12_byteAt 8 = .ok (.iconst (-1), 1) := by decide +kernel
theorem dX12_byteAt_9 : decode cX12_byteAt 9 = .ok (.goto 30, 3) := by decide +kernel
theorem dX12_byteAt_12 : decode cX12_byteAt 12 = .ok (.aload_n 0, 1) := by decide +kernel
theorem dX12_byteAt_13 : decode cX12_byteAt 13 = .ok (.getfield 72, 3) := by decide +kernel
theorem dX12_byteAt_16 : decode cX12_byteAt 16 = .ok (.ifCond .ne 12, 3) := by decide +kernel
theorem dX12_byteAt_19 : decode cX12_byteAt 19 = .ok (.aload_n 0, 1) := by decide +kernel
theorem dX12_byteAt_20 : decode cX12_byteAt 20 = .ok (.getfield 16, 3) := by decide +kernel
theorem dX12_byteAt_23 : decode cX12_byteAt 23 = .ok (.iload_n 1, 1) := by decide +kernel
theorem dX12_byteAt_24 : decode cX12_byteAt 24 = .ok (.iaload, 1) := by decide +kernel
theorem dX12_byteAt_25 : decode cX12_byteAt 25 = .ok (.goto 14, 3) := by decide +kernel
theorem dX12_byteAt_28 : decode cX12_byteAt 28 = .ok (.aload_n 0, 1) := by decide +kernel
theorem dX12_byteAt_29 : decode cX12_byteAt 29 = .ok (.getfield 7, 3) := by decide +kernel
theorem dX12_byteAt_32 : decode cX12_byteAt 32 = .ok (.aload_n 0, 1) := by decide +kernel
theorem dX12_byteAt_33 : decode cX12_byteAt 33 = .ok (.getfield 72, 3) := by decide +kernel
theorem dX12_byteAt_36 : decode cX12_byteAt 36 = .ok (.iload_n 1, 1) := by decide +kernel
theorem dX12_byteAt_37 : decode cX12_byteAt 37 = .ok (.iadd, 1) := by decide +kernel
theorem dX12_byteAt_38 : decode cX12_byteAt 38 = .ok (.iaload, 1) := by decide +kernel
theorem dX12_byteAt_39 : decode cX12_byteAt 39 = .ok (.ireturn, 1) := by decide +kernel
theorem dX12_isLetter_0 : decode cX12_isLetter 0 = .ok (.iload_n 0, 1) := by decide +kernel
theorem dX12_isLetter_1 : decode cX12_isLetter 1 = .ok (.bipush 97, 2) := by decide +kernel
theorem dX12_isLetter_3 : decode cX12_isLetter 3 = .ok (.bipush 122, 2) := by decide +kernel
theorem dX12_isLetter_5 : decode cX12_isLetter 5 = .ok (.invokestatic 64, 3) := by decide +kernel
theorem dX12_isLetter_8 : decode cX12_isLetter 8 = .ok (.ireturn, 1) := by decide +kernel
theorem dX12_isDigit_0 : decode cX12_isDigit 0 = .ok (.iload_n 0, 1) := by decide +kernel
theorem dX12_isDigit_1 : decode cX12_isDigit 1 = .ok (.bipush 48, 2) := by decide +kernel
theorem dX12_isDigit_3 : decode cX12_isDigit 3 = .ok (.bipush 57, 2) := by decide +kernel
theorem dX12_isDigit_5 : decode cX12_isDigit 5 = .ok (.invokestatic 64, 3) := by decide +kernel
theorem dX12_isDigit_8 : decode cX12_isDigit 8 = .ok (.ireturn, 1) := by decide +kernel
theorem dX12_next_0 : decode cX12_next 0 = .ok (.aload_n 0, 1) := by decide +kernel
theorem dX12_next_1 : decode cX12_next 1 = .ok (.aload_n 0, 1) := by decide +kernel
theorem dX12_next_2 : decode cX12_next 2 = .ok (.getfield 75, 3) := by decide +kernel
theorem dX12_next_5 : decode cX12_next 5 = .ok (.invokevirtual 78, 3) := by decide +kernel
theorem dX12_next_8 : decode cX12_next 8 = .ok (.bipush 32, 2) := by decide +kernel
theorem dX12_next_10 : decode cX12_next 10 = .ok (.if_icmp .ne 16, 3) := by decide +kernel
theorem dX12_next_13 : decode cX12_next 13 = .ok (.aload_n 0, 1) := by decide +kernel
theorem dX12_next_14 : decode cX12_next 14 = .ok (.dup, 1) := by decide +kernel
theorem dX12_next_15 : decode cX12_next 15 = .ok (.getfield 75, 3) := by decide +kernel
theorem dX12_next_18 : decode cX12_next 18 = .ok (.iconst 1, 1) := by decide +kernel
theorem dX12_next_19 : decode cX12_next 19 = .ok (.iadd, 1) := by decide +kernel
theorem dX12_next_20 : decode cX12_next 20 = .ok (.putfield 75, 3) := by decide +kernel
theorem dX12_next_23 : decode cX12_next 23 = .ok (.goto (-23), 3) := by decide +kernel
theorem dX12_next_26 : decode cX12_next 26 = .ok (.aload_n 0, 1) := by decide +kernel
theorem dX12_next_27 : decode cX12_next 27 = .ok (.aload_n 0, 1) := by decide +kernel
theorem dX12_next_28 : decode cX12_next 28 = .ok (.getfield 75, 3) := by decide +kernel
theorem dX12_next_31 : decode cX12_next 31 = .ok (.putfield 82, 3) := by decide +kernel
theorem dX12_next_34 : decode cX12_next 34 = .ok (.aload_n 0, 1) := by decide +kernel
theorem dX12_next_35 : decode cX12_next 35 = .ok (.aload_n 0, 1) := by decide +kernel
theorem dX12_next_36 : decode cX12_next 36 = .ok (.getfield 75, 3) := by decide +kernel
theorem dX12_next_39 : decode cX12_next 39 = .ok (.invokevirtual 78, 3) := by decide +kernel
theorem dX12_next_42 : decode cX12_next 42 = .ok (.istore_n 1, 1) := by decide +kernel
theorem dX12_next_43 : decode cX12_next 43 = .ok (.iload_n 1, 1) := by decide +kernel
theorem dX12_next_44 : decode cX12_next 44 = .ok (.ifCond .ge 11, 3) := by decide +kernel
theorem dX12_next_47 : decode cX12_next 47 = .ok (.aload_n 0, 1) := by decide +kernel
theorem dX12_next_48 : decode cX12_next 48 = .ok (.iconst 0, 1) := by decide +kernel
theorem dX12_next_49 : decode cX12_next 49 = .ok (.putfield 85, 3) := by decide +kernel
theorem dX12_next_52 : decode cX12_next 52 = .ok (.goto 173, 3) := by decide +kernel
theorem dX12_next_55 : decode cX12_next 55 = .ok (.iload_n 1, 1) := by decide +kernel
theorem dX12_next_56 : decode cX12_next 56 = .ok (.invokestatic 88, 3) := by decide +kernel
theorem dX12_next_59 : decode cX12_next 59 = .ok (.ifCond .eq 35, 3) := by decide +kernel
theorem dX12_next_62 : decode cX12_next 62 = .ok (.aload_n 0, 1) := by decide +kernel
theorem dX12_next_63 : decode cX12_next 63 = .ok (.iconst 1, 1) := by decide +kernel
theorem dX12_next_64 : decode cX12_next 64 = .ok (.putfield 85, 3) := by decide +kernel
theorem dX12_next_67 : decode cX12_next 67 = .ok (.aload_n 0, 1) := by decide +kernel
theorem dX12_next_68 : decode cX12_next 68 = .ok (.aload_n 0, 1) := by decide +kernel
theorem dX12_next_69 : decode cX12_next 69 = .ok (.getfield 75, 3) := by decide +kernel
theorem dX12_next_72 : decode cX12_next 72 = .ok (.invokevirtual 78, 3) := by decide +kernel
theorem dX12_next_75 : decode cX12_next 75 = .ok (.invokestatic 88, 3) := by decide +kernel
theorem dX12_next_78 : decode cX12_next 78 = .ok (.ifCond .eq 147, 3) := by decide +kernel
theorem dX12_next_81 : decode cX12_next 81 = .ok (.aload_n 0, 1) := by decide +kernel
theorem dX12_next_82 : decode cX12_next 82 = .ok (.dup, 1) := by decide +kernel
theorem dX12_next_83 : decode cX12_next 83 = .ok (.getfield 75, 3) := by decide +kernel
theorem dX12_next_86 : decode cX12_next 86 = .ok (.iconst 1, 1) := by decide +kernel
theorem dX12_next_87 : decode cX12_next 87 = .ok (.iadd, 1) := by decide +kernel
theorem dX12_next_88 : decode cX12_next 88 = .ok (.putfield 75, 3) := by decide +kernel
theorem dX12_next_91 : decode cX12_next 91 = .ok (.goto (-24), 3) := by decide +kernel
theorem dX12_next_94 : decode cX12_next 94 = .ok (.iload_n 1, 1) := by decide +kernel
theorem dX12_next_95 : decode cX12_next 95 = .ok (.invokestatic 92, 3) := by decide +kernel
theorem dX12_next_98 : decode cX12_next 98 = .ok (.ifCond .eq 79, 3) := by decide +kernel
theorem dX12_next_101 : decode cX12_next 101 = .ok (.aload_n 0, 1) := by decide +kernel
theorem dX12_next_102 : decode cX12_next 102 = .ok (.iconst 2, 1) := by decide +kernel
theorem dX12_next_103 : decode cX12_next 103 = .ok (.putfield 85, 3) := by decide +kernel
theorem dX12_next_106 : decode cX12_next 106 = .ok (.aload_n 0, 1) := by decide +kernel
theorem dX12_next_107 : decode cX12_next 107 = .ok (.iconst 0, 1) := by decide +kernel
theorem dX12_next_108 : decode cX12_next 108 = .ok (.putfield 95, 3) := by decide +kernel
theorem dX12_next_111 : decode cX12_next 111 = .ok (.aload_n 0, 1) := by decide +kernel
theorem dX12_next_112 : decode cX12_next 112 = .ok (.aload_n 0, 1) := by decide +kernel
theorem dX12_next_113 : decode cX12_next 113 = .ok (.getfield 75, 3) := by decide +kernel
theorem dX12_next_116 : decode cX12_next 116 = .ok (.invokevirtual 78, 3) := by decide +kernel
theorem dX12_next_119 : decode cX12_next 119 = .ok (.invokestatic 92, 3) := by decide +kernel
theorem dX12_next_122 : decode cX12_next 122 = .ok (.ifCond .eq 103, 3) := by decide +kernel
theorem dX12_next_125 : decode cX12_next 125 = .ok (.aload_n 0, 1) := by decide +kernel
theorem dX12_next_126 : decode cX12_next 126 = .ok (.aload_n 0, 1) := by decide +kernel
theorem dX12_next_127 : decode cX12_next 127 = .ok (.getfield 95, 3) := by decide +kernel
theorem dX12_next_130 : decode cX12_next 130 = .ok (.bipush 99, 2) := by decide +kernel
theorem dX12_next_132 : decode cX12_next 132 = .ok (.if_icmp .le 10, 3) := by decide +kernel
theorem dX12_next_135 : decode cX12_next 135 = .ok (.aload_n 0, 1) := by decide +kernel
theorem dX12_next_136 : decode cX12_next 136 = .ok (.getfield 95, 3) := by decide +kernel
theorem dX12_next_139 : decode cX12_next 139 = .ok (.goto 22, 3) := by decide +kernel
theorem dX12_next_142 : decode cX12_next 142 = .ok (.bipush 10, 2) := by decide +kernel
theorem dX12_next_144 : decode cX12_next 144 = .ok (.aload_n 0, 1) := by decide +kernel
theorem dX12_next_145 : decode cX12_next 145 = .ok (.getfield 95, 3) := by decide +kernel
theorem dX12_next_148 : decode cX12_next 148 = .ok (.imul, 1) := by decide +kernel
theorem dX12_next_149 : decode cX12_next 149 = .ok (.aload_n 0, 1) := by decide +kernel
theorem dX12_next_150 : decode cX12_next 150 = .ok (.aload_n 0, 1) := by decide +kernel
theorem dX12_next_151 : decode cX12_next 151 = .ok (.getfield 75, 3) := by decide +kernel
theorem dX12_next_154 : decode cX12_next 154 = .ok (.invokevirtual 78, 3) := by decide +kernel
theorem dX12_next_157 : decode cX12_next 157 = .ok (.iadd, 1) := by decide +kernel
theorem dX12_next_158 : decode cX12_next 158 = .ok (.bipush 48, 2) := by decide +kernel
theorem dX12_next_160 : decode cX12_next 160 = .ok (.isub, 1) := by decide +kernel
theorem dX12_next_161 : decode cX12_next 161 = .ok (.putfield 95, 3) := by decide +kernel
theorem dX12_next_164 : decode cX12_next 164 = .ok (.aload_n 0, 1) := by decide +kernel
theorem dX12_next_165 : decode cX12_next 165 = .ok (.dup, 1) := by decide +kernel
theorem dX12_next_166 : decode cX12_next 166 = .ok (.getfield 75, 3) := by decide +kernel
theorem dX12_next_169 : decode cX12_next 169 = .ok (.iconst 1, 1) := by decide +kernel
theorem dX12_next_170 : decode cX12_next 170 = .ok (.iadd, 1) := by decide +kernel
theorem dX12_next_171 : decode cX12_next 171 = .ok (.putfield 75, 3) := by decide +kernel
theorem dX12_next_174 : decode cX12_next 174 = .ok (.goto (-63), 3) := by decide +kernel
theorem dX12_next_177 : decode cX12_next 177 = .ok (.aload_n 0, 1) := by decide +kernel
theorem dX12_next_178 : decode cX12_next 178 = .ok (.iload_n 1, 1) := by decide +kernel
theorem dX12_next_179 : decode cX12_next 179 = .ok (.bipush 40, 2) := by decide +kernel
theorem dX12_next_181 : decode cX12_next 181 = .ok (.if_icmp .eq 21, 3) := by decide +kernel
theorem dX12_next_184 : decode cX12_next 184 = .ok (.iload_n 1, 1) := by decide +kernel
theorem dX12_next_185 : decode cX12_next 185 = .ok (.bipush 41, 2) := by decide +kernel
theorem dX12_next_187 : decode cX12_next 187 = .ok (.if_icmp .eq 15, 3) := by decide +kernel
theorem dX12_next_190 : decode cX12_next 190 = .ok (.iload_n 1, 1) := by decide +kernel
theorem dX12_next_191 : decode cX12_next 191 = .ok (.bipush 91, 2) := by decide +kernel
theorem dX12_next_193 : decode cX12_next 193 = .ok (.if_icmp .eq 9, 3) := by decide +kernel
theorem dX12_next_196 : decode cX12_next 196 = .ok (.iload_n 1, 1) := by decide +kernel
theorem dX12_next_197 : decode cX12_next 197 = .ok (.bipush 93, 2) := by decide +kernel
theorem dX12_next_199 : decode cX12_next 199 = .ok (.if_icmp .ne 7, 3) := by decide +kernel
theorem dX12_next_202 : decode cX12_next 202 = .ok (.iconst 3, 1) := by decide +kernel
theorem dX12_next_203 : decode cX12_next 203 = .ok (.goto 4, 3) := by decide +kernel
theorem dX12_next_206 : decode cX12_next 206 = .ok (.iconst 4, 1) := by decide +kernel
theorem dX12_next_207 : decode cX12_next 207 = .ok (.putfield 85, 3) := by decide +kernel
theorem dX12_next_210 : decode cX12_next 210 = .ok (.aload_n 0, 1) := by decide +kernel
theorem dX12_next_211 : decode cX12_next 211 = .ok (.iload_n 1, 1) := by decide +kernel
theorem dX12_next_212 : decode cX12_next 212 = .ok (.putfield 95, 3) := by decide +kernel
theorem dX12_next_215 : decode cX12_next 215 = .ok (.aload_n 0, 1) := by decide +kernel
theorem dX12_next_216 : decode cX12_next 216 = .ok (.dup, 1) := by decide +kernel
theorem dX12_next_217 : decode cX12_next 217 = .ok (.getfield 75, 3) := by decide +kernel
theorem dX12_next_220 : decode cX12_next 220 = .ok (.iconst 1, 1) := by decide +kernel
theorem dX12_next_221 : decode cX12_next 221 = .ok (.iadd, 1) := by decide +kernel
theorem dX12_next_222 : decode cX12_next 222 = .ok (.putfield 75, 3) := by decide +kernel
theorem dX12_next_225 : decode cX12_next 225 = .ok (.return_, 1) := by decide +kernel
theorem dX12_isWord_0 : decode cX12_isWord 0 = .ok (.aload_n 0, 1) := by decide +kernel
theorem dX12_isWord_1 : decode cX12_isWord 1 = .ok (.getfield 98, 3) := by decide +kernel
theorem dX12_isWord_4 : decode cX12_isWord 4 = .ok (.ifCond .ne 27, 3) := by decide +kernel
theorem dX12_isWord_7 : decode cX12_isWord 7 = .ok (.aload_n 0, 1) := by decide +kernel
theorem dX12_isWord_8 : decode cX12_isWord 8 = .ok (.getfield 85, 3) := by decide +kernel
theorem dX12_isWord_11 : decode cX12_isWord 11 = .ok (.iconst 1, 1) := by decide +kernel
theorem dX12_isWord_12 : decode cX12_isWord 12 = .ok (.if_icmp .ne 19, 3) := by decide +kernel
theorem dX12_isWord_15 : decode cX12_isWord 15 = .ok (.aload_n 0, 1) := by decide +kernel
theorem dX12_isWord_16 : decode cX12_isWord 16 = .ok (.getfield 75, 3) := by decide +kernel
theorem dX12_isWord_19 : decode cX12_isWord 19 = .ok (.aload_n 0, 1) := by decide +kernel
theorem dX12_isWord_20 : decode cX12_isWord 20 = .ok (.getfield 82, 3) := by decide +kernel
theorem dX12_isWord_23 : decode cX12_isWord 23 = .ok (.isub, 1) := by decide +kernel
theorem dX12_isWord_24 : decode cX12_isWord 24 = .ok (.aload_n 1, 1) := by decide +kernel
theorem dX12_isWord_25 : decode cX12_isWord 25 = .ok (.invokevirtual 102, 3) := by decide +kernel
theorem dX12_isWord_28 : decode cX12_isWord 28 = .ok (.if_icmp .eq 5, 3) := by decide +kernel
theorem dX12_isWord_31 : decode cX12_isWord 31 = .ok (.iconst 0, 1) := by decide +kernel
theorem dX12_isWord_32 : decode cX12_isWord 32 = .ok (.ireturn, 1) := by decide +kernel
theorem dX12_isWord_33 : decode cX12_isWord 33 = .ok (.iconst 1, 1) := by decide +kernel
theorem dX12_isWord_34 : decode cX12_isWord 34 = .ok (.istore_n 2, 1) := by decide +kernel
theorem dX12_isWord_35 : decode cX12_isWord 35 = .ok (.iconst 0, 1) := by decide +kernel
theorem dX12_isWord_36 : decode cX12_isWord 36 = .ok (.istore_n 3, 1) := by decide +kernel
theorem dX12_isWord_37 : decode cX12_isWord 37 = .ok (.iload_n 3, 1) := by decide +kernel
theorem dX12_isWord_38 : decode cX12_isWord 38 = .ok (.aload_n 1, 1) := by decide +kernel
theorem dX12_isWord_39 : decode cX12_isWord 39 = .ok (.invokevirtual 102, 3) := by decide +kernel
theorem dX12_isWord_42 : decode cX12_isWord 42 = .ok (.if_icmp .ge 37, 3) := by decide +kernel
theorem dX12_isWord_45 : decode cX12_isWord 45 = .ok (.iload_n 2, 1) := by decide +kernel
theorem dX12_isWord_46 : decode cX12_isWord 46 = .ok (.ifCond .eq 25, 3) := by decide +kernel
theorem dX12_isWord_49 : decode cX12_isWord 49 = .ok (.aload_n 0, 1) := by decide +kernel
theorem dX12_isWord_50 : decode cX12_isWord 50 = .ok (.aload_n 0, 1) := by decide +kernel
theorem dX12_isWord_51 : decode cX12_isWord 51 = .ok (.getfield 82, 3) := by decide +kernel
theorem dX12_isWord_54 : decode cX12_isWord 54 = .ok (.iload_n 3, 1) := by decide +kernel
theorem dX12_isWord_55 : decode cX12_isWord 55 = .ok (.iadd, 1) := by decide +kernel
theorem dX12_isWord_56 : decode cX12_isWord 56 = .ok (.invokevirtual 78, 3) := by decide +kernel
theorem dX12_isWord_59 : decode cX12_isWord 59 = .ok (.aload_n 1, 1) := by decide +kernel
theorem dX12_isWord_60 : decode cX12_isWord 60 = .ok (.iload_n 3, 1) := by decide +kernel
theorem dX12_isWord_61 : decode cX12_isWord 61 = .ok (.invokevirtual 108, 3) := by decide +kernel
theorem dX12_isWord_64 : decode cX12_isWord 64 = .ok (.if_icmp .ne 7, 3) := by decide +kernel
theorem dX12_isWord_67 : decode cX12_isWord 67 = .ok (.iconst 1, 1) := by decide +kernel
theorem dX12_isWord_68 : decode cX12_isWord 68 = .ok (.goto 4, 3) := by decide +kernel
theorem dX12_isWord_71 : decode cX12_isWord 71 = .ok (.iconst 0, 1) := by decide +kernel
theorem dX12_isWord_72 : decode cX12_isWord 72 = .ok (.istore_n 2, 1) := by decide +kernel
theorem dX12_isWord_73 : decode cX12_isWord 73 = .ok (.iinc 3 1, 3) := by decide +kernel
theorem dX12_isWord_76 : decode cX12_isWord 76 = .ok (.goto (-39), 3) := by decide +kernel
theorem dX12_isWord_79 : decode cX12_isWord 79 = .ok (.iload_n 2, 1) := by decide +kernel
theorem dX12_isWord_80 : decode cX12_isWord 80 = .ok (.ireturn, 1) := by decide +kernel
theorem dX12_isSign_0 : decode cX12_isSign 0 = .ok (.aload_n 0, 1) := by decide +kernel
theorem dX12_isSign_1 : decode cX12_isSign 1 = .ok (.getfield 98, 3) := by decide +kernel
theorem dX12_isSign_4 : decode cX12_isSign 4 = .ok (.ifCond .ne 23, 3) := by decide +kernel
theorem dX12_isSign_7 : decode cX12_isSign 7 = .ok (.aload_n 0, 1) := by decide +kernel
theorem dX12_isSign_8 : decode cX12_isSign 8 = .ok (.getfield 85, 3) := by decide +kernel
theorem dX12_isSign_11 : decode cX12_isSign 11 = .ok (.iconst 3, 1) := by decide +kernel
theorem dX12_isSign_12 : decode cX12_isSign 12 = .ok (.if_icmp .ne 15, 3) := by decide +kernel
theorem dX12_isSign_15 : decode cX12_isSign 15 = .ok (.aload_n 0, 1) := by decide +kernel
theorem dX12_isSign_16 : decode cX12_isSign 16 = .ok (.getfield 95, 3) := by decide +kernel
theorem dX12_isSign_19 : decode cX12_isSign 19 = .ok (.iload_n 1, 1) := by decide +kernel
theorem dX12_isSign_20 : decode cX12_isSign 20 = .ok (.if_icmp .ne 7, 3) := by decide +kernel
theorem dX12_isSign_23 : decode cX12_isSign 23 = .ok (.iconst 1, 1) := by decide +kernel
theorem dX12_isSign_24 : decode cX12_isSign 24 = .ok (.goto 4, 3) := by decide +kernel
theorem dX12_isSign_27 : decode cX12_isSign 27 = .ok (.iconst 0, 1) := by decide +kernel
theorem dX12_isSign_28 : decode cX12_isSign 28 = .ok (.ireturn, 1) := by decide +kernel
theorem dX12_need_0 : decode cX12_need 0 = .ok (.aload_n 0, 1) := by decide +kernel
theorem dX12_need_1 : decode cX12_need 1 = .ok (.aload_n 0, 1) := by decide +kernel
theorem dX12_need_2 : decode cX12_need 2 = .ok (.getfield 98, 3) := by decide +kernel
theorem dX12_need_5 : decode cX12_need 5 = .ok (.ifCond .ne 7, 3) := by decide +kernel
theorem dX12_need_8 : decode cX12_need 8 = .ok (.iload_n 1, 1) := by decide +kernel
theorem dX12_need_9 : decode cX12_need 9 = .ok (.ifCond .ne 7, 3) := by decide +kernel
theorem dX12_need_12 : decode cX12_need 12 = .ok (.iconst 1, 1) := by decide +kernel
theorem dX12_need_13 : decode cX12_need 13 = .ok (.goto 4, 3) := by decide +kernel
theorem dX12_need_16 : decode cX12_need 16 = .ok (.iconst 0, 1) := by decide +kernel
theorem dX12_need_17 : decode cX12_need 17 = .ok (.putfield 98, 3) := by decide +kernel
theorem dX12_need_20 : decode cX12_need 20 = .ok (.aload_n 0, 1) := by decide +kernel
theorem dX12_need_21 : decode cX12_need 21 = .ok (.getfield 98, 3) := by decide +kernel
theorem dX12_need_24 : decode cX12_need 24 = .ok (.ifCond .ne 7, 3) := by decide +kernel
theorem dX12_need_27 : decode cX12_need 27 = .ok (.aload_n 0, 1) := by decide +kernel
theorem dX12_need_28 : decode cX12_need 28 = .ok (.invokevirtual 112, 3) := by decide +kernel
theorem dX12_need_31 : decode cX12_need 31 = .ok (.aload_n 0, 1) := by decide +kernel
theorem dX12_need_32 : decode cX12_need 32 = .ok (.getfield 98, 3) := by decide +kernel
theorem dX12_need_35 : decode cX12_need 35 = .ok (.ifCond .ne 7, 3) := by decide +kernel
theorem dX12_need_38 : decode cX12_need 38 = .ok (.iconst 1, 1) := by decide +kernel
theorem dX12_need_39 : decode cX12_need 39 = .ok (.goto 4, 3) := by decide +kernel
theorem dX12_need_42 : decode cX12_need 42 = .ok (.iconst 0, 1) := by decide +kernel
theorem dX12_need_43 : decode cX12_need 43 = .ok (.ireturn, 1) := by decide +kernel
theorem dX12_number_0 : decode cX12_number 0 = .ok (.aload_n 0, 1) := by decide +kernel
theorem dX12_number_1 : decode cX12_number 1 = .ok (.getfield 95, 3) := by decide +kernel
theorem dX12_number_4 : decode cX12_number 4 = .ok (.istore_n 2, 1) := by decide +kernel
theorem dX12_number_5 : decode cX12_number 5 = .ok (.aload_n 0, 1) := by decide +kernel
theorem dX12_number_6 : decode cX12_number 6 = .ok (.aload_n 0, 1) := by decide +kernel
theorem dX12_number_7 : decode cX12_number 7 = .ok (.getfield 98, 3) := by decide +kernel
theorem dX12_number_10 : decode cX12_number 10 = .ok (.ifCond .ne 20, 3) := by decide +kernel
theorem dX12_number_13 : decode cX12_number 13 = .ok (.aload_n 0, 1) := by decide +kernel
theorem dX12_number_14 : decode cX12_number 14 = .ok (.getfield 85, 3) := by decide +kernel
theorem dX12_number_17 : decode cX12_number 17 = .ok (.iconst 2, 1) := by decide +kernel
theorem dX12_number_18 : decode cX12_number 18 = .ok (.if_icmp .ne 12, 3) := by decide +kernel
theorem dX12_number_21 : decode cX12_number 21 = .ok (.iload_n 2, 1) := by decide +kernel
theorem dX12_number_22 : decode cX12_number 22 = .ok (.iload_n 1, 1) := by decide +kernel
theorem dX12_number_23 : decode cX12_number 23 = .ok (.if_icmp .gt 7, 3) := by decide +kernel
theorem dX12_number_26 : decode cX12_number 26 = .ok (.iconst 1, 1) := by decide +kernel
theorem dX12_number_27 : decode cX12_number 27 = .ok (.goto 4, 3) := by decide +kernel
theorem dX12_number_30 : decode cX12_number 30 = .ok (.iconst 0, 1) := by decide +kernel
theorem dX12_number_31 : decode cX12_number 31 = .ok (.invokevirtual 115, 3) := by decide +kernel
theorem dX12_number_34 : decode cX12_number 34 = .ok (.ifCond .eq 7, 3) := by decide +kernel
theorem dX12_number_37 : decode cX12_number 37 = .ok (.iload_n 2, 1) := by decide +kernel
theorem dX12_number_38 : decode cX12_number 38 = .ok (.goto 4, 3) := by decide +kernel
theorem dX12_number_41 : decode cX12_number 41 = .ok (.iconst 0, 1) := by decide +kernel
theorem dX12_number_42 : decode cX12_number 42 = .ok (.ireturn, 1) := by decide +kernel
theorem dX12_part_0 : decode cX12_part 0 = .ok (.aload_n 0, 1) := by decide +kernel
theorem dX12_part_1 : decode cX12_part 1 = .ok (.ldc 119, 2) := by decide +kernel
theorem dX12_part_3 : decode cX12_part 3 = .ok (.invokevirtual 121, 3) := by decide +kernel
theorem dX12_part_6 : decode cX12_part 6 = .ok (.ifCond .eq 12, 3) := by decide +kernel
theorem dX12_part_9 : decode cX12_part 9 = .ok (.aload_n 0, 1) := by decide +kernel
theorem dX12_part_10 : decode cX12_part 10 = .ok (.invokevirtual 112, 3) := by decide +kernel
theorem dX12_part_13 : decode cX12_part 13 = .ok (.aload_n 0, 1) := by decide +kernel
theorem dX12_part_14 : decode cX12_part 14 = .ok (.getfield 125, 3) := by decide +kernel
theorem dX12_part_17 : decode cX12_part 17 = .ok (.ireturn, 1) := by decide +kernel
theorem dX12_part_18 : decode cX12_part 18 = .ok (.iconst 0, 1) := by decide +kernel
theorem dX12_part_19 : decode cX12_part 19 = .ok (.istore_n 1, 1) := by decide +kernel
theorem dX12_part_20 : decode cX12_part 20 = .ok (.aload_n 0, 1) := by decide +kernel
theorem dX12_part_21 : decode cX12_part 21 = .ok (.aload_n 0, 1) := by decide +kernel
theorem dX12_part_22 : decode cX12_part 22 = .ok (.bipush 91, 2) := by decide +kernel
theorem dX12_part_24 : decode cX12_part 24 = .ok (.invokevirtual 128, 3) := by decide +kernel
theorem dX12_part_27 : decode cX12_part 27 = .ok (.invokevirtual 115, 3) := by decide +kernel
theorem dX12_part_30 : decode cX12_part 30 = .ok (.pop, 1) := by decide +kernel
theorem dX12_part_31 : decode cX12_part 31 = .ok (.iload_n 1, 1) := by decide +kernel
theorem dX12_part_32 : decode cX12_part 32 = .ok (.iconst 1, 1) := by decide +kernel
theorem dX12_part_33 : decode cX12_part 33 = .ok (.aload_n 0, 1) := by decide +kernel
theorem dX12_part_34 : decode cX12_part 34 = .ok (.bipush 9, 2) := by decide +kernel
theorem dX12_part_36 : decode cX12_part 36 = .ok (.invokevirtual 131, 3) := by decide +kernel
theorem dX12_part_39 : decode cX12_part 39 = .ok (.ishl, 1) := by decide +kernel
theorem dX12_part_40 : decode cX12_part 40 = .ok (.ior, 1) := by decide +kernel
theorem dX12_part_41 : decode cX12_part 41 = .ok (.istore_n 1, 1) := by decide +kernel
theorem dX12_part_42 : decode cX12_part 42 = .ok (.aload_n 0, 1) := by decide +kernel
theorem dX12_part_43 : decode cX12_part 43 = .ok (.getfield 98, 3) := by decide +kernel
theorem dX12_part_46 : decode cX12_part 46 = .ok (.ifCond .ne 25, 3) := by decide +kernel
theorem dX12_part_49 : decode cX12_part 49 = .ok (.aload_n 0, 1) := by decide +kernel
theorem dX12_part_50 : decode cX12_part 50 = .ok (.getfield 85, 3) := by decide +kernel
theorem dX12_part_53 : decode cX12_part 53 = .ok (.iconst 2, 1) := by decide +kernel
theorem dX12_part_54 : decode cX12_part 54 = .ok (.if_icmp .ne 17, 3) := by decide +kernel
theorem dX12_part_57 : decode cX12_part 57 = .ok (.iload_n 1, 1) := by decide +kernel
theorem dX12_part_58 : decode cX12_part 58 = .ok (.iconst 1, 1) := by decide +kernel
theorem dX12_part_59 : decode cX12_part 59 = .ok (.aload_n 0, 1) := by decide +kernel
theorem dX12_part_60 : decode cX12_part 60 = .ok (.bipush 9, 2) := by decide +kernel
theorem dX12_part_62 : decode cX12_part 62 = .ok (.invokevirtual 131, 3) := by decide +kernel
theorem dX12_part_65 : decode cX12_part 65 = .ok (.ishl, 1) := by decide +kernel
theorem dX12_part_66 : decode cX12_part 66 = .ok (.ior, 1) := by decide +kernel
theorem dX12_part_67 : decode cX12_part 67 = .ok (.istore_n 1, 1) := by decide +kernel
theorem dX12_part_68 : decode cX12_part 68 = .ok (.goto (-26), 3) := by decide +kernel
theorem dX12_part_71 : decode cX12_part 71 = .ok (.aload_n 0, 1) := by decide +kernel
theorem dX12_part_72 : decode cX12_part 72 = .ok (.aload_n 0, 1) := by decide +kernel
theorem dX12_part_73 : decode cX12_part 73 = .ok (.bipush 93, 2) := by decide +kernel
theorem dX12_part_75 : decode cX12_part 75 = .ok (.invokevirtual 128, 3) := by decide +kernel
theorem dX12_part_78 : decode cX12_part 78 = .ok (.invokevirtual 115, 3) := by decide +kernel
theorem dX12_part_81 : decode cX12_part 81 = .ok (.pop, 1) := by decide +kernel
theorem dX12_part_82 : decode cX12_part 82 = .ok (.iload_n 1, 1) := by decide +kernel
theorem dX12_part_83 : decode cX12_part 83 = .ok (.ireturn, 1) := by decide +kernel
theorem dX12_opens_0 : decode cX12_opens 0 = .ok (.aload_n 0, 1) := by decide +kernel
theorem dX12_opens_1 : decode cX12_opens 1 = .ok (.getfield 134, 3) := by decide +kernel
theorem dX12_opens_4 : decode cX12_opens 4 = .ok (.bipush 6, 2) := by decide +kernel
theorem dX12_opens_6 : decode cX12_opens 6 = .ok (.if_icmp .ne 10, 3) := by decide +kernel
theorem dX12_opens_9 : decode cX12_opens 9 = .ok (.aload_n 0, 1) := by decide +kernel
theorem dX12_opens_10 : decode cX12_opens 10 = .ok (.iconst 1, 1) := by decide +kernel
theorem dX12_opens_11 : decode cX12_opens 11 = .ok (.putfield 98, 3) := by decide +kernel
theorem dX12_opens_14 : decode cX12_opens 14 = .ok (.iconst 0, 1) := by decide +kernel
theorem dX12_opens_15 : decode cX12_opens 15 = .ok (.ireturn, 1) := by decide +kernel
theorem dX12_opens_16 : decode cX12_opens 16 = .ok (.aload_n 0, 1) := by decide +kernel
theorem dX12_opens_17 : decode cX12_opens 17 = .ok (.dup, 1) := by decide +kernel
theorem dX12_opens_18 : decode cX12_opens 18 = .ok (.getfield 134, 3) := by decide +kernel
theorem dX12_opens_21 : decode cX12_opens 21 = .ok (.iconst 1, 1) := by decide +kernel
theorem dX12_opens_22 : decode cX12_opens 22 = .ok (.iadd, 1) := by decide +kernel
theorem dX12_opens_23 : decode cX12_opens 23 = .ok (.putfield 134, 3) := by decide +kernel
theorem dX12_opens_26 : decode cX12_opens 26 = .ok (.aload_n 0, 1) := by decide +kernel
theorem dX12_opens_27 : decode cX12_opens 27 = .ok (.invokevirtual 112, 3) := by decide +kernel
theorem dX12_opens_30 : decode cX12_opens 30 = .ok (.iconst 1, 1) := by decide +kernel
theorem dX12_opens_31 : decode cX12_opens 31 = .ok (.ireturn, 1) := by decide +kernel
theorem dX12_one_0 : decode cX12_one 0 = .ok (.aload_n 0, 1) := by decide +kernel
theorem dX12_one_1 : decode cX12_one 1 = .ok (.ldc 137, 2) := by decide +kernel
theorem dX12_one_3 : decode cX12_one 3 = .ok (.invokevirtual 121, 3) := by decide +kernel
theorem dX12_one_6 : decode cX12_one 6 = .ok (.ifCond .eq 47, 3) := by decide +kernel
theorem dX12_one_9 : decode cX12_one 9 = .ok (.aload_n 0, 1) := by decide +kernel
theorem dX12_one_10 : decode cX12_one 10 = .ok (.invokevirtual 112, 3) := by decide +kernel
theorem dX12_one_13 : decode cX12_one 13 = .ok (.aload_n 0, 1) := by decide +kernel
theorem dX12_one_14 : decode cX12_one 14 = .ok (.bipush 99, 2) := by decide +kernel
theorem dX12_one_16 : decode cX12_one 16 = .ok (.invokevirtual 131, 3) := by decide +kernel
theorem dX12_one_19 : decode cX12_one 19 = .ok (.istore_n 1, 1) := by decide +kernel
theorem dX12_one_20 : decode cX12_one 20 = .ok (.aload_n 0, 1) := by decide +kernel
theorem dX12_one_21 : decode cX12_one 21 = .ok (.aload_n 0, 1) := by decide +kernel
theorem dX12_one_22 : decode cX12_one 22 = .ok (.ldc 139, 2) := by decide +kernel
theorem dX12_one_24 : decode cX12_one 24 = .ok (.invokevirtual 121, 3) := by decide +kernel
theorem dX12_one_27 : decode cX12_one 27 = .ok (.invokevirtual 115, 3) := by decide +kernel
theorem dX12_one_30 : decode cX12_one 30 = .ok (.pop, 1) := by decide +kernel
theorem dX12_one_31 : decode cX12_one 31 = .ok (.aload_n 0, 1) := by decide +kernel
theorem dX12_one_32 : decode cX12_one 32 = .ok (.getfield 141, 3) := by decide +kernel
theorem dX12_one_35 : decode cX12_one 35 = .ok (.aload_n 0, 1) := by decide +kernel
theorem dX12_one_36 : decode cX12_one 36 = .ok (.invokevirtual 144, 3) := by decide +kernel
theorem dX12_one_39 : decode cX12_one 39 = .ok (.iand, 1) := by decide +kernel
theorem dX12_one_40 : decode cX12_one 40 = .ok (.invokestatic 147, 3) := by decide +kernel
theorem dX12_one_43 : decode cX12_one 43 = .ok (.iload_n 1, 1) := by decide +kernel
theorem dX12_one_44 : decode cX12_one 44 = .ok (.if_icmp .lt 7, 3) := by decide +kernel
theorem dX12_one_47 : decode cX12_one 47 = .ok (.iconst 1, 1) := by decide +kernel
theorem dX12_one_48 : decode cX12_one 48 = .ok (.goto 4, 3) := by decide +kernel
theorem dX12_one_51 : decode cX12_one 51 = .ok (.iconst 0, 1) := by decide +kernel
theorem dX12_one_52 : decode cX12_one 52 = .ok (.ireturn, 1) := by decide +kernel
theorem dX12_one_53 : decode cX12_one 53 = .ok (.aload_n 0, 1) := by decide +kernel
theorem dX12_one_54 : decode cX12_one 54 = .ok (.ldc 150, 2) := by decide +kernel
theorem dX12_one_56 : decode cX12_one 56 = .ok (.invokevirtual 121, 3) := by decide +kernel
theorem dX12_one_59 : decode cX12_one 59 = .ok (.ifCond .eq 32, 3) := by decide +kernel
theorem dX12_one_62 : decode cX12_one 62 = .ok (.aload_n 0, 1) := by decide +kernel
theorem dX12_one_63 : decode cX12_one 63 = .ok (.invokevirtual 112, 3) := by decide +kernel
theorem dX12_one_66 : decode cX12_one 66 = .ok (.aload_n 0, 1) := by decide +kernel
theorem dX12_one_67 : decode cX12_one 67 = .ok (.invokevirtual 144, 3) := by decide +kernel
theorem dX12_one_70 : decode cX12_one 70 = .ok (.aload_n 0, 1) := by decide +kernel
theorem dX12_one_71 : decode cX12_one 71 = .ok (.getfield 125, 3) := by decide +kernel
theorem dX12_one_74 : decode cX12_one 74 = .ok (.iand, 1) := by decide +kernel
theorem dX12_one_75 : decode cX12_one 75 = .ok (.aload_n 0, 1) := by decide +kernel
theorem dX12_one_76 : decode cX12_one 76 = .ok (.getfield 141, 3) := by decide +kernel
theorem dX12_one_79 : decode cX12_one 79 = .ok (.iconst (-1), 1) := by decide +kernel
theorem dX12_one_80 : decode cX12_one 80 = .ok (.ixor, 1) := by decide +kernel
theorem dX12_one_81 : decode cX12_one 81 = .ok (.iand, 1) := by decide +kernel
theorem dX12_one_82 : decode cX12_one 82 = .ok (.ifCond .ne 7, 3) := by decide +kernel
theorem dX12_one_85 : decode cX12_one 85 = .ok (.iconst 1, 1) := by decide +kernel
theorem dX12_one_86 : decode cX12_one 86 = .ok (.goto 4, 3) := by decide +kernel
theorem dX12_one_89 : decode cX12_one 89 = .ok (.iconst 0, 1) := by decide +kernel
theorem dX12_one_90 : decode cX12_one 90 = .ok (.ireturn, 1) := by decide +kernel
theorem dX12_one_91 : decode cX12_one 91 = .ok (.aload_n 0, 1) := by decide +kernel
theorem dX12_one_92 : decode cX12_one 92 = .ok (.ldc 152, 2) := by decide +kernel
theorem dX12_one_94 : decode cX12_one 94 = .ok (.invokevirtual 121, 3) := by decide +kernel
theorem dX12_one_97 : decode cX12_one 97 = .ok (.ifCond .eq 25, 3) := by decide +kernel
theorem dX12_one_100 : decode cX12_one 100 = .ok (.aload_n 0, 1) := by decide +kernel
theorem dX12_one_101 : decode cX12_one 101 = .ok (.invokevirtual 112, 3) := by decide +kernel
theorem dX12_one_104 : decode cX12_one 104 = .ok (.aload_n 0, 1) := by decide +kernel
theorem dX12_one_105 : decode cX12_one 105 = .ok (.invokevirtual 144, 3) := by decide +kernel
theorem dX12_one_108 : decode cX12_one 108 = .ok (.aload_n 0, 1) := by decide +kernel
theorem dX12_one_109 : decode cX12_one 109 = .ok (.getfield 141, 3) := by decide +kernel
theorem dX12_one_112 : decode cX12_one 112 = .ok (.iand, 1) := by decide +kernel
theorem dX12_one_113 : decode cX12_one 113 = .ok (.ifCond .eq 7, 3) := by decide +kernel
theorem dX12_one_116 : decode cX12_one 116 = .ok (.iconst 1, 1) := by decide +kernel
theorem dX12_one_117 : decode cX12_one 117 = .ok (.goto 4, 3) := by decide +kernel
theorem dX12_one_120 : decode cX12_one 120 = .ok (.iconst 0, 1) := by decide +kernel
theorem dX12_one_121 : decode cX12_one 121 = .ok (.ireturn, 1) := by decide +kernel
theorem dX12_one_122 : decode cX12_one 122 = .ok (.aload_n 0, 1) := by decide +kernel
theorem dX12_one_123 : decode cX12_one 123 = .ok (.ldc 154, 2) := by decide +kernel
theorem dX12_one_125 : decode cX12_one 125 = .ok (.invokevirtual 121, 3) := by decide +kernel
theorem dX12_one_128 : decode cX12_one 128 = .ok (.ifCond .eq 26, 3) := by decide +kernel
theorem dX12_one_131 : decode cX12_one 131 = .ok (.aload_n 0, 1) := by decide +kernel
theorem dX12_one_132 : decode cX12_one 132 = .ok (.invokevirtual 112, 3) := by decide +kernel
theorem dX12_one_135 : decode cX12_one 135 = .ok (.aload_n 0, 1) := by decide +kernel
theorem dX12_one_136 : decode cX12_one 136 = .ok (.getfield 156, 3) := by decide +kernel
theorem dX12_one_139 : decode cX12_one 139 = .ok (.aload_n 0, 1) := by decide +kernel
theorem dX12_one_140 : decode cX12_one 140 = .ok (.bipush 99, 2) := by decide +kernel
theorem dX12_one_142 : decode cX12_one 142 = .ok (.invokevirtual 131, 3) := by decide +kernel
theorem dX12_one_145 : decode cX12_one 145 = .ok (.if_icmp .lt 7, 3) := by decide +kernel
theorem dX12_one_148 : decode cX12_one 148 = .ok (.iconst 1, 1) := by decide +kernel
theorem dX12_one_149 : decode cX12_one 149 = .ok (.goto 4, 3) := by decide +kernel
theorem dX12_one_152 : decode cX12_one 152 = .ok (.iconst 0, 1) := by decide +kernel
theorem dX12_one_153 : decode cX12_one 153 = .ok (.ireturn, 1) := by decide +kernel
theorem dX12_one_154 : decode cX12_one 154 = .ok (.aload_n 0, 1) := by decide +kernel
theorem dX12_one_155 : decode cX12_one 155 = .ok (.bipush 40, 2) := by decide +kernel
theorem dX12_one_157 : decode cX12_one 157 = .ok (.invokevirtual 128, 3) := by decide +kernel
theorem dX12_one_160 : decode cX12_one 160 = .ok (.ifCond .eq 10, 3) := by decide +kernel
theorem dX12_one_163 : decode cX12_one 163 = .ok (.aload_n 0, 1) := by decide +kernel
theorem dX12_one_164 : decode cX12_one 164 = .ok (.invokevirtual 159, 3) := by decide +kernel
theorem dX12_one_167 : decode cX12_one 167 = .ok (.ifCond .ne 10, 3) := by decide +kernel
theorem dX12_one_170 : decode cX12_one 170 = .ok (.aload_n 0, 1) := by decide +kernel
theorem dX12_one_171 : decode cX12_one 171 = .ok (.iconst 1, 1) := by decide +kernel
theorem dX12_one_172 : decode cX12_one 172 = .ok (.putfield 98, 3) := by decide +kernel
theorem dX12_one_175 : decode cX12_one 175 = .ok (.iconst 0, 1) := by decide +kernel
theorem dX12_one_176 : decode cX12_one 176 = .ok (.ireturn, 1) := by decide +kernel
theorem dX12_one_177 : decode cX12_one 177 = .ok (.aload_n 0, 1) := by decide +kernel
theorem dX12_one_178 : decode cX12_one 178 = .ok (.invokevirtual 163, 3) := by decide +kernel
theorem dX12_one_181 : decode cX12_one 181 = .ok (.istore_n 1, 1) := by decide +kernel
theorem dX12_one_182 : decode cX12_one 182 = .ok (.aload_n 0, 1) := by decide +kernel
theorem dX12_one_183 : decode cX12_one 183 = .ok (.aload_n 0, 1) := by decide +kernel
theorem dX12_one_184 : decode cX12_one 184 = .ok (.bipush 41, 2) := by decide +kernel
theorem dX12_one_186 : decode cX12_one 186 = .ok (.invokevirtual 128, 3) := by decide +kernel
theorem dX12_one_189 : decode cX12_one 189 = .ok (.invokevirtual 115, 3) := by decide +kernel
theorem dX12_one_192 : decode cX12_one 192 = .ok (.pop, 1) := by decide +kernel
theorem dX12_one_193 : decode cX12_one 193 = .ok (.aload_n 0, 1) := by decide +kernel
theorem dX12_one_194 : decode cX12_one 194 = .ok (.dup, 1) := by decide +kernel
theorem dX12_one_195 : decode cX12_one 195 = .ok (.getfield 134, 3) := by decide +kernel
theorem dX12_one_198 : decode cX12_one 198 = .ok (.iconst 1, 1) := by decide +kernel
theorem dX12_one_199 : decode cX12_one 199 = .ok (.isub, 1) := by decide +kernel
theorem dX12_one_200 : decode cX12_one 200 = .ok (.putfield 134, 3) := by decide +kernel
theorem dX12_one_203 : decode cX12_one 203 = .ok (.iload_n 1, 1) := by decide +kernel
theorem dX12_one_204 : decode cX12_one 204 = .ok (.ireturn, 1) := by decide +kernel
theorem dX12_turned_0 : decode cX12_turned 0 = .ok (.aload_n 0, 1) := by decide +kernel
theorem dX12_turned_1 : decode cX12_turned 1 = .ok (.ldc 166, 2) := by decide +kernel
theorem dX12_turned_3 : decode cX12_turned 3 = .ok (.invokevirtual 121, 3) := by decide +kernel
theorem dX12_turned_6 : decode cX12_turned 6 = .ok (.ifCond .ne 8, 3) := by decide +kernel
theorem dX12_turned_9 : decode cX12_turned 9 = .ok (.aload_n 0, 1) := by decide +kernel
theorem dX12_turned_10 : decode cX12_turned 10 = .ok (.invokevirtual 168, 3) := by decide +kernel
theorem dX12_turned_13 : decode cX12_turned 13 = .ok (.ireturn, 1) := by decide +kernel
theorem dX12_turned_14 : decode cX12_turned 14 = .ok (.aload_n 0, 1) := by decide +kernel
theorem dX12_turned_15 : decode cX12_turned 15 = .ok (.invokevirtual 159, 3) := by decide +kernel
theorem dX12_turned_18 : decode cX12_turned 18 = .ok (.ifCond .ne 5, 3) := by decide +kernel
theorem dX12_turned_21 : decode cX12_turned 21 = .ok (.iconst 0, 1) := by decide +kernel
theorem dX12_turned_22 : decode cX12_turned 22 = .ok (.ireturn, 1) := by decide +kernel
theorem dX12_turned_23 : decode cX12_turned 23 = .ok (.aload_n 0, 1) := by decide +kernel
theorem dX12_turned_24 : decode cX12_turned 24 = .ok (.invokevirtual 171, 3) := by decide +kernel
theorem dX12_turned_27 : decode cX12_turned 27 = .ok (.istore_n 1, 1) := by decide +kernel
theorem dX12_turned_28 : decode cX12_turned 28 = .ok (.aload_n 0, 1) := by decide +kernel
theorem dX12_turned_29 : decode cX12_turned 29 = .ok (.dup, 1) := by decide +kernel
theorem dX12_turned_30 : decode cX12_turned 30 = .ok (.getfield 134, 3) := by decide +kernel
theorem dX12_turned_33 : decode cX12_turned 33 = .ok (.iconst 1, 1) := by decide +kernel
theorem dX12_turned_34 : decode cX12_turned 34 = .ok (.isub, 1) := by decide +kernel
theorem dX12_turned_35 : decode cX12_turned 35 = .ok (.putfield 134, 3) := by decide +kernel
theorem dX12_turned_38 : decode cX12_turned 38 = .ok (.iload_n 1, 1) := by decide +kernel
theorem dX12_turned_39 : decode cX12_turned 39 = .ok (.ifCond .ne 7, 3) := by decide +kernel
theorem dX12_turned_42 : decode cX12_turned 42 = .ok (.iconst 1, 1) := by decide +kernel
theorem dX12_turned_43 : decode cX12_turned 43 = .ok (.goto 4, 3) := by decide +kernel
theorem dX12_turned_46 : decode cX12_turned 46 = .ok (.iconst 0, 1) := by decide +kernel
theorem dX12_turned_47 : decode cX12_turned 47 = .ok (.ireturn, 1) := by decide +kernel
theorem dX12_both_0 : decode cX12_both 0 = .ok (.aload_n 0, 1) := by decide +kernel
theorem dX12_both_1 : decode cX12_both 1 = .ok (.invokevirtual 171, 3) := by decide +kernel
theorem dX12_both_4 : decode cX12_both 4 = .ok (.istore_n 1, 1) := by decide +kernel
theorem dX12_both_5 : decode cX12_both 5 = .ok (.aload_n 0, 1) := by decide +kernel
theorem dX12_both_6 : decode cX12_both 6 = .ok (.ldc 174, 2) := by decide +kernel
theorem dX12_both_8 : decode cX12_both 8 = .ok (.invokevirtual 121, 3) := by decide +kernel
theorem dX12_both_11 : decode cX12_both 11 = .ok (.ifCond .eq 29, 3) := by decide +kernel
theorem dX12_both_14 : decode cX12_both 14 = .ok (.aload_n 0, 1) := by decide +kernel
theorem dX12_both_15 : decode cX12_both 15 = .ok (.invokevirtual 112, 3) := by decide +kernel
theorem dX12_both_18 : decode cX12_both 18 = .ok (.aload_n 0, 1) := by decide +kernel
theorem dX12_both_19 : decode cX12_both 19 = .ok (.invokevirtual 171, 3) := by decide +kernel
theorem dX12_both_22 : decode cX12_both 22 = .ok (.istore_n 2, 1) := by decide +kernel
theorem dX12_both_23 : decode cX12_both 23 = .ok (.iload_n 1, 1) := by decide +kernel
theorem dX12_both_24 : decode cX12_both 24 = .ok (.ifCond .eq 11, 3) := by decide +kernel
theorem dX12_both_27 : decode cX12_both 27 = .ok (.iload_n 2, 1) := by decide +kernel
theorem dX12_both_28 : decode cX12_both 28 = .ok (.ifCond .eq 7, 3) := by decide +kernel
theorem dX12_both_31 : decode cX12_both 31 = .ok (.iconst 1, 1) := by decide +kernel
theorem dX12_both_32 : decode cX12_both 32 = .ok (.goto 4, 3) := by decide +kernel
theorem dX12_both_35 : decode cX12_both 35 = .ok (.iconst 0, 1) := by decide +kernel
theorem dX12_both_36 : decode cX12_both 36 = .ok (.istore_n 1, 1) := by decide +kernel
theorem dX12_both_37 : decode cX12_both 37 = .ok (.goto (-32), 3) := by decide +kernel
theorem dX12_both_40 : decode cX12_both 40 = .ok (.iload_n 1, 1) := by decide +kernel
theorem dX12_both_41 : decode cX12_both 41 = .ok (.ireturn, 1) := by decide +kernel
theorem dX12_either_0 : decode cX12_either 0 = .ok (.aload_n 0, 1) := by decide +kernel
theorem dX12_either_1 : decode cX12_either 1 = .ok (.invokevirtual 176, 3) := by decide +kernel
theorem dX12_either_4 : decode cX12_either 4 = .ok (.istore_n 1, 1) := by decide +kernel
theorem dX12_either_5 : decode cX12_either 5 = .ok (.aload_n 0, 1) := by decide +kernel
theorem dX12_either_6 : decode cX12_either 6 = .ok (.ldc 179, 2) := by decide +kernel
theorem dX12_either_8 : decode cX12_either 8 = .ok (.invokevirtual 121, 3) := by decide +kernel
theorem dX12_either_11 : decode cX12_either 11 = .ok (.ifCond .eq 29, 3) := by decide +kernel
theorem dX12_either_14 : decode cX12_either 14 = .ok (.aload_n 0, 1) := by decide +kernel
theorem dX12_either_15 : decode cX12_either 15 = .ok (.invokevirtual 112, 3) := by decide +kernel
theorem dX12_either_18 : decode cX12_either 18 = .ok (.aload_n 0, 1) := by decide +kernel
theorem dX12_either_19 : decode cX12_either 19 = .ok (.invokevirtual 176, 3) := by decide +kernel
theorem dX12_either_22 : decode cX12_either 22 = .ok (.istore_n 2, 1) := by decide +kernel
theorem dX12_either_23 : decode cX12_either 23 = .ok (.iload_n 1, 1) := by decide +kernel
theorem dX12_either_24 : decode cX12_either 24 = .ok (.ifCond .ne 7, 3) := by decide +kernel
theorem dX12_either_27 : decode cX12_either 27 = .ok (.iload_n 2, 1) := by decide +kernel
theorem dX12_either_28 : decode cX12_either 28 = .ok (.ifCond .eq 7, 3) := by decide +kernel
theorem dX12_either_31 : decode cX12_either 31 = .ok (.iconst 1, 1) := by decide +kernel
theorem dX12_either_32 : decode cX12_either 32 = .ok (.goto 4, 3) := by decide +kernel
theorem dX12_either_35 : decode cX12_either 35 = .ok (.iconst 0, 1) := by decide +kernel
theorem dX12_either_36 : decode cX12_either 36 = .ok (.istore_n 1, 1) := by decide +kernel
theorem dX12_either_37 : decode cX12_either 37 = .ok (.goto (-32), 3) := by decide +kernel
theorem dX12_either_40 : decode cX12_either 40 = .ok (.iload_n 1, 1) := by decide +kernel
theorem dX12_either_41 : decode cX12_either 41 = .ok (.ireturn, 1) := by decide +kernel
theorem dX12_reads_0 : decode cX12_reads 0 = .ok (.aload_n 0, 1) := by decide +kernel
theorem dX12_reads_1 : decode cX12_reads 1 = .ok (.iload_n 1, 1) := by decide +kernel
theorem dX12_reads_2 : decode cX12_reads 2 = .ok (.putfield 72, 3) := by decide +kernel
theorem dX12_reads_5 : decode cX12_reads 5 = .ok (.aload_n 0, 1) := by decide +kernel
theorem dX12_reads_6 : decode cX12_reads 6 = .ok (.iload_n 2, 1) := by decide +kernel
theorem dX12_reads_7 : decode cX12_reads 7 = .ok (.putfield 68, 3) := by decide +kernel
theorem dX12_reads_10 : decode cX12_reads 10 = .ok (.aload_n 0, 1) := by decide +kernel
theorem dX12_reads_11 : decode cX12_reads 11 = .ok (.aload_n 0, 1) := by decide +kernel
theorem dX12_reads_12 : decode cX12_reads 12 = .ok (.invokevirtual 181, 3) := by decide +kernel
theorem dX12_reads_15 : decode cX12_reads 15 = .ok (.putfield 125, 3) := by decide +kernel
theorem dX12_reads_18 : decode cX12_reads 18 = .ok (.aload_n 0, 1) := by decide +kernel
theorem dX12_reads_19 : decode cX12_reads 19 = .ok (.iload_n 3, 1) := by decide +kernel
theorem dX12_reads_20 : decode cX12_reads 20 = .ok (.aload_n 0, 1) := by decide +kernel
theorem dX12_reads_21 : decode cX12_reads 21 = .ok (.getfield 125, 3) := by decide +kernel
theorem dX12_reads_24 : decode cX12_reads 24 = .ok (.iand, 1) := by decide +kernel
theorem dX12_reads_25 : decode cX12_reads 25 = .ok (.putfield 141, 3) := by decide +kernel
theorem dX12_reads_28 : decode cX12_reads 28 = .ok (.aload_n 0, 1) := by decide +kernel
theorem dX12_reads_29 : decode cX12_reads 29 = .ok (.iconst 0, 1) := by decide +kernel
theorem dX12_reads_30 : decode cX12_reads 30 = .ok (.putfield 156, 3) := by decide +kernel
theorem dX12_reads_33 : decode cX12_reads 33 = .ok (.iconst 0, 1) := by decide +kernel
theorem dX12_reads_34 : decode cX12_reads 34 = .ok (.istore 4, 2) := by decide +kernel
theorem dX12_reads_36 : decode cX12_reads 36 = .ok (.iload 4, 2) := by decide +kernel
theorem dX12_reads_38 : decode cX12_reads 38 = .ok (.aload_n 0, 1) := by decide +kernel
theorem dX12_reads_39 : decode cX12_reads 39 = .ok (.getfield 7, 3) := by decide +kernel
theorem dX12_reads_42 : decode cX12_reads 42 = .ok (.iconst 0, 1) := by decide +kernel
theorem dX12_reads_43 : decode cX12_reads 43 = .ok (.iaload, 1) := by decide +kernel
theorem dX12_reads_44 : decode cX12_reads 44 = .ok (.if_icmp .ge 45, 3) := by decide +kernel
theorem dX12_reads_47 : decode cX12_reads 47 = .ok (.aload_n 0, 1) := by decide +kernel
theorem dX12_reads_48 : decode cX12_reads 48 = .ok (.dup, 1) := by decide +kernel
theorem dX12_reads_49 : decode cX12_reads 49 = .ok (.getfield 156, 3) := by decide +kernel
theorem dX12_reads_52 : decode cX12_reads 52 = .ok (.aload_n 0, 1) := by decide +kernel
theorem dX12_reads_53 : decode cX12_reads 53 = .ok (.getfield 141, 3) := by decide +kernel
theorem dX12_reads_56 : decode cX12_reads 56 = .ok (.iload 4, 2) := by decide +kernel
theorem dX12_reads_58 : decode cX12_reads 58 = .ok (.ishr, 1) := by decide +kernel
theorem dX12_reads_59 : decode cX12_reads 59 = .ok (.iconst 1, 1) := by decide +kernel
theorem dX12_reads_60 : decode cX12_reads 60 = .ok (.iand, 1) := by decide +kernel
theorem dX12_reads_61 : decode cX12_reads 61 = .ok (.iconst 1, 1) := by decide +kernel
theorem dX12_reads_62 : decode cX12_reads 62 = .ok (.if_icmp .ne 16, 3) := by decide +kernel
theorem dX12_reads_65 : decode cX12_reads 65 = .ok (.aload_n 0, 1) := by decide +kernel
theorem dX12_reads_66 : decode cX12_reads 66 = .ok (.getfield 7, 3) := by decide +kernel
theorem dX12_reads_69 : decode cX12_reads 69 = .ok (.bipush 10, 2) := by decide +kernel
theorem dX12_reads_71 : decode cX12_reads 71 = .ok (.iload 4, 2) := by decide +kernel
theorem dX12_reads_73 : decode cX12_reads 73 = .ok (.iadd, 1) := by decide +kernel
theorem dX12_reads_74 : decode cX12_reads 74 = .ok (.iaload, 1) := by decide +kernel
theorem dX12_reads_75 : decode cX12_reads 75 = .ok (.goto 4, 3) := by decide +kernel
theorem dX12_reads_78 : decode cX12_reads 78 = .ok (.iconst 0, 1) := by decide +kernel
theorem dX12_reads_79 : decode cX12_reads 79 = .ok (.iadd, 1) := by decide +kernel
theorem dX12_reads_80 : decode cX12_reads 80 = .ok (.putfield 156, 3) := by decide +kernel
theorem dX12_reads_83 : decode cX12_reads 83 = .ok (.iinc 4 1, 3) := by decide +kernel
theorem dX12_reads_86 : decode cX12_reads 86 = .ok (.goto (-50), 3) := by decide +kernel
theorem dX12_reads_89 : decode cX12_reads 89 = .ok (.aload_n 0, 1) := by decide +kernel
theorem dX12_reads_90 : decode cX12_reads 90 = .ok (.iconst 0, 1) := by decide +kernel
theorem dX12_reads_91 : decode cX12_reads 91 = .ok (.putfield 75, 3) := by decide +kernel
theorem dX12_reads_94 : decode cX12_reads 94 = .ok (.aload_n 0, 1) := by decide +kernel
theorem dX12_reads_95 : decode cX12_reads 95 = .ok (.iconst 0, 1) := by decide +kernel
theorem dX12_reads_96 : decode cX12_reads 96 = .ok (.putfield 134, 3) := by decide +kernel
theorem dX12_reads_99 : decode cX12_reads 99 = .ok (.aload_n 0, 1) := by decide +kernel
theorem dX12_reads_100 : decode cX12_reads 100 = .ok (.iconst 0, 1) := by decide +kernel
theorem dX12_reads_101 : decode cX12_reads 101 = .ok (.putfield 98, 3) := by decide +kernel
theorem dX12_reads_104 : decode cX12_reads 104 = .ok (.aload_n 0, 1) := by decide +kernel
theorem dX12_reads_105 : decode cX12_reads 105 = .ok (.invokevirtual 112, 3) := by decide +kernel
theorem dX12_reads_108 : decode cX12_reads 108 = .ok (.aload_n 0, 1) := by decide +kernel
theorem dX12_reads_109 : decode cX12_reads 109 = .ok (.aload_n 0, 1) := by decide +kernel
theorem dX12_reads_110 : decode cX12_reads 110 = .ok (.ldc 183, 2) := by decide +kernel
theorem dX12_reads_112 : decode cX12_reads 112 = .ok (.invokevirtual 121, 3) := by decide +kernel
theorem dX12_reads_115 : decode cX12_reads 115 = .ok (.invokevirtual 115, 3) := by decide +kernel
theorem dX12_reads_118 : decode cX12_reads 118 = .ok (.pop, 1) := by decide +kernel
theorem dX12_reads_119 : decode cX12_reads 119 = .ok (.aload_n 0, 1) := by decide +kernel
theorem dX12_reads_120 : decode cX12_reads 120 = .ok (.getfield 98, 3) := by decide +kernel
theorem dX12_reads_123 : decode cX12_reads 123 = .ok (.ifCond .ne 14, 3) := by decide +kernel
theorem dX12_reads_126 : decode cX12_reads 126 = .ok (.aload_n 0, 1) := by decide +kernel
theorem dX12_reads_127 : decode cX12_reads 127 = .ok (.invokevirtual 163, 3) := by decide +kernel
theorem dX12_reads_130 : decode cX12_reads 130 = .ok (.ifCond .eq 7, 3) := by decide +kernel
theorem dX12_reads_133 : decode cX12_reads 133 = .ok (.iconst 1, 1) := by decide +kernel
theorem dX12_reads_134 : decode cX12_reads 134 = .ok (.goto 4, 3) := by decide +kernel
theorem dX12_reads_137 : decode cX12_reads 137 = .ok (.iconst 0, 1) := by decide +kernel
theorem dX12_reads_138 : decode cX12_reads 138 = .ok (.istore 4, 2) := by decide +kernel
theorem dX12_reads_140 : decode cX12_reads 140 = .ok (.aload_n 0, 1) := by decide +kernel
theorem dX12_reads_141 : decode cX12_reads 141 = .ok (.ldc 185, 2) := by decide +kernel
theorem dX12_reads_143 : decode cX12_reads 143 = .ok (.invokevirtual 121, 3) := by decide +kernel
theorem dX12_reads_146 : decode cX12_reads 146 = .ok (.ifCond .eq 30, 3) := by decide +kernel
theorem dX12_reads_149 : decode cX12_reads 149 = .ok (.aload_n 0, 1) := by decide +kernel
theorem dX12_reads_150 : decode cX12_reads 150 = .ok (.invokevirtual 112, 3) := by decide +kernel
theorem dX12_reads_153 : decode cX12_reads 153 = .ok (.aload_n 0, 1) := by decide +kernel
theorem dX12_reads_154 : decode cX12_reads 154 = .ok (.invokevirtual 163, 3) := by decide +kernel
theorem dX12_reads_157 : decode cX12_reads 157 = .ok (.istore 5, 2) := by decide +kernel
theorem dX12_reads_159 : decode cX12_reads 159 = .ok (.iload 4, 2) := by decide +kernel
theorem dX12_reads_161 : decode cX12_reads 161 = .ok (.ifCond .eq 12, 3) := by decide +kernel
theorem dX12_reads_164 : decode cX12_reads 164 = .ok (.iload 5, 2) := by decide +kernel
theorem dX12_reads_166 : decode cX12_reads 166 = .ok (.ifCond .ne 7, 3) := by decide +kernel
theorem dX12_reads_169 : decode cX12_reads 169 = .ok (.iconst 1, 1) := by decide +kernel
theorem dX12_reads_170 : decode cX12_reads 170 = .ok (.goto 4, 3) := by decide +kernel
theorem dX12_reads_173 : decode cX12_reads 173 = .ok (.iconst 0, 1) := by decide +kernel
theorem dX12_reads_174 : decode cX12_reads 174 = .ok (.istore 4, 2) := by decide +kernel
theorem dX12_reads_176 : decode cX12_reads 176 = .ok (.aload_n 0, 1) := by decide +kernel
theorem dX12_reads_177 : decode cX12_reads 177 = .ok (.aload_n 0, 1) := by decide +kernel
theorem dX12_reads_178 : decode cX12_reads 178 = .ok (.getfield 98, 3) := by decide +kernel
theorem dX12_reads_181 : decode cX12_reads 181 = .ok (.ifCond .ne 10, 3) := by decide +kernel
theorem dX12_reads_184 : decode cX12_reads 184 = .ok (.aload_n 0, 1) := by decide +kernel
theorem dX12_reads_185 : decode cX12_reads 185 = .ok (.getfield 85, 3) := by decide +kernel
theorem dX12_reads_188 : decode cX12_reads 188 = .ok (.ifCond .eq 7, 3) := by decide +kernel
theorem dX12_reads_191 : decode cX12_reads 191 = .ok (.iconst 1, 1) := by decide +kernel
theorem dX12_reads_192 : decode cX12_reads 192 = .ok (.goto 4, 3) := by decide +kernel
theorem dX12_reads_195 : decode cX12_reads 195 = .ok (.iconst 0, 1) := by decide +kernel
theorem dX12_reads_196 : decode cX12_reads 196 = .ok (.putfield 98, 3) := by decide +kernel
theorem dX12_reads_199 : decode cX12_reads 199 = .ok (.iload 4, 2) := by decide +kernel
theorem dX12_reads_201 : decode cX12_reads 201 = .ok (.ireturn, 1) := by decide +kernel
theorem dX12_mayBy_0 : decode cX12_mayBy 0 = .ok (.aload_n 0, 1) := by decide +kernel
theorem dX12_mayBy_1 : decode cX12_mayBy 1 = .ok (.sipush 248, 3) := by decide +kernel
theorem dX12_mayBy_4 : decode cX12_mayBy 4 = .ok (.bipush 120, 2) := by decide +kernel
theorem dX12_mayBy_6 : decode cX12_mayBy 6 = .ok (.iload_n 1, 1) := by decide +kernel
theorem dX12_mayBy_7 : decode cX12_mayBy 7 = .ok (.imul, 1) := by decide +kernel
theorem dX12_mayBy_8 : decode cX12_mayBy 8 = .ok (.iadd, 1) := by decide +kernel
theorem dX12_mayBy_9 : decode cX12_mayBy 9 = .ok (.aload_n 0, 1) := by decide +kernel
theorem dX12_mayBy_10 : decode cX12_mayBy 10 = .ok (.getfield 7, 3) := by decide +kernel
theorem dX12_mayBy_13 : decode cX12_mayBy 13 = .ok (.sipush 240, 3) := by decide +kernel
theorem dX12_mayBy_16 : decode cX12_mayBy 16 = .ok (.iload_n 1, 1) := by decide +kernel
theorem dX12_mayBy_17 : decode cX12_mayBy 17 = .ok (.iadd, 1) := by decide +kernel
theorem dX12_mayBy_18 : decode cX12_mayBy 18 = .ok (.iaload, 1) := by decide +kernel
theorem dX12_mayBy_19 : decode cX12_mayBy 19 = .ok (.iload_n 2, 1) := by decide +kernel
theorem dX12_mayBy_20 : decode cX12_mayBy 20 = .ok (.invokevirtual 187, 3) := by decide +kernel
theorem dX12_mayBy_23 : decode cX12_mayBy 23 = .ok (.ireturn, 1) := by decide +kernel
theorem dX12_elder_0 : decode cX12_elder 0 = .ok (.iload_n 1, 1) := by decide +kernel
theorem dX12_elder_1 : decode cX12_elder 1 = .ok (.iconst 0, 1) := by decide +kernel
theorem dX12_elder_2 : decode cX12_elder 2 = .ok (.bipush 9, 2) := by decide +kernel
theorem dX12_elder_4 : decode cX12_elder 4 = .ok (.invokestatic 64, 3) := by decide +kernel
theorem dX12_elder_7 : decode cX12_elder 7 = .ok (.ifCond .ne 9, 3) := by decide +kernel
theorem dX12_elder_10 : decode cX12_elder 10 = .ok (.aload_n 0, 1) := by decide +kernel
theorem dX12_elder_11 : decode cX12_elder 11 = .ok (.iconst 0, 1) := by decide +kernel
theorem dX12_elder_12 : decode cX12_elder 12 = .ok (.invokevirtual 190, 3) := by decide +kernel
theorem dX12_elder_15 : decode cX12_elder 15 = .ok (.ireturn, 1) := by decide +kernel
theorem dX12_elder_16 : decode cX12_elder 16 = .ok (.aload_n 0, 1) := by decide +kernel
theorem dX12_elder_17 : decode cX12_elder 17 = .ok (.getfield 7, 3) := by decide +kernel
theorem dX12_elder_20 : decode cX12_elder 20 = .ok (.iconst 0, 1) := by decide +kernel
theorem dX12_elder_21 : decode cX12_elder 21 = .ok (.iaload, 1) := by decide +kernel
theorem dX12_elder_22 : decode cX12_elder 22 = .ok (.bipush 10, 2) := by decide +kernel
theorem dX12_elder_24 : decode cX12_elder 24 = .ok (.if_icmp .ne 9, 3) := by decide +kernel
theorem dX12_elder_27 : decode cX12_elder 27 = .ok (.aload_n 0, 1) := by decide +kernel
theorem dX12_elder_28 : decode cX12_elder 28 = .ok (.iconst 1, 1) := by decide +kernel
theorem dX12_elder_29 : decode cX12_elder 29 = .ok (.invokevirtual 190, 3) := by decide +kernel
theorem dX12_elder_32 : decode cX12_elder 32 = .ok (.ireturn, 1) := by decide +kernel
theorem dX12_elder_33 : decode cX12_elder 33 = .ok (.aload_n 0, 1) := by decide +kernel
theorem dX12_elder_34 : decode cX12_elder 34 = .ok (.getfield 7, 3) := by decide +kernel
theorem dX12_elder_37 : decode cX12_elder 37 = .ok (.iconst 0, 1) := by decide +kernel
theorem dX12_elder_38 : decode cX12_elder 38 = .ok (.iaload, 1) := by decide +kernel
theorem dX12_elder_39 : decode cX12_elder 39 = .ok (.istore_n 2, 1) := by decide +kernel
theorem dX12_elder_40 : decode cX12_elder 40 = .ok (.aload_n 0, 1) := by decide +kernel
theorem dX12_elder_41 : decode cX12_elder 41 = .ok (.getfield 7, 3) := by decide +kernel
theorem dX12_elder_44 : decode cX12_elder 44 = .ok (.bipush 10, 2) := by decide +kernel
theorem dX12_elder_46 : decode cX12_elder 46 = .ok (.iload_n 2, 1) := by decide +kernel
theorem dX12_elder_47 : decode cX12_elder 47 = .ok (.iadd, 1) := by decide +kernel
theorem dX12_elder_48 : decode cX12_elder 48 = .ok (.iload_n 1, 1) := by decide +kernel
theorem dX12_elder_49 : decode cX12_elder 49 = .ok (.iastore, 1) := by decide +kernel
theorem dX12_elder_50 : decode cX12_elder 50 = .ok (.aload_n 0, 1) := by decide +kernel
theorem dX12_elder_51 : decode cX12_elder 51 = .ok (.getfield 7, 3) := by decide +kernel
theorem dX12_elder_54 : decode cX12_elder 54 = .ok (.bipush 20, 2) := by decide +kernel
theorem dX12_elder_56 : decode cX12_elder 56 = .ok (.iload_n 2, 1) := by decide +kernel
theorem dX12_elder_57 : decode cX12_elder 57 = .ok (.iadd, 1) := by decide +kernel
theorem dX12_elder_58 : decode cX12_elder 58 = .ok (.iconst 0, 1) := by decide +kernel
theorem dX12_elder_59 : decode cX12_elder 59 = .ok (.iastore, 1) := by decide +kernel
theorem dX12_elder_60 : decode cX12_elder 60 = .ok (.aload_n 0, 1) := by decide +kernel
theorem dX12_elder_61 : decode cX12_elder 61 = .ok (.getfield 7, 3) := by decide +kernel
theorem dX12_elder_64 : decode cX12_elder 64 = .ok (.bipush 30, 2) := by decide +kernel
theorem dX12_elder_66 : decode cX12_elder 66 = .ok (.iload_n 2, 1) := by decide +kernel
theorem dX12_elder_67 : decode cX12_elder 67 = .ok (.iadd, 1) := by decide +kernel
theorem dX12_elder_68 : decode cX12_elder 68 = .ok (.iconst 0, 1) := by decide +kernel
theorem dX12_elder_69 : decode cX12_elder 69 = .ok (.iastore, 1) := by decide +kernel
theorem dX12_elder_70 : decode cX12_elder 70 = .ok (.aload_n 0, 1) := by decide +kernel
theorem dX12_elder_71 : decode cX12_elder 71 = .ok (.getfield 7, 3) := by decide +kernel
theorem dX12_elder_74 : decode cX12_elder 74 = .ok (.iconst 0, 1) := by decide +kernel
theorem dX12_elder_75 : decode cX12_elder 75 = .ok (.dup2, 1) := by decide +kernel
theorem dX12_elder_76 : decode cX12_elder 76 = .ok (.iaload, 1) := by decide +kernel
theorem dX12_elder_77 : decode cX12_elder 77 = .ok (.iconst 1, 1) := by decide +kernel
theorem dX12_elder_78 : decode cX12_elder 78 = .ok (.iadd, 1) := by decide +kernel
theorem dX12_elder_79 : decode cX12_elder 79 = .ok (.iastore, 1) := by decide +kernel
theorem dX12_elder_80 : decode cX12_elder 80 = .ok (.iload_n 2, 1) := by decide +kernel
theorem dX12_elder_81 : decode cX12_elder 81 = .ok (.ireturn, 1) := by decide +kernel
theorem dX12_lentTo_0 : decode cX12_lentTo 0 = .ok (.iconst 0, 1) := by decide +kernel
theorem dX12_lentTo_1 : decode cX12_lentTo 1 = .ok (.istore_n 2, 1) := by decide +kernel
theorem dX12_lentTo_2 : decode cX12_lentTo 2 = .ok (.iconst 0, 1) := by decide +kernel
theorem dX12_lentTo_3 : decode cX12_lentTo 3 = .ok (.istore_n 3, 1) := by decide +kernel
theorem dX12_lentTo_4 : decode cX12_lentTo 4 = .ok (.iload_n 3, 1) := by decide +kernel
theorem dX12_lentTo_5 : decode cX12_lentTo 5 = .ok (.aload_n 0, 1) := by decide +kernel
theorem dX12_lentTo_6 : decode cX12_lentTo 6 = .ok (.getfield 7, 3) := by decide +kernel
theorem dX12_lentTo_9 : decode cX12_lentTo 9 = .ok (.iconst 4, 1) := by decide +kernel
theorem dX12_lentTo_10 : decode cX12_lentTo 10 = .ok (.iaload, 1) := by decide +kernel
theorem dX12_lentTo_11 : decode cX12_lentTo 11 = .ok (.if_icmp .ge 33, 3) := by decide +kernel
theorem dX12_lentTo_14 : decode cX12_lentTo 14 = .ok (.iload_n 2, 1) := by decide +kernel
theorem dX12_lentTo_15 : decode cX12_lentTo 15 = .ok (.aload_n 0, 1) := by decide +kernel
theorem dX12_lentTo_16 : decode cX12_lentTo 16 = .ok (.getfield 7, 3) := by decide +kernel
theorem dX12_lentTo_19 : decode cX12_lentTo 19 = .ok (.sipush 200, 3) := by decide +kernel
theorem dX12_lentTo_22 : decode cX12_lentTo 22 = .ok (.iconst 2, 1) := by decide +kernel
theorem dX12_lentTo_23 : decode cX12_lentTo 23 = .ok (.iload_n 3, 1) := by decide +kernel
theorem dX12_lentTo_24 : decode cX12_lentTo 24 = .ok (.imul, 1) := by decide +kernel
theorem dX12_lentTo_25 : decode cX12_lentTo 25 = .ok (.iadd, 1) := by decide +kernel
theorem dX12_lentTo_26 : decode cX12_lentTo 26 = .ok (.iaload, 1) := by decide +kernel
theorem dX12_lentTo_27 : decode cX12_lentTo 27 = .ok (.iload_n 1, 1) := by decide +kernel
theorem dX12_lentTo_28 : decode cX12_lentTo 28 = .ok (.if_icmp .ne 7, 3) := by decide +kernel
theorem dX12_lentTo_31 : decode cX12_lentTo 31 = .ok (.iconst 1, 1) := by decide +kernel
theorem dX12_lentTo_32 : decode cX12_lentTo 32 = .ok (.goto 4, 3) := by decide +kernel
theorem dX12_lentTo_35 : decode cX12_lentTo 35 = .ok (.iconst 0, 1) := by decide +kernel
theorem dX12_lentTo_36 : decode cX12_lentTo 36 = .ok (.iadd, 1) := by decide +kernel
theorem dX12_lentTo_37 : decode cX12_lentTo 37 = .ok (.istore_n 2, 1) := by decide +kernel
theorem dX12_lentTo_38 : decode cX12_lentTo 38 = .ok (.iinc 3 1, 3) := by decide +kernel
theorem dX12_lentTo_41 : decode cX12_lentTo 41 = .ok (.goto (-37), 3) := by decide +kernel
theorem dX12_lentTo_44 : decode cX12_lentTo 44 = .ok (.iload_n 2, 1) := by decide +kernel
theorem dX12_lentTo_45 : decode cX12_lentTo 45 = .ok (.ireturn, 1) := by decide +kernel
theorem dX12_of_0 : decode cX12_of 0 = .ok (.aload_n 0, 1) := by decide +kernel
theorem dX12_of_1 : decode cX12_of 1 = .ok (.iload_n 1, 1) := by decide +kernel
theorem dX12_of_2 : decode cX12_of 2 = .ok (.invokevirtual 193, 3) := by decide +kernel
theorem dX12_of_5 : decode cX12_of 5 = .ok (.ifCond .eq 12, 3) := by decide +kernel
theorem dX12_of_8 : decode cX12_of 8 = .ok (.iload_n 2, 1) := by decide +kernel
theorem dX12_of_9 : decode cX12_of 9 = .ok (.iconst 0, 1) := by decide +kernel
theorem dX12_of_10 : decode cX12_of 10 = .ok (.iconst 4, 1) := by decide +kernel
theorem dX12_of_11 : decode cX12_of 11 = .ok (.invokestatic 64, 3) := by decide +kernel
theorem dX12_of_14 : decode cX12_of 14 = .ok (.ifCond .ne 9, 3) := by decide +kernel
theorem dX12_of_17 : decode cX12_of 17 = .ok (.aload_n 0, 1) := by decide +kernel
theorem dX12_of_18 : decode cX12_of 18 = .ok (.iconst 0, 1) := by decide +kernel
theorem dX12_of_19 : decode cX12_of 19 = .ok (.invokevirtual 190, 3) := by decide +kernel
theorem dX12_of_22 : decode cX12_of 22 = .ok (.ireturn, 1) := by decide +kernel
theorem dX12_of_23 : decode cX12_of 23 = .ok (.iload_n 2, 1) := by decide +kernel
theorem dX12_of_24 : decode cX12_of 24 = .ok (.tableswitch 75 0 3 #[32, 42, 52, 62], 32) := by decide +kernel
theorem dX12_of_56 : decode cX12_of 56 = .ok (.aload_n 0, 1) := by decide +kernel
theorem dX12_of_57 : decode cX12_of 57 = .ok (.getfield 7, 3) := by decide +kernel
theorem dX12_of_60 : decode cX12_of 60 = .ok (.bipush 10, 2) := by decide +kernel
theorem dX12_of_62 : decode cX12_of 62 = .ok (.iload_n 1, 1) := by decide +kernel
theorem dX12_of_63 : decode cX12_of 63 = .ok (.iadd, 1) := by decide +kernel
theorem dX12_of_64 : decode cX12_of 64 = .ok (.iaload, 1) := by decide +kernel
theorem dX12_of_65 : decode cX12_of 65 = .ok (.ireturn, 1) := by decide +kernel
theorem dX12_of_66 : decode cX12_of 66 = .ok (.aload_n 0, 1) := by decide +kernel
theorem dX12_of_67 : decode cX12_of 67 = .ok (.getfield 7, 3) := by decide +kernel
theorem dX12_of_70 : decode cX12_of 70 = .ok (.bipush 20, 2) := by decide +kernel
theorem dX12_of_72 : decode cX12_of 72 = .ok (.iload_n 1, 1) := by decide +kernel
theorem dX12_of_73 : decode cX12_of 73 = .ok (.iadd, 1) := by decide +kernel
theorem dX12_of_74 : decode cX12_of 74 = .ok (.iaload, 1) := by decide +kernel
theorem dX12_of_75 : decode cX12_of 75 = .ok (.ireturn, 1) := by decide +kernel
theorem dX12_of_76 : decode cX12_of 76 = .ok (.aload_n 0, 1) := by decide +kernel
theorem dX12_of_77 : decode cX12_of 77 = .ok (.getfield 7, 3) := by decide +kernel
theorem dX12_of_80 : decode cX12_of 80 = .ok (.bipush 30, 2) := by decide +kernel
theorem dX12_of_82 : decode cX12_of 82 = .ok (.iload_n 1, 1) := by decide +kernel
theorem dX12_of_83 : decode cX12_of 83 = .ok (.iadd, 1) := by decide +kernel
theorem dX12_of_84 : decode cX12_of 84 = .ok (.iaload, 1) := by decide +kernel
theorem dX12_of_85 : decode cX12_of 85 = .ok (.ireturn, 1) := by decide +kernel
theorem dX12_of_86 : decode cX12_of 86 = .ok (.aload_n 0, 1) := by decide +kernel
theorem dX12_of_87 : decode cX12_of 87 = .ok (.getfield 7, 3) := by decide +kernel
theorem dX12_of_90 : decode cX12_of 90 = .ok (.bipush 30, 2) := by decide +kernel
theorem dX12_of_92 : decode cX12_of 92 = .ok (.iload_n 1, 1) := by decide +kernel
theorem dX12_of_93 : decode cX12_of 93 = .ok (.iadd, 1) := by decide +kernel
theorem dX12_of_94 : decode cX12_of 94 = .ok (.iaload, 1) := by decide +kernel
theorem dX12_of_95 : decode cX12_of 95 = .ok (.invokestatic 147, 3) := by decide +kernel
theorem dX12_of_98 : decode cX12_of 98 = .ok (.ireturn, 1) := by decide +kernel
theorem dX12_of_99 : decode cX12_of 99 = .ok (.aload_n 0, 1) := by decide +kernel
theorem dX12_of_100 : decode cX12_of 100 = .ok (.iload_n 1, 1) := by decide +kernel
theorem dX12_of_101 : decode cX12_of 101 = .ok (.invokevirtual 196, 3) := by decide +kernel
theorem dX12_of_104 : decode cX12_of 104 = .ok (.ireturn, 1) := by decide +kernel
theorem dX12_gone_0 : decode cX12_gone 0 = .ok (.aload_n 0, 1) := by decide +kernel
theorem dX12_gone_1 : decode cX12_gone 1 = .ok (.iload_n 1, 1) := by decide +kernel
theorem dX12_gone_2 : decode cX12_gone 2 = .ok (.invokevirtual 193, 3) := by decide +kernel
theorem dX12_gone_5 : decode cX12_gone 5 = .ok (.ifCond .ne 9, 3) := by decide +kernel
theorem dX12_gone_8 : decode cX12_gone 8 = .ok (.aload_n 0, 1) := by decide +kernel
theorem dX12_gone_9 : decode cX12_gone 9 = .ok (.iconst 0, 1) := by decide +kernel
theorem dX12_gone_10 : decode cX12_gone 10 = .ok (.invokevirtual 190, 3) := by decide +kernel
theorem dX12_gone_13 : decode cX12_gone 13 = .ok (.ireturn, 1) := by decide +kernel
theorem dX12_gone_14 : decode cX12_gone 14 = .ok (.aload_n 0, 1) := by decide +kernel
theorem dX12_gone_15 : decode cX12_gone 15 = .ok (.getfield 7, 3) := by decide +kernel
theorem dX12_gone_18 : decode cX12_gone 18 = .ok (.bipush 20, 2) := by decide +kernel
theorem dX12_gone_20 : decode cX12_gone 20 = .ok (.iload_n 1, 1) := by decide +kernel
theorem dX12_gone_21 : decode cX12_gone 21 = .ok (.iadd, 1) := by decide +kernel
theorem dX12_gone_22 : decode cX12_gone 22 = .ok (.iaload, 1) := by decide +kernel
theorem dX12_gone_23 : decode cX12_gone 23 = .ok (.istore_n 3, 1) := by decide +kernel
theorem dX12_gone_24 : decode cX12_gone 24 = .ok (.aload_n 0, 1) := by decide +kernel
theorem dX12_gone_25 : decode cX12_gone 25 = .ok (.getfield 7, 3) := by decide +kernel
theorem dX12_gone_28 : decode cX12_gone 28 = .ok (.bipush 20, 2) := by decide +kernel
theorem dX12_gone_30 : decode cX12_gone 30 = .ok (.iload_n 1, 1) := by decide +kernel
theorem dX12_gone_31 : decode cX12_gone 31 = .ok (.iadd, 1) := by decide +kernel
theorem dX12_gone_32 : decode cX12_gone 32 = .ok (.iload_n 2, 1) := by decide +kernel
theorem dX12_gone_33 : decode cX12_gone 33 = .ok (.ifCond .eq 7, 3) := by decide +kernel
theorem dX12_gone_36 : decode cX12_gone 36 = .ok (.iconst 1, 1) := by decide +kernel
theorem dX12_gone_37 : decode cX12_gone 37 = .ok (.goto 4, 3) := by decide +kernel
theorem dX12_gone_40 : decode cX12_gone 40 = .ok (.iconst 0, 1) := by decide +kernel
theorem dX12_gone_41 : decode cX12_gone 41 = .ok (.iastore, 1) := by decide +kernel
theorem dX12_gone_42 : decode cX12_gone 42 = .ok (.iload_n 3, 1) := by decide +kernel
theorem dX12_gone_43 : decode cX12_gone 43 = .ok (.aload_n 0, 1) := by decide +kernel
theorem dX12_gone_44 : decode cX12_gone 44 = .ok (.getfield 7, 3) := by decide +kernel
theorem dX12_gone_47 : decode cX12_gone 47 = .ok (.bipush 20, 2) := by decide +kernel
theorem dX12_gone_49 : decode cX12_gone 49 = .ok (.iload_n 1, 1) := by decide +kernel
theorem dX12_gone_50 : decode cX12_gone 50 = .ok (.iadd, 1) := by decide +kernel
theorem dX12_gone_51 : decode cX12_gone 51 = .ok (.iaload, 1) := by decide +kernel
theorem dX12_gone_52 : decode cX12_gone 52 = .ok (.if_icmp .ne 7, 3) := by decide +kernel
theorem dX12_gone_55 : decode cX12_gone 55 = .ok (.iconst 0, 1) := by decide +kernel
theorem dX12_gone_56 : decode cX12_gone 56 = .ok (.goto 4, 3) := by decide +kernel
theorem dX12_gone_59 : decode cX12_gone 59 = .ok (.iconst 1, 1) := by decide +kernel
theorem dX12_gone_60 : decode cX12_gone 60 = .ok (.ireturn, 1) := by decide +kernel
theorem dX12_feed_0 : decode cX12_feed 0 = .ok (.iload_n 2, 1) := by decide +kernel
theorem dX12_feed_1 : decode cX12_feed 1 = .ok (.iconst 1, 1) := by decide +kernel
theorem dX12_feed_2 : decode cX12_feed 2 = .ok (.iconst 4, 1) := by decide +kernel
theorem dX12_feed_3 : decode cX12_feed 3 = .ok (.invokestatic 64, 3) := by decide +kernel
theorem dX12_feed_6 : decode cX12_feed 6 = .ok (.ifCond .ne 9, 3) := by decide +kernel
theorem dX12_feed_9 : decode cX12_feed 9 = .ok (.aload_n 0, 1) := by decide +kernel
theorem dX12_feed_10 : decode cX12_feed 10 = .ok (.iconst 0, 1) := by decide +kernel
theorem dX12_feed_11 : decode cX12_feed 11 = .ok (.invokevirtual 190, 3) := by decide +kernel
theorem dX12_feed_14 : decode cX12_feed 14 = .ok (.ireturn, 1) := by decide +kernel
theorem dX12_feed_15 : decode cX12_feed 15 = .ok (.aload_n 0, 1) := by decide +kernel
theorem dX12_feed_16 : decode cX12_feed 16 = .ok (.getfield 199, 3) := by decide +kernel
theorem dX12_feed_19 : decode cX12_feed 19 = .ok (.iload_n 2, 1) := by decide +kernel
theorem dX12_feed_20 : decode cX12_feed 20 = .ok (.iadd, 1) := by decide +kernel
theorem dX12_feed_21 : decode cX12_feed 21 = .ok (.bipush 120, 2) := by decide +kernel
theorem dX12_feed_23 : decode cX12_feed 23 = .ok (.if_icmp .le 9, 3) := by decide +kernel
theorem dX12_feed_26 : decode cX12_feed 26 = .ok (.aload_n 0, 1) := by decide +kernel
theorem dX12_feed_27 : decode cX12_feed 27 = .ok (.iconst 1, 1) := by decide +kernel
theorem dX12_feed_28 : decode cX12_feed 28 = .ok (.invokevirtual 190, 3) := by decide +kernel
theorem dX12_feed_31 : decode cX12_feed 31 = .ok (.ireturn, 1) := by decide +kernel
theorem dX12_feed_32 : decode cX12_feed 32 = .ok (.iload_n 2, 1) := by decide +kernel
theorem dX12_feed_33 : decode cX12_feed 33 = .ok (.iconst 1, 1) := by decide +kernel
theorem dX12_feed_34 : decode cX12_feed 34 = .ok (.isub, 1) := by decide +kernel
theorem dX12_feed_35 : decode cX12_feed 35 = .ok (.istore_n 3, 1) := by decide +kernel
theorem dX12_feed_36 : decode cX12_feed 36 = .ok (.iload_n 3, 1) := by decide +kernel
theorem dX12_feed_37 : decode cX12_feed 37 = .ok (.ifCond .lt 38, 3) := by decide +kernel
theorem dX12_feed_40 : decode cX12_feed 40 = .ok (.aload_n 0, 1) := by decide +kernel
theorem dX12_feed_41 : decode cX12_feed 41 = .ok (.getfield 16, 3) := by decide +kernel
theorem dX12_feed_44 : decode cX12_feed 44 = .ok (.aload_n 0, 1) := by decide +kernel
theorem dX12_feed_45 : decode cX12_feed 45 = .ok (.getfield 199, 3) := by decide +kernel
theorem dX12_feed_48 : decode cX12_feed 48 = .ok (.iload_n 1, 1) := by decide +kernel
theorem dX12_feed_49 : decode cX12_feed 49 = .ok (.bipush 8, 2) := by decide +kernel
theorem dX12_feed_51 : decode cX12_feed 51 = .ok (.iload_n 3, 1) := by decide +kernel
theorem dX12_feed_52 : decode cX12_feed 52 = .ok (.imul, 1) := by decide +kernel
theorem dX12_feed_53 : decode cX12_feed 53 = .ok (.ishr, 1) := by decide +kernel
theorem dX12_feed_54 : decode cX12_feed 54 = .ok (.sipush 255, 3) := by decide +kernel
theorem dX12_feed_57 : decode cX12_feed 57 = .ok (.iand, 1) := by decide +kernel
theorem dX12_feed_58 : decode cX12_feed 58 = .ok (.iastore, 1) := by decide +kernel
theorem dX12_feed_59 : decode cX12_feed 59 = .ok (.aload_n 0, 1) := by decide +kernel
theorem dX12_feed_60 : decode cX12_feed 60 = .ok (.dup, 1) := by decide +kernel
theorem dX12_feed_61 : decode cX12_feed 61 = .ok (.getfield 199, 3) := by decide +kernel
theorem dX12_feed_64 : decode cX12_feed 64 = .ok (.iconst 1, 1) := by decide +kernel
theorem dX12_feed_65 : decode cX12_feed 65 = .ok (.iadd, 1) := by decide +kernel
theorem dX12_feed_66 : decode cX12_feed 66 = .ok (.putfield 199, 3) := by decide +kernel
theorem dX12_feed_69 : decode cX12_feed 69 = .ok (.iinc 3 (-1), 3) := by decide +kernel
theorem dX12_feed_72 : decode cX12_feed 72 = .ok (.goto (-36), 3) := by decide +kernel
theorem dX12_feed_75 : decode cX12_feed 75 = .ok (.aload_n 0, 1) := by decide +kernel
theorem dX12_feed_76 : decode cX12_feed 76 = .ok (.getfield 199, 3) := by decide +kernel
theorem dX12_feed_79 : decode cX12_feed 79 = .ok (.ireturn, 1) := by decide +kernel
theorem dX12_wipe_0 : decode cX12_wipe 0 = .ok (.aload_n 0, 1) := by decide +kernel
theorem dX12_wipe_1 : decode cX12_wipe 1 = .ok (.getfield 199, 3) := by decide +kernel
theorem dX12_wipe_4 : decode cX12_wipe 4 = .ok (.istore_n 1, 1) := by decide +kernel
theorem dX12_wipe_5 : decode cX12_wipe 5 = .ok (.aload_n 0, 1) := by decide +kernel
theorem dX12_wipe_6 : decode cX12_wipe 6 = .ok (.iconst 0, 1) := by decide +kernel
theorem dX12_wipe_7 : decode cX12_wipe 7 = .ok (.putfield 199, 3) := by decide +kernel
theorem dX12_wipe_10 : decode cX12_wipe 10 = .ok (.iload_n 1, 1) := by decide +kernel
theorem dX12_wipe_11 : decode cX12_wipe 11 = .ok (.ireturn, 1) := by decide +kernel
theorem dX12_text_0 : decode cX12_text 0 = .ok (.aload_n 0, 1) := by decide +kernel
theorem dX12_text_1 : decode cX12_text 1 = .ok (.getfield 7, 3) := by decide +kernel
theorem dX12_text_4 : decode cX12_text 4 = .ok (.iconst 1, 1) := by decide +kernel
theorem dX12_text_5 : decode cX12_text 5 = .ok (.iaload, 1) := by decide +kernel
theorem dX12_text_6 : decode cX12_text 6 = .ok (.bipush 8, 2) := by decide +kernel
theorem dX12_text_8 : decode cX12_text 8 = .ok (.if_icmp .ne 9, 3) := by decide +kernel
theorem dX12_text_11 : decode cX12_text 11 = .ok (.aload_n 0, 1) := by decide +kernel
theorem dX12_text_12 : decode cX12_text 12 = .ok (.iconst 1, 1) := by decide +kernel
theorem dX12_text_13 : decode cX12_text 13 = .ok (.invokevirtual 190, 3) := by decide +kernel
theorem dX12_text_16 : decode cX12_text 16 = .ok (.ireturn, 1) := by decide +kernel
theorem dX12_text_17 : decode cX12_text 17 = .ok (.aload_n 0, 1) := by decide +kernel
theorem dX12_text_18 : decode cX12_text 18 = .ok (.iconst 0, 1) := by decide +kernel
theorem dX12_text_19 : decode cX12_text 19 = .ok (.aload_n 0, 1) := by decide +kernel
theorem dX12_text_20 : decode cX12_text 20 = .ok (.getfield 199, 3) := by decide +kernel
theorem dX12_text_23 : decode cX12_text 23 = .ok (.iconst 0, 1) := by decide +kernel
theorem dX12_text_24 : decode cX12_text 24 = .ok (.invokevirtual 187, 3) := by decide +kernel
theorem dX12_text_27 : decode cX12_text 27 = .ok (.istore_n 1, 1) := by decide +kernel
theorem dX12_text_28 : decode cX12_text 28 = .ok (.aload_n 0, 1) := by decide +kernel
theorem dX12_text_29 : decode cX12_text 29 = .ok (.getfield 98, 3) := by decide +kernel
theorem dX12_text_32 : decode cX12_text 32 = .ok (.ifCond .eq 10, 3) := by decide +kernel
theorem dX12_text_35 : decode cX12_text 35 = .ok (.iconst (-1), 1) := by decide +kernel
theorem dX12_text_36 : decode cX12_text 36 = .ok (.aload_n 0, 1) := by decide +kernel
theorem dX12_text_37 : decode cX12_text 37 = .ok (.getfield 82, 3) := by decide +kernel
theorem dX12_text_40 : decode cX12_text 40 = .ok (.isub, 1) := by decide +kernel
theorem dX12_text_41 : decode cX12_text 41 = .ok (.ireturn, 1) := by decide +kernel
theorem dX12_text_42 : decode cX12_text 42 = .ok (.aload_n 0, 1) := by decide +kernel
theorem dX12_text_43 : decode cX12_text 43 = .ok (.getfield 7, 3) := by decide +kernel
theorem dX12_text_46 : decode cX12_text 46 = .ok (.iconst 1, 1) := by decide +kernel
theorem dX12_text_47 : decode cX12_text 47 = .ok (.iaload, 1) := by decide +kernel
theorem dX12_text_48 : decode cX12_text 48 = .ok (.istore_n 2, 1) := by decide +kernel
theorem dX12_text_49 : decode cX12_text 49 = .ok (.aload_n 0, 1) := by decide +kernel
theorem dX12_text_50 : decode cX12_text 50 = .ok (.getfield 7, 3) := by decide +kernel
theorem dX12_text_53 : decode cX12_text 53 = .ok (.sipush 240, 3) := by decide +kernel
theorem dX12_text_56 : decode cX12_text 56 = .ok (.iload_n 2, 1) := by decide +kernel
theorem dX12_text_57 : decode cX12_text 57 = .ok (.iadd, 1) := by decide +kernel
theorem dX12_text_58 : decode cX12_text 58 = .ok (.aload_n 0, 1) := by decide +kernel
theorem dX12_text_59 : decode cX12_text 59 = .ok (.getfield 199, 3) := by decide +kernel
theorem dX12_text_62 : decode cX12_text 62 = .ok (.iastore, 1) := by decide +kernel
theorem dX12_text_63 : decode cX12_text 63 = .ok (.iconst 0, 1) := by decide +kernel
theorem dX12_text_64 : decode cX12_text 64 = .ok (.istore_n 3, 1) := by decide +kernel
theorem dX12_text_65 : decode cX12_text 65 = .ok (.iload_n 3, 1) := by decide +kernel
theorem dX12_text_66 : decode cX12_text 66 = .ok (.aload_n 0, 1) := by decide +kernel
theorem dX12_text_67 : decode cX12_text 67 = .ok (.getfield 199, 3) := by decide +kernel
theorem dX12_text_70 : decode cX12_text 70 = .ok (.if_icmp .ge 30, 3) := by decide +kernel
theorem dX12_text_73 : decode cX12_text 73 = .ok (.aload_n 0, 1) := by decide +kernel
theorem dX12_text_74 : decode cX12_text 74 = .ok (.getfield 7, 3) := by decide +kernel
theorem dX12_text_77 : decode cX12_text 77 = .ok (.sipush 248, 3) := by decide +kernel
theorem dX12_text_80 : decode cX12_text 80 = .ok (.bipush 120, 2) := by decide +kernel
theorem dX12_text_82 : decode cX12_text 82 = .ok (.iload_n 2, 1) := by decide +kernel
theorem dX12_text_83 : decode cX12_text 83 = .ok (.imul, 1) := by decide +kernel
theorem dX12_text_84 : decode cX12_text 84 = .ok (.iadd, 1) := by decide +kernel
theorem dX12_text_85 : decode cX12_text 85 = .ok (.iload_n 3, 1) := by decide +kernel
theorem dX12_text_86 : decode cX12_text 86 = .ok (.iadd, 1) := by decide +kernel
theorem dX12_text_87 : decode cX12_text 87 = .ok (.aload_n 0, 1) := by decide +kernel
theorem dX12_text_88 : decode cX12_text 88 = .ok (.getfield 16, 3) := by decide +kernel
theorem dX12_text_91 : decode cX12_text 91 = .ok (.iload_n 3, 1) := by decide +kernel
theorem dX12_text_92 : decode cX12_text 92 = .ok (.iaload, 1) := by decide +kernel
theorem dX12_text_93 : decode cX12_text 93 = .ok (.iastore, 1) := by decide +kernel
theorem dX12_text_94 : decode cX12_text 94 = .ok (.iinc 3 1, 3) := by decide +kernel
theorem dX12_text_97 : decode cX12_text 97 = .ok (.goto (-32), 3) := by decide +kernel
theorem dX12_text_100 : decode cX12_text 100 = .ok (.aload_n 0, 1) := by decide +kernel
theorem dX12_text_101 : decode cX12_text 101 = .ok (.iconst 0, 1) := by decide +kernel
theorem dX12_text_102 : decode cX12_text 102 = .ok (.putfield 199, 3) := by decide +kernel
theorem dX12_text_105 : decode cX12_text 105 = .ok (.aload_n 0, 1) := by decide +kernel
theorem dX12_text_106 : decode cX12_text 106 = .ok (.getfield 7, 3) := by decide +kernel
theorem dX12_text_109 : decode cX12_text 109 = .ok (.iconst 1, 1) := by decide +kernel
theorem dX12_text_110 : decode cX12_text 110 = .ok (.dup2, 1) := by decide +kernel
theorem dX12_text_111 : decode cX12_text 111 = .ok (.iaload, 1) := by decide +kernel
theorem dX12_text_112 : decode cX12_text 112 = .ok (.iconst 1, 1) := by decide +kernel
theorem dX12_text_113 : decode cX12_text 113 = .ok (.iadd, 1) := by decide +kernel
theorem dX12_text_114 : decode cX12_text 114 = .ok (.iastore, 1) := by decide +kernel
theorem dX12_text_115 : decode cX12_text 115 = .ok (.aload_n 0, 1) := by decide +kernel
theorem dX12_text_116 : decode cX12_text 116 = .ok (.getfield 7, 3) := by decide +kernel
theorem dX12_text_119 : decode cX12_text 119 = .ok (.iconst 2, 1) := by decide +kernel
theorem dX12_text_120 : decode cX12_text 120 = .ok (.iload_n 2, 1) := by decide +kernel
theorem dX12_text_121 : decode cX12_text 121 = .ok (.ifCond .ne 7, 3) := by decide +kernel
theorem dX12_text_124 : decode cX12_text 124 = .ok (.iconst 0, 1) := by decide +kernel
theorem dX12_text_125 : decode cX12_text 125 = .ok (.goto 9, 3) := by decide +kernel
theorem dX12_text_128 : decode cX12_text 128 = .ok (.aload_n 0, 1) := by decide +kernel
theorem dX12_text_129 : decode cX12_text 129 = .ok (.getfield 7, 3) := by decide +kernel
theorem dX12_text_132 : decode cX12_text 132 = .ok (.iconst 2, 1) := by decide +kernel
theorem dX12_text_133 : decode cX12_text 133 = .ok (.iaload, 1) := by decide +kernel
theorem dX12_text_134 : decode cX12_text 134 = .ok (.iastore, 1) := by decide +kernel
theorem dX12_text_135 : decode cX12_text 135 = .ok (.iload_n 2, 1) := by decide +kernel
theorem dX12_text_136 : decode cX12_text 136 = .ok (.ireturn, 1) := by decide +kernel
theorem dX12_use_0 : decode cX12_use 0 = .ok (.iload_n 1, 1) := by decide +kernel
theorem dX12_use_1 : decode cX12_use 1 = .ok (.iconst 0, 1) := by decide +kernel
theorem dX12_use_2 : decode cX12_use 2 = .ok (.aload_n 0, 1) := by decide +kernel
theorem dX12_use_3 : decode cX12_use 3 = .ok (.getfield 7, 3) := by decide +kernel
theorem dX12_use_6 : decode cX12_use 6 = .ok (.iconst 1, 1) := by decide +kernel
theorem dX12_use_7 : decode cX12_use 7 = .ok (.iaload, 1) := by decide +kernel
theorem dX12_use_8 : decode cX12_use 8 = .ok (.iconst 1, 1) := by decide +kernel
theorem dX12_use_9 : decode cX12_use 9 = .ok (.isub, 1) := by decide +kernel
theorem dX12_use_10 : decode cX12_use 10 = .ok (.invokestatic 64, 3) := by decide +kernel
theorem dX12_use_13 : decode cX12_use 13 = .ok (.ifCond .ne 9, 3) := by decide +kernel
theorem dX12_use_16 : decode cX12_use 16 = .ok (.aload_n 0, 1) := by decide +kernel
theorem dX12_use_17 : decode cX12_use 17 = .ok (.iconst 0, 1) := by decide +kernel
theorem dX12_use_18 : decode cX12_use 18 = .ok (.invokevirtual 190, 3) := by decide +kernel
theorem dX12_use_21 : decode cX12_use 21 = .ok (.ireturn, 1) := by decide +kernel
theorem dX12_use_22 : decode cX12_use 22 = .ok (.aload_n 0, 1) := by decide +kernel
theorem dX12_use_23 : decode cX12_use 23 = .ok (.getfield 7, 3) := by decide +kernel
theorem dX12_use_26 : decode cX12_use 26 = .ok (.iconst 2, 1) := by decide +kernel
theorem dX12_use_27 : decode cX12_use 27 = .ok (.iaload, 1) := by decide +kernel
theorem dX12_use_28 : decode cX12_use 28 = .ok (.istore_n 2, 1) := by decide +kernel
theorem dX12_use_29 : decode cX12_use 29 = .ok (.aload_n 0, 1) := by decide +kernel
theorem dX12_use_30 : decode cX12_use 30 = .ok (.getfield 7, 3) := by decide +kernel
theorem dX12_use_33 : decode cX12_use 33 = .ok (.iconst 2, 1) := by decide +kernel
theorem dX12_use_34 : decode cX12_use 34 = .ok (.iload_n 1, 1) := by decide +kernel
theorem dX12_use_35 : decode cX12_use 35 = .ok (.iastore, 1) := by decide +kernel
theorem dX12_use_36 : decode cX12_use 36 = .ok (.iload_n 2, 1) := by decide +kernel
theorem dX12_use_37 : decode cX12_use 37 = .ok (.ireturn, 1) := by decide +kernel
theorem dX12_may_0 : decode cX12_may 0 = .ok (.iload_n 1, 1) := by decide +kernel
theorem dX12_may_1 : decode cX12_may 1 = .ok (.iconst 0, 1) := by decide +kernel
theorem dX12_may_2 : decode cX12_may 2 = .ok (.aload_n 0, 1) := by decide +kernel
theorem dX12_may_3 : decode cX12_may 3 = .ok (.getfield 7, 3) := by decide +kernel
theorem dX12_may_6 : decode cX12_may 6 = .ok (.iconst 1, 1) := by decide +kernel
theorem dX12_may_7 : decode cX12_may 7 = .ok (.iaload, 1) := by decide +kernel
theorem dX12_may_8 : decode cX12_may 8 = .ok (.iconst 1, 1) := by decide +kernel
theorem dX12_may_9 : decode cX12_may 9 = .ok (.isub, 1) := by decide +kernel
theorem dX12_may_10 : decode cX12_may 10 = .ok (.invokestatic 64, 3) := by decide +kernel
theorem dX12_may_13 : decode cX12_may 13 = .ok (.ifCond .eq 11, 3) := by decide +kernel
theorem dX12_may_16 : decode cX12_may 16 = .ok (.aload_n 0, 1) := by decide +kernel
theorem dX12_may_17 : decode cX12_may 17 = .ok (.iload_n 2, 1) := by decide +kernel
theorem dX12_may_18 : decode cX12_may 18 = .ok (.invokevirtual 202, 3) := by decide +kernel
theorem dX12_may_21 : decode cX12_may 21 = .ok (.ifCond .ne 9, 3) := by decide +kernel
theorem dX12_may_24 : decode cX12_may 24 = .ok (.aload_n 0, 1) := by decide +kernel
theorem dX12_may_25 : decode cX12_may 25 = .ok (.iconst 0, 1) := by decide +kernel
theorem dX12_may_26 : decode cX12_may 26 = .ok (.invokevirtual 190, 3) := by decide +kernel
theorem dX12_may_29 : decode cX12_may 29 = .ok (.ireturn, 1) := by decide +kernel
theorem dX12_may_30 : decode cX12_may 30 = .ok (.aload_n 0, 1) := by decide +kernel
theorem dX12_may_31 : decode cX12_may 31 = .ok (.iload_n 1, 1) := by decide +kernel
theorem dX12_may_32 : decode cX12_may 32 = .ok (.iload_n 2, 1) := by decide +kernel
theorem dX12_may_33 : decode cX12_may 33 = .ok (.invokevirtual 205, 3) := by decide +kernel
theorem dX12_may_36 : decode cX12_may 36 = .ok (.ifCond .eq 7, 3) := by decide +kernel
theorem dX12_may_39 : decode cX12_may 39 = .ok (.iconst 1, 1) := by decide +kernel
theorem dX12_may_40 : decode cX12_may 40 = .ok (.goto 4, 3) := by decide +kernel
theorem dX12_may_43 : decode cX12_may 43 = .ok (.iconst 0, 1) := by decide +kernel
theorem dX12_may_44 : decode cX12_may 44 = .ok (.ireturn, 1) := by decide +kernel
theorem dX12_isPart_0 : decode cX12_isPart 0 = .ok (.iload_n 1, 1) := by decide +kernel
theorem dX12_isPart_1 : decode cX12_isPart 1 = .ok (.aload_n 0, 1) := by decide +kernel
theorem dX12_isPart_2 : decode cX12_isPart 2 = .ok (.invokevirtual 181, 3) := by decide +kernel
theorem dX12_isPart_5 : decode cX12_isPart 5 = .ok (.iconst (-1), 1) := by decide +kernel
theorem dX12_isPart_6 : decode cX12_isPart 6 = .ok (.ixor, 1) := by decide +kernel
theorem dX12_isPart_7 : decode cX12_isPart 7 = .ok (.iand, 1) := by decide +kernel
theorem dX12_isPart_8 : decode cX12_isPart 8 = .ok (.ifCond .ne 7, 3) := by decide +kernel
theorem dX12_isPart_11 : decode cX12_isPart 11 = .ok (.iconst 1, 1) := by decide +kernel
theorem dX12_isPart_12 : decode cX12_isPart 12 = .ok (.goto 4, 3) := by decide +kernel
theorem dX12_isPart_15 : decode cX12_isPart 15 = .ok (.iconst 0, 1) := by decide +kernel
theorem dX12_isPart_16 : decode cX12_isPart 16 = .ok (.ireturn, 1) := by decide +kernel
theorem dX12_findMay_0 : decode cX12_findMay 0 = .ok (.aload_n 0, 1) := by decide +kernel
theorem dX12_findMay_1 : decode cX12_findMay 1 = .ok (.invokevirtual 181, 3) := by decide +kernel
theorem dX12_findMay_4 : decode cX12_findMay 4 = .ok (.istore_n 1, 1) := by decide +kernel
theorem dX12_findMay_5 : decode cX12_findMay 5 = .ok (.iconst 0, 1) := by decide +kernel
theorem dX12_findMay_6 : decode cX12_findMay 6 = .ok (.istore_n 2, 1) := by decide +kernel
theorem dX12_findMay_7 : decode cX12_findMay 7 = .ok (.iload_n 2, 1) := by decide +kernel
theorem dX12_findMay_8 : decode cX12_findMay 8 = .ok (.sipush 1024, 3) := by decide +kernel
theorem dX12_findMay_11 : decode cX12_findMay 11 = .ok (.if_icmp .ge 42, 3) := by decide +kernel
theorem dX12_findMay_14 : decode cX12_findMay 14 = .ok (.aload_n 0, 1) := by decide +kernel
theorem dX12_findMay_15 : decode cX12_findMay 15 = .ok (.getfield 22, 3) := by decide +kernel
theorem dX12_findMay_18 : decode cX12_findMay 18 = .ok (.iload_n 2, 1) := by decide +kernel
theorem dX12_findMay_19 : decode cX12_findMay 19 = .ok (.iload_n 2, 1) := by decide +kernel
theorem dX12_findMay_20 : decode cX12_findMay 20 = .ok (.iload_n 1, 1) := by decide +kernel
theorem dX12_findMay_21 : decode cX12_findMay 21 = .ok (.iconst (-1), 1) := by decide +kernel
theorem dX12_findMay_22 : decode cX12_findMay 22 = .ok (.ixor, 1) := by decide +kernel
theorem dX12_findMay_23 : decode cX12_findMay 23 = .ok (.iand, 1) := by decide +kernel
theorem dX12_findMay_24 : decode cX12_findMay 24 = .ok (.ifCond .ne 21, 3) := by decide +kernel
theorem dX12_findMay_27 : decode cX12_findMay 27 = .ok (.aload_n 0, 1) := by decide +kernel
theorem dX12_findMay_28 : decode cX12_findMay 28 = .ok (.aload_n 0, 1) := by decide +kernel
theorem dX12_findMay_29 : decode cX12_findMay 29 = .ok (.getfield 7, 3) := by decide +kernel
theorem dX12_findMay_32 : decode cX12_findMay 32 = .ok (.iconst 2, 1) := by decide +kernel
theorem dX12_findMay_33 : decode cX12_findMay 33 = .ok (.iaload, 1) := by decide +kernel
theorem dX12_findMay_34 : decode cX12_findMay 34 = .ok (.iload_n 2, 1) := by decide +kernel
theorem dX12_findMay_35 : decode cX12_findMay 35 = .ok (.invokevirtual 205, 3) := by decide +kernel
theorem dX12_findMay_38 : decode cX12_findMay 38 = .ok (.ifCond .eq 7, 3) := by decide +kernel
theorem dX12_findMay_41 : decode cX12_findMay 41 = .ok (.iconst 1, 1) := by decide +kernel
theorem dX12_findMay_42 : decode cX12_findMay 42 = .ok (.goto 4, 3) := by decide +kernel
theorem dX12_findMay_45 : decode cX12_findMay 45 = .ok (.iconst 0, 1) := by decide +kernel
theorem dX12_findMay_46 : decode cX12_findMay 46 = .ok (.bastore, 1) := by decide +kernel
theorem dX12_findMay_47 : decode cX12_findMay 47 = .ok (.iinc 2 1, 3) := by decide +kernel
theorem dX12_findMay_50 : decode cX12_findMay 50 = .ok (.goto (-43), 3) := by decide +kernel
theorem dX12_findMay_53 : decode cX12_findMay 53 = .ok (.return_, 1) := by decide +kernel
theorem dX12_loses_0 : decode cX12_loses 0 = .ok (.iconst 0, 1) := by decide +kernel
theorem dX12_loses_1 : decode cX12_loses 1 = .ok (.istore_n 3, 1) := by decide +kernel
theorem dX12_loses_2 : decode cX12_loses 2 = .ok (.iload_n 3, 1) := by decide +kernel
theorem dX12_loses_3 : decode cX12_loses 3 = .ok (.bipush 10, 2) := by decide +kernel
theorem dX12_loses_5 : decode cX12_loses 5 = .ok (.if_icmp .ge 50, 3) := by decide +kernel
theorem dX12_loses_8 : decode cX12_loses 8 = .ok (.iload_n 2, 1) := by decide +kernel
theorem dX12_loses_9 : decode cX12_loses 9 = .ok (.iload_n 3, 1) := by decide +kernel
theorem dX12_loses_10 : decode cX12_loses 10 = .ok (.ishr, 1) := by decide +kernel
theorem dX12_loses_11 : decode cX12_loses 11 = .ok (.iconst 1, 1) := by decide +kernel
theorem dX12_loses_12 : decode cX12_loses 12 = .ok (.iand, 1) := by decide +kernel
theorem dX12_loses_13 : decode cX12_loses 13 = .ok (.iconst 1, 1) := by decide +kernel
theorem dX12_loses_14 : decode cX12_loses 14 = .ok (.if_icmp .ne 35, 3) := by decide +kernel
theorem dX12_loses_17 : decode cX12_loses 17 = .ok (.iload_n 1, 1) := by decide +kernel
theorem dX12_loses_18 : decode cX12_loses 18 = .ok (.iload_n 3, 1) := by decide +kernel
theorem dX12_loses_19 : decode cX12_loses 19 = .ok (.ishr, 1) := by decide +kernel
theorem dX12_loses_20 : decode cX12_loses 20 = .ok (.iconst 1, 1) := by decide +kernel
theorem dX12_loses_21 : decode cX12_loses 21 = .ok (.iand, 1) := by decide +kernel
theorem dX12_loses_22 : decode cX12_loses 22 = .ok (.ifCond .ne 27, 3) := by decide +kernel
theorem dX12_loses_25 : decode cX12_loses 25 = .ok (.aload_n 0, 1) := by decide +kernel
theorem dX12_loses_26 : decode cX12_loses 26 = .ok (.getfield 22, 3) := by decide +kernel
theorem dX12_loses_29 : decode cX12_loses 29 = .ok (.iload_n 1, 1) := by decide +kernel
theorem dX12_loses_30 : decode cX12_loses 30 = .ok (.baload, 1) := by decide +kernel
theorem dX12_loses_31 : decode cX12_loses 31 = .ok (.ifCond .eq 18, 3) := by decide +kernel
theorem dX12_loses_34 : decode cX12_loses 34 = .ok (.aload_n 0, 1) := by decide +kernel
theorem dX12_loses_35 : decode cX12_loses 35 = .ok (.getfield 22, 3) := by decide +kernel
theorem dX12_loses_38 : decode cX12_loses 38 = .ok (.iload_n 1, 1) := by decide +kernel
theorem dX12_loses_39 : decode cX12_loses 39 = .ok (.iconst 1, 1) := by decide +kernel
theorem dX12_loses_40 : decode cX12_loses 40 = .ok (.iload_n 3, 1) := by decide +kernel
theorem dX12_loses_41 : decode cX12_loses 41 = .ok (.ishl, 1) := by decide +kernel
theorem dX12_loses_42 : decode cX12_loses 42 = .ok (.ior, 1) := by decide +kernel
theorem dX12_loses_43 : decode cX12_loses 43 = .ok (.baload, 1) := by decide +kernel
theorem dX12_loses_44 : decode cX12_loses 44 = .ok (.ifCond .ne 5, 3) := by decide +kernel
theorem dX12_loses_47 : decode cX12_loses 47 = .ok (.iload_n 3, 1) := by decide +kernel
theorem dX12_loses_48 : decode cX12_loses 48 = .ok (.ireturn, 1) := by decide +kernel
theorem dX12_loses_49 : decode cX12_loses 49 = .ok (.iinc 3 1, 3) := by decide +kernel
theorem dX12_loses_52 : decode cX12_loses 52 = .ok (.goto (-50), 3) := by decide +kernel
theorem dX12_loses_55 : decode cX12_loses 55 = .ok (.iconst (-1), 1) := by decide +kernel
theorem dX12_loses_56 : decode cX12_loses 56 = .ok (.ireturn, 1) := by decide +kernel
theorem dX12_firstThatLoses_0 : decode cX12_firstThatLoses 0 = .ok (.aload_n 0, 1) := by decide +kernel
theorem dX12_firstThatLoses_1 : decode cX12_firstThatLoses 1 = .ok (.invokevirtual 181, 3) := by decide +kernel
theorem dX12_firstThatLoses_4 : decode cX12_firstThatLoses 4 = .ok (.istore_n 1, 1) := by decide +kernel
theorem dX12_firstThatLoses_5 : decode cX12_firstThatLoses 5 = .ok (.iconst 0, 1) := by decide +kernel
theorem dX12_firstThatLoses_6 : decode cX12_firstThatLoses 6 = .ok (.istore_n 2, 1) := by decide +kernel
theorem dX12_firstThatLoses_7 : decode cX12_firstThatLoses 7 = .ok (.iload_n 2, 1) := by decide +kernel
theorem dX12_firstThatLoses_8 : decode cX12_firstThatLoses 8 = .ok (.sipush 1024, 3) := by decide +kernel
theorem dX12_firstThatLoses_11 : decode cX12_firstThatLoses 11 = .ok (.if_icmp .ge 28, 3) := by decide +kernel
theorem dX12_firstThatLoses_14 : decode cX12_firstThatLoses 14 = .ok (.iload_n 2, 1) := by decide +kernel
theorem dX12_firstThatLoses_15 : decode cX12_firstThatLoses 15 = .ok (.iload_n 1, 1) := by decide +kernel
theorem dX12_firstThatLoses_16 : decode cX12_firstThatLoses 16 = .ok (.iconst (-1), 1) := by decide +kernel
theorem dX12_firstThatLoses_17 : decode cX12_firstThatLoses 17 = .ok (.ixor, 1) := by decide +kernel
theorem dX12_firstThatLoses_18 : decode cX12_firstThatLoses 18 = .ok (.iand, 1) := by decide +kernel
theorem dX12_firstThatLoses_19 : decode cX12_firstThatLoses 19 = .ok (.ifCond .ne 14, 3) := by decide +kernel
theorem dX12_firstThatLoses_22 : decode cX12_firstThatLoses 22 = .ok (.aload_n 0, 1) := by decide +kernel
theorem dX12_firstThatLoses_23 : decode cX12_firstThatLoses 23 = .ok (.iload_n 2, 1) := by decide +kernel
theorem dX12_firstThatLoses_24 : decode cX12_firstThatLoses 24 = .ok (.iload_n 1, 1) := by decide +kernel
theorem dX12_firstThatLoses_25 : decode cX12_firstThatLoses 25 = .ok (.invokevirtual 209, 3) := by decide +kernel
theorem dX12_firstThatLoses_28 : decode cX12_firstThatLoses 28 = .ok (.ifCond .lt 5, 3) := by decide +kernel
theorem dX12_firstThatLoses_31 : decode cX12_firstThatLoses 31 = .ok (.iload_n 2, 1) := by decide +kernel
theorem dX12_firstThatLoses_32 : decode cX12_firstThatLoses 32 = .ok (.ireturn, 1) := by decide +kernel
theorem dX12_firstThatLoses_33 : decode cX12_firstThatLoses 33 = .ok (.iinc 2 1, 3) := by decide +kernel
theorem dX12_firstThatLoses_36 : decode cX12_firstThatLoses 36 = .ok (.goto (-29), 3) := by decide +kernel
theorem dX12_firstThatLoses_39 : decode cX12_firstThatLoses 39 = .ok (.iconst (-1), 1) := by decide +kernel
theorem dX12_firstThatLoses_40 : decode cX12_firstThatLoses 40 = .ok (.ireturn, 1) := by decide +kernel
theorem dX12_more_0 : decode cX12_more 0 = .ok (.aload_n 0, 1) := by decide +kernel
theorem dX12_more_1 : decode cX12_more 1 = .ok (.getfield 7, 3) := by decide +kernel
theorem dX12_more_4 : decode cX12_more 4 = .ok (.iconst 2, 1) := by decide +kernel
theorem dX12_more_5 : decode cX12_more 5 = .ok (.iaload, 1) := by decide +kernel
theorem dX12_more_6 : decode cX12_more 6 = .ok (.ifCond .ge 9, 3) := by decide +kernel
theorem dX12_more_9 : decode cX12_more 9 = .ok (.aload_n 0, 1) := by decide +kernel
theorem dX12_more_10 : decode cX12_more 10 = .ok (.iconst 4, 1) := by decide +kernel
theorem dX12_more_11 : decode cX12_more 11 = .ok (.invokevirtual 190, 3) := by decide +kernel
theorem dX12_more_14 : decode cX12_more 14 = .ok (.ireturn, 1) := by decide +kernel
theorem dX12_more_15 : decode cX12_more 15 = .ok (.aload_n 0, 1) := by decide +kernel
theorem dX12_more_16 : decode cX12_more 16 = .ok (.invokevirtual 213, 3) := by decide +kernel
theorem dX12_more_19 : decode cX12_more 19 = .ok (.aload_n 0, 1) := by decide +kernel
theorem dX12_more_20 : decode cX12_more 20 = .ok (.invokevirtual 216, 3) := by decide +kernel
theorem dX12_more_23 : decode cX12_more 23 = .ok (.istore_n 1, 1) := by decide +kernel
theorem dX12_more_24 : decode cX12_more 24 = .ok (.iload_n 1, 1) := by decide +kernel
theorem dX12_more_25 : decode cX12_more 25 = .ok (.ifCond .ge 11, 3) := by decide +kernel
theorem dX12_more_28 : decode cX12_more 28 = .ok (.aload_n 0, 1) := by decide +kernel
theorem dX12_more_29 : decode cX12_more 29 = .ok (.iconst 3, 1) := by decide +kernel
theorem dX12_more_30 : decode cX12_more 30 = .ok (.invokevirtual 190, 3) := by decide +kernel
theorem dX12_more_33 : decode cX12_more 33 = .ok (.goto 17, 3) := by decide +kernel
theorem dX12_more_36 : decode cX12_more 36 = .ok (.bipush 16, 2) := by decide +kernel
theorem dX12_more_38 : decode cX12_more 38 = .ok (.iload_n 1, 1) := by decide +kernel
theorem dX12_more_39 : decode cX12_more 39 = .ok (.imul, 1) := by decide +kernel
theorem dX12_more_40 : decode cX12_more 40 = .ok (.aload_n 0, 1) := by decide +kernel
theorem dX12_more_41 : decode cX12_more 41 = .ok (.iload_n 1, 1) := by decide +kernel
theorem dX12_more_42 : decode cX12_more 42 = .ok (.aload_n 0, 1) := by decide +kernel
theorem dX12_more_43 : decode cX12_more 43 = .ok (.invokevirtual 181, 3) := by decide +kernel
theorem dX12_more_46 : decode cX12_more 46 = .ok (.invokevirtual 209, 3) := by decide +kernel
theorem dX12_more_49 : decode cX12_more 49 = .ok (.iadd, 1) := by decide +kernel
theorem dX12_more_50 : decode cX12_more 50 = .ok (.ireturn, 1) := by decide +kernel
theorem dX12_isLeast_0 : decode cX12_isLeast 0 = .ok (.aload_n 0, 1) := by decide +kernel
theorem dX12_isLeast_1 : decode cX12_isLeast 1 = .ok (.getfield 22, 3) := by decide +kernel
theorem dX12_isLeast_4 : decode cX12_isLeast 4 = .ok (.iload_n 1, 1) := by decide +kernel
theorem dX12_isLeast_5 : decode cX12_isLeast 5 = .ok (.baload, 1) := by decide +kernel
theorem dX12_isLeast_6 : decode cX12_isLeast 6 = .ok (.istore_n 2, 1) := by decide +kernel
theorem dX12_isLeast_7 : decode cX12_isLeast 7 = .ok (.iload_n 1, 1) := by decide +kernel
theorem dX12_isLeast_8 : decode cX12_isLeast 8 = .ok (.iconst 1, 1) := by decide +kernel
theorem dX12_isLeast_9 : decode cX12_isLeast 9 = .ok (.isub, 1) := by decide +kernel
theorem dX12_isLeast_10 : decode cX12_isLeast 10 = .ok (.iload_n 1, 1) := by decide +kernel
theorem dX12_isLeast_11 : decode cX12_isLeast 11 = .ok (.iand, 1) := by decide +kernel
theorem dX12_isLeast_12 : decode cX12_isLeast 12 = .ok (.istore_n 3, 1) := by decide +kernel
theorem dX12_isLeast_13 : decode cX12_isLeast 13 = .ok (.iload_n 2, 1) := by decide +kernel
theorem dX12_isLeast_14 : decode cX12_isLeast 14 = .ok (.ifCond .eq 38, 3) := by decide +kernel
theorem dX12_isLeast_17 : decode cX12_isLeast 17 = .ok (.iload_n 3, 1) := by decide +kernel
theorem dX12_isLeast_18 : decode cX12_isLeast 18 = .ok (.iload_n 1, 1) := by decide +kernel
theorem dX12_isLeast_19 : decode cX12_isLeast 19 = .ok (.if_icmp .eq 33, 3) := by decide +kernel
theorem dX12_isLeast_22 : decode cX12_isLeast 22 = .ok (.aload_n 0, 1) := by decide +kernel
theorem dX12_isLeast_23 : decode cX12_isLeast 23 = .ok (.getfield 22, 3) := by decide +kernel
theorem dX12_isLeast_26 : decode cX12_isLeast 26 = .ok (.iload_n 3, 1) := by decide +kernel
theorem dX12_isLeast_27 : decode cX12_isLeast 27 = .ok (.baload, 1) := by decide +kernel
theorem dX12_isLeast_28 : decode cX12_isLeast 28 = .ok (.ifCond .ne 7, 3) := by decide +kernel
theorem dX12_isLeast_31 : decode cX12_isLeast 31 = .ok (.iconst 1, 1) := by decide +kernel
theorem dX12_isLeast_32 : decode cX12_isLeast 32 = .ok (.goto 4, 3) := by decide +kernel
theorem dX12_isLeast_35 : decode cX12_isLeast 35 = .ok (.iconst 0, 1) := by decide +kernel
theorem dX12_isLeast_36 : decode cX12_isLeast 36 = .ok (.istore_n 2, 1) := by decide +kernel
theorem dX12_isLeast_37 : decode cX12_isLeast 37 = .ok (.iload_n 3, 1) := by decide +kernel
theorem dX12_isLeast_38 : decode cX12_isLeast 38 = .ok (.ifCond .ne 5, 3) := by decide +kernel
theorem dX12_isLeast_41 : decode cX12_isLeast 41 = .ok (.iload_n 2, 1) := by decide +kernel
theorem dX12_isLeast_42 : decode cX12_isLeast 42 = .ok (.ireturn, 1) := by decide +kernel
theorem dX12_isLeast_43 : decode cX12_isLeast 43 = .ok (.iload_n 3, 1) := by decide +kernel
theorem dX12_isLeast_44 : decode cX12_isLeast 44 = .ok (.iconst 1, 1) := by decide +kernel
theorem dX12_isLeast_45 : decode cX12_isLeast 45 = .ok (.isub, 1) := by decide +kernel
theorem dX12_isLeast_46 : decode cX12_isLeast 46 = .ok (.iload_n 1, 1) := by decide +kernel
theorem dX12_isLeast_47 : decode cX12_isLeast 47 = .ok (.iand, 1) := by decide +kernel
theorem dX12_isLeast_48 : decode cX12_isLeast 48 = .ok (.istore_n 3, 1) := by decide +kernel
theorem dX12_isLeast_49 : decode cX12_isLeast 49 = .ok (.goto (-36), 3) := by decide +kernel
theorem dX12_isLeast_52 : decode cX12_isLeast 52 = .ok (.iload_n 2, 1) := by decide +kernel
theorem dX12_isLeast_53 : decode cX12_isLeast 53 = .ok (.ireturn, 1) := by decide +kernel
theorem dX12_isMost_0 : decode cX12_isMost 0 = .ok (.aload_n 0, 1) := by decide +kernel
theorem dX12_isMost_1 : decode cX12_isMost 1 = .ok (.getfield 22, 3) := by decide +kernel
theorem dX12_isMost_4 : decode cX12_isMost 4 = .ok (.iload_n 1, 1) := by decide +kernel
theorem dX12_isMost_5 : decode cX12_isMost 5 = .ok (.baload, 1) := by decide +kernel
theorem dX12_isMost_6 : decode cX12_isMost 6 = .ok (.ifCond .ne 7, 3) := by decide +kernel
theorem dX12_isMost_9 : decode cX12_isMost 9 = .ok (.iconst 1, 1) := by decide +kernel
theorem dX12_isMost_10 : decode cX12_isMost 10 = .ok (.goto 4, 3) := by decide +kernel
theorem dX12_isMost_13 : decode cX12_isMost 13 = .ok (.iconst 0, 1) := by decide +kernel
theorem dX12_isMost_14 : decode cX12_isMost 14 = .ok (.istore_n 3, 1) := by decide +kernel
theorem dX12_isMost_15 : decode cX12_isMost 15 = .ok (.iload_n 2, 1) := by decide +kernel
theorem dX12_isMost_16 : decode cX12_isMost 16 = .ok (.iload_n 1, 1) := by decide +kernel
theorem dX12_isMost_17 : decode cX12_isMost 17 = .ok (.iconst (-1), 1) := by decide +kernel
theorem dX12_isMost_18 : decode cX12_isMost 18 = .ok (.ixor, 1) := by decide +kernel
theorem dX12_isMost_19 : decode cX12_isMost 19 = .ok (.iand, 1) := by decide +kernel
theorem dX12_isMost_20 : decode cX12_isMost 20 = .ok (.istore 4, 2) := by decide +kernel
theorem dX12_isMost_22 : decode cX12_isMost 22 = .ok (.iload 4, 2) := by decide +kernel
theorem dX12_isMost_24 : decode cX12_isMost 24 = .ok (.istore 5, 2) := by decide +kernel
theorem dX12_isMost_26 : decode cX12_isMost 26 = .ok (.iload_n 3, 1) := by decide +kernel
theorem dX12_isMost_27 : decode cX12_isMost 27 = .ok (.ifCond .eq 30, 3) := by decide +kernel
theorem dX12_isMost_30 : decode cX12_isMost 30 = .ok (.iload 5, 2) := by decide +kernel
theorem dX12_isMost_32 : decode cX12_isMost 32 = .ok (.ifCond .le 25, 3) := by decide +kernel
theorem dX12_isMost_35 : decode cX12_isMost 35 = .ok (.aload_n 0, 1) := by decide +kernel
theorem dX12_isMost_36 : decode cX12_isMost 36 = .ok (.getfield 22, 3) := by decide +kernel
theorem dX12_isMost_39 : decode cX12_isMost 39 = .ok (.iload_n 1, 1) := by decide +kernel
theorem dX12_isMost_40 : decode cX12_isMost 40 = .ok (.iload 5, 2) := by decide +kernel
theorem dX12_isMost_42 : decode cX12_isMost 42 = .ok (.ior, 1) := by decide +kernel
theorem dX12_isMost_43 : decode cX12_isMost 43 = .ok (.baload, 1) := by decide +kernel
theorem dX12_isMost_44 : decode cX12_isMost 44 = .ok (.istore_n 3, 1) := by decide +kernel
theorem dX12_isMost_45 : decode cX12_isMost 45 = .ok (.iload 5, 2) := by decide +kernel
theorem dX12_isMost_47 : decode cX12_isMost 47 = .ok (.iconst 1, 1) := by decide +kernel
theorem dX12_isMost_48 : decode cX12_isMost 48 = .ok (.isub, 1) := by decide +kernel
theorem dX12_isMost_49 : decode cX12_isMost 49 = .ok (.iload 4, 2) := by decide +kernel
theorem dX12_isMost_51 : decode cX12_isMost 51 = .ok (.iand, 1) := by decide +kernel
theorem dX12_isMost_52 : decode cX12_isMost 52 = .ok (.istore 5, 2) := by decide +kernel
theorem dX12_isMost_54 : decode cX12_isMost 54 = .ok (.goto (-28), 3) := by decide +kernel
theorem dX12_isMost_57 : decode cX12_isMost 57 = .ok (.iload_n 3, 1) := by decide +kernel
theorem dX12_isMost_58 : decode cX12_isMost 58 = .ok (.ireturn, 1) := by decide +kernel
theorem dX12_find_0 : decode cX12_find 0 = .ok (.aload_n 0, 1) := by decide +kernel
theorem dX12_find_1 : decode cX12_find 1 = .ok (.invokevirtual 181, 3) := by decide +kernel
theorem dX12_find_4 : decode cX12_find 4 = .ok (.istore_n 3, 1) := by decide +kernel
theorem dX12_find_5 : decode cX12_find 5 = .ok (.iconst 0, 1) := by decide +kernel
theorem dX12_find_6 : decode cX12_find 6 = .ok (.istore 4, 2) := by decide +kernel
theorem dX12_find_8 : decode cX12_find 8 = .ok (.iconst 0, 1) := by decide +kernel
theorem dX12_find_9 : decode cX12_find 9 = .ok (.istore 5, 2) := by decide +kernel
theorem dX12_find_11 : decode cX12_find 11 = .ok (.iload 5, 2) := by decide +kernel
theorem dX12_find_13 : decode cX12_find 13 = .ok (.sipush 1024, 3) := by decide +kernel
theorem dX12_find_16 : decode cX12_find 16 = .ok (.if_icmp .ge 56, 3) := by decide +kernel
theorem dX12_find_19 : decode cX12_find 19 = .ok (.iload 5, 2) := by decide +kernel
theorem dX12_find_21 : decode cX12_find 21 = .ok (.iload_n 3, 1) := by decide +kernel
theorem dX12_find_22 : decode cX12_find 22 = .ok (.iconst (-1), 1) := by decide +kernel
theorem dX12_find_23 : decode cX12_find 23 = .ok (.ixor, 1) := by decide +kernel
theorem dX12_find_24 : decode cX12_find 24 = .ok (.iand, 1) := by decide +kernel
theorem dX12_find_25 : decode cX12_find 25 = .ok (.ifCond .ne 41, 3) := by decide +kernel
theorem dX12_find_28 : decode cX12_find 28 = .ok (.iload_n 1, 1) := by decide +kernel
theorem dX12_find_29 : decode cX12_find 29 = .ok (.ifCond .eq 16, 3) := by decide +kernel
theorem dX12_find_32 : decode cX12_find 32 = .ok (.aload_n 0, 1) := by decide +kernel
theorem dX12_find_33 : decode cX12_find 33 = .ok (.iload 5, 2) := by decide +kernel
theorem dX12_find_35 : decode cX12_find 35 = .ok (.iload_n 3, 1) := by decide +kernel
theorem dX12_find_36 : decode cX12_find 36 = .ok (.invokevirtual 219, 3) := by decide +kernel
theorem dX12_find_39 : decode cX12_find 39 = .ok (.ifCond .eq 27, 3) := by decide +kernel
theorem dX12_find_42 : decode cX12_find 42 = .ok (.goto 12, 3) := by decide +kernel
theorem dX12_find_45 : decode cX12_find 45 = .ok (.aload_n 0, 1) := by decide +kernel
theorem dX12_find_46 : decode cX12_find 46 = .ok (.iload 5, 2) := by decide +kernel
theorem dX12_find_48 : decode cX12_find 48 = .ok (.invokevirtual 222, 3) := by decide +kernel
theorem dX12_find_51 : decode cX12_find 51 = .ok (.ifCond .eq 15, 3) := by decide +kernel
theorem dX12_find_54 : decode cX12_find 54 = .ok (.iload 4, 2) := by decide +kernel
theorem dX12_find_56 : decode cX12_find 56 = .ok (.iload_n 2, 1) := by decide +kernel
theorem dX12_find_57 : decode cX12_find 57 = .ok (.if_icmp .ne 6, 3) := by decide +kernel
theorem dX12_find_60 : decode cX12_find 60 = .ok (.iload 5, 2) := by decide +kernel
theorem dX12_find_62 : decode cX12_find 62 = .ok (.ireturn, 1) := by decide +kernel
theorem dX12_find_63 : decode cX12_find 63 = .ok (.iinc 4 1, 3) := by decide +kernel
theorem dX12_find_66 : decode cX12_find 66 = .ok (.iinc 5 1, 3) := by decide +kernel
theorem dX12_find_69 : decode cX12_find 69 = .ok (.goto (-58), 3) := by decide +kernel
theorem dX12_find_72 : decode cX12_find 72 = .ok (.iload_n 2, 1) := by decide +kernel
theorem dX12_find_73 : decode cX12_find 73 = .ok (.iconst (-1), 1) := by decide +kernel
theorem dX12_find_74 : decode cX12_find 74 = .ok (.if_icmp .ne 8, 3) := by decide +kernel
theorem dX12_find_77 : decode cX12_find 77 = .ok (.iload 4, 2) := by decide +kernel
theorem dX12_find_79 : decode cX12_find 79 = .ok (.goto 5, 3) := by decide +kernel
theorem dX12_find_82 : decode cX12_find 82 = .ok (.bipush (-2), 2) := by decide +kernel
theorem dX12_find_84 : decode cX12_find 84 = .ok (.ireturn, 1) := by decide +kernel
theorem dX12_told_0 : decode cX12_told 0 = .ok (.aload_n 0, 1) := by decide +kernel
theorem dX12_told_1 : decode cX12_told 1 = .ok (.iload_n 1, 1) := by decide +kernel
theorem dX12_told_2 : decode cX12_told 2 = .ok (.iload_n 2, 1) := by decide +kernel
theorem dX12_told_3 : decode cX12_told 3 = .ok (.invokevirtual 225, 3) := by decide +kernel
theorem dX12_told_6 : decode cX12_told 6 = .ok (.istore_n 3, 1) := by decide +kernel
theorem dX12_told_7 : decode cX12_told 7 = .ok (.iload_n 3, 1) := by decide +kernel
theorem dX12_told_8 : decode cX12_told 8 = .ok (.bipush (-2), 2) := by decide +kernel
theorem dX12_told_10 : decode cX12_told 10 = .ok (.if_icmp .ne 11, 3) := by decide +kernel
theorem dX12_told_13 : decode cX12_told 13 = .ok (.aload_n 0, 1) := by decide +kernel
theorem dX12_told_14 : decode cX12_told 14 = .ok (.iconst 3, 1) := by decide +kernel
theorem dX12_told_15 : decode cX12_told 15 = .ok (.invokevirtual 190, 3) := by decide +kernel
theorem dX12_told_18 : decode cX12_told 18 = .ok (.goto 4, 3) := by decide +kernel
theorem dX12_told_21 : decode cX12_told 21 = .ok (.iload_n 3, 1) := by decide +kernel
theorem dX12_told_22 : decode cX12_told 22 = .ok (.ireturn, 1) := by decide +kernel
theorem dX12_byText_0 : decode cX12_byText 0 = .ok (.aload_n 0, 1) := by decide +kernel
theorem dX12_byText_1 : decode cX12_byText 1 = .ok (.getfield 7, 3) := by decide +kernel
theorem dX12_byText_4 : decode cX12_byText 4 = .ok (.iconst 2, 1) := by decide +kernel
theorem dX12_byText_5 : decode cX12_byText 5 = .ok (.iaload, 1) := by decide +kernel
theorem dX12_byText_6 : decode cX12_byText 6 = .ok (.ifCond .ge 9, 3) := by decide +kernel
theorem dX12_byText_9 : decode cX12_byText 9 = .ok (.aload_n 0, 1) := by decide +kernel
theorem dX12_byText_10 : decode cX12_byText 10 = .ok (.iconst 4, 1) := by decide +kernel
theorem dX12_byText_11 : decode cX12_byText 11 = .ok (.invokevirtual 190, 3) := by decide +kernel
theorem dX12_byText_14 : decode cX12_byText 14 = .ok (.ireturn, 1) := by decide +kernel
theorem dX12_byText_15 : decode cX12_byText 15 = .ok (.iload_n 2, 1) := by decide +kernel
theorem dX12_byText_16 : decode cX12_byText 16 = .ok (.iconst (-1), 1) := by decide +kernel
theorem dX12_byText_17 : decode cX12_byText 17 = .ok (.if_icmp .ge 9, 3) := by decide +kernel
theorem dX12_byText_20 : decode cX12_byText 20 = .ok (.aload_n 0, 1) := by decide +kernel
theorem dX12_byText_21 : decode cX12_byText 21 = .ok (.iconst 0, 1) := by decide +kernel
theorem dX12_byText_22 : decode cX12_byText 22 = .ok (.invokevirtual 190, 3) := by decide +kernel
theorem dX12_byText_25 : decode cX12_byText 25 = .ok (.ireturn, 1) := by decide +kernel
theorem dX12_byText_26 : decode cX12_byText 26 = .ok (.aload_n 0, 1) := by decide +kernel
theorem dX12_byText_27 : decode cX12_byText 27 = .ok (.invokevirtual 213, 3) := by decide +kernel
theorem dX12_byText_30 : decode cX12_byText 30 = .ok (.aload_n 0, 1) := by decide +kernel
theorem dX12_byText_31 : decode cX12_byText 31 = .ok (.iload_n 1, 1) := by decide +kernel
theorem dX12_byText_32 : decode cX12_byText 32 = .ok (.iload_n 2, 1) := by decide +kernel
theorem dX12_byText_33 : decode cX12_byText 33 = .ok (.invokevirtual 229, 3) := by decide +kernel
theorem dX12_byText_36 : decode cX12_byText 36 = .ok (.ireturn, 1) := by decide +kernel
theorem dX12_least_0 : decode cX12_least 0 = .ok (.aload_n 0, 1) := by decide +kernel
theorem dX12_least_1 : decode cX12_least 1 = .ok (.iconst 0, 1) := by decide +kernel
theorem dX12_least_2 : decode cX12_least 2 = .ok (.iload_n 1, 1) := by decide +kernel
theorem dX12_least_3 : decode cX12_least 3 = .ok (.invokevirtual 232, 3) := by decide +kernel
theorem dX12_least_6 : decode cX12_least 6 = .ok (.ireturn, 1) := by decide +kernel
theorem dX12_most_0 : decode cX12_most 0 = .ok (.aload_n 0, 1) := by decide +kernel
theorem dX12_most_1 : decode cX12_most 1 = .ok (.iconst 1, 1) := by decide +kernel
theorem dX12_most_2 : decode cX12_most 2 = .ok (.iload_n 1, 1) := by decide +kernel
theorem dX12_most_3 : decode cX12_most 3 = .ok (.invokevirtual 232, 3) := by decide +kernel
theorem dX12_most_6 : decode cX12_most 6 = .ok (.ireturn, 1) := by decide +kernel
theorem dX12_hangs_0 : decode cX12_hangs 0 = .ok (.aload_n 0, 1) := by decide +kernel
theorem dX12_hangs_1 : decode cX12_hangs 1 = .ok (.getfield 7, 3) := by decide +kernel
theorem dX12_hangs_4 : decode cX12_hangs 4 = .ok (.iconst 3, 1) := by decide +kernel
theorem dX12_hangs_5 : decode cX12_hangs 5 = .ok (.iaload, 1) := by decide +kernel
theorem dX12_hangs_6 : decode cX12_hangs 6 = .ok (.bipush 40, 2) := by decide +kernel
theorem dX12_hangs_8 : decode cX12_hangs 8 = .ok (.if_icmp .ne 9, 3) := by decide +kernel
theorem dX12_hangs_11 : decode cX12_hangs 11 = .ok (.aload_n 0, 1) := by decide +kernel
theorem dX12_hangs_12 : decode cX12_hangs 12 = .ok (.iconst 1, 1) := by decide +kernel
theorem dX12_hangs_13 : decode cX12_hangs 13 = .ok (.invokevirtual 190, 3) := by decide +kernel
theorem dX12_hangs_16 : decode cX12_hangs 16 = .ok (.ireturn, 1) := by decide +kernel
theorem dX12_hangs_17 : decode cX12_hangs 17 = .ok (.aload_n 0, 1) := by decide +kernel
theorem dX12_hangs_18 : decode cX12_hangs 18 = .ok (.getfield 7, 3) := by decide +kernel
theorem dX12_hangs_21 : decode cX12_hangs 21 = .ok (.iconst 3, 1) := by decide +kernel
theorem dX12_hangs_22 : decode cX12_hangs 22 = .ok (.iaload, 1) := by decide +kernel
theorem dX12_hangs_23 : decode cX12_hangs 23 = .ok (.istore 5, 2) := by decide +kernel
theorem dX12_hangs_25 : decode cX12_hangs 25 = .ok (.aload_n 0, 1) := by decide +kernel
theorem dX12_hangs_26 : decode cX12_hangs 26 = .ok (.getfield 7, 3) := by decide +kernel
theorem dX12_hangs_29 : decode cX12_hangs 29 = .ok (.bipush 40, 2) := by decide +kernel
theorem dX12_hangs_31 : decode cX12_hangs 31 = .ok (.iconst 4, 1) := by decide +kernel
theorem dX12_hangs_32 : decode cX12_hangs 32 = .ok (.iload 5, 2) := by decide +kernel
theorem dX12_hangs_34 : decode cX12_hangs 34 = .ok (.imul, 1) := by decide +kernel
theorem dX12_hangs_35 : decode cX12_hangs 35 = .ok (.iadd, 1) := by decide +kernel
theorem dX12_hangs_36 : decode cX12_hangs 36 = .ok (.iconst 0, 1) := by decide +kernel
theorem dX12_hangs_37 : decode cX12_hangs 37 = .ok (.iadd, 1) := by decide +kernel
theorem dX12_hangs_38 : decode cX12_hangs 38 = .ok (.iload_n 1, 1) := by decide +kernel
theorem dX12_hangs_39 : decode cX12_hangs 39 = .ok (.iastore, 1) := by decide +kernel
theorem dX12_hangs_40 : decode cX12_hangs 40 = .ok (.aload_n 0, 1) := by decide +kernel
theorem dX12_hangs_41 : decode cX12_hangs 41 = .ok (.getfield 7, 3) := by decide +kernel
theorem dX12_hangs_44 : decode cX12_hangs 44 = .ok (.bipush 40, 2) := by decide +kernel
theorem dX12_hangs_46 : decode cX12_hangs 46 = .ok (.iconst 4, 1) := by decide +kernel
theorem dX12_hangs_47 : decode cX12_hangs 47 = .ok (.iload 5, 2) := by decide +kernel
theorem dX12_hangs_49 : decode cX12_hangs 49 = .ok (.imul, 1) := by decide +kernel
theorem dX12_hangs_50 : decode cX12_hangs 50 = .ok (.iadd, 1) := by decide +kernel
theorem dX12_hangs_51 : decode cX12_hangs 51 = .ok (.iconst 1, 1) := by decide +kernel
theorem dX12_hangs_52 : decode cX12_hangs 52 = .ok (.iadd, 1) := by decide +kernel
theorem dX12_hangs_53 : decode cX12_hangs 53 = .ok (.iload_n 2, 1) := by decide +kernel
theorem dX12_hangs_54 : decode cX12_hangs 54 = .ok (.iastore, 1) := by decide +kernel
theorem dX12_hangs_55 : decode cX12_hangs 55 = .ok (.aload_n 0, 1) := by decide +kernel
theorem dX12_hangs_56 : decode cX12_hangs 56 = .ok (.getfield 7, 3) := by decide +kernel
theorem dX12_hangs_59 : decode cX12_hangs 59 = .ok (.bipush 40, 2) := by decide +kernel
theorem dX12_hangs_61 : decode cX12_hangs 61 = .ok (.iconst 4, 1) := by decide +kernel
theorem dX12_hangs_62 : decode cX12_hangs 62 = .ok (.iload 5, 2) := by decide +kernel
theorem dX12_hangs_64 : decode cX12_hangs 64 = .ok (.imul, 1) := by decide +kernel
theorem dX12_hangs_65 : decode cX12_hangs 65 = .ok (.iadd, 1) := by decide +kernel
theorem dX12_hangs_66 : decode cX12_hangs 66 = .ok (.iconst 2, 1) := by decide +kernel
theorem dX12_hangs_67 : decode cX12_hangs 67 = .ok (.iadd, 1) := by decide +kernel
theorem dX12_hangs_68 : decode cX12_hangs 68 = .ok (.iload_n 3, 1) := by decide +kernel
theorem dX12_hangs_69 : decode cX12_hangs 69 = .ok (.iastore, 1) := by decide +kernel
theorem dX12_hangs_70 : decode cX12_hangs 70 = .ok (.aload_n 0, 1) := by decide +kernel
theorem dX12_hangs_71 : decode cX12_hangs 71 = .ok (.getfield 7, 3) := by decide +kernel
theorem dX12_hangs_74 : decode cX12_hangs 74 = .ok (.bipush 40, 2) := by decide +kernel
theorem dX12_hangs_76 : decode cX12_hangs 76 = .ok (.iconst 4, 1) := by decide +kernel
theorem dX12_hangs_77 : decode cX12_hangs 77 = .ok (.iload 5, 2) := by decide +kernel
theorem dX12_hangs_79 : decode cX12_hangs 79 = .ok (.imul, 1) := by decide +kernel
theorem dX12_hangs_80 : decode cX12_hangs 80 = .ok (.iadd, 1) := by decide +kernel
theorem dX12_hangs_81 : decode cX12_hangs 81 = .ok (.iconst 3, 1) := by decide +kernel
theorem dX12_hangs_82 : decode cX12_hangs 82 = .ok (.iadd, 1) := by decide +kernel
theorem dX12_hangs_83 : decode cX12_hangs 83 = .ok (.iload 4, 2) := by decide +kernel
theorem dX12_hangs_85 : decode cX12_hangs 85 = .ok (.iastore, 1) := by decide +kernel
theorem dX12_hangs_86 : decode cX12_hangs 86 = .ok (.aload_n 0, 1) := by decide +kernel
theorem dX12_hangs_87 : decode cX12_hangs 87 = .ok (.getfield 7, 3) := by decide +kernel
theorem dX12_hangs_90 : decode cX12_hangs 90 = .ok (.iconst 3, 1) := by decide +kernel
theorem dX12_hangs_91 : decode cX12_hangs 91 = .ok (.dup2, 1) := by decide +kernel
theorem dX12_hangs_92 : decode cX12_hangs 92 = .ok (.iaload, 1) := by decide +kernel
theorem dX12_hangs_93 : decode cX12_hangs 93 = .ok (.iconst 1, 1) := by decide +kernel
theorem dX12_hangs_94 : decode cX12_hangs 94 = .ok (.iadd, 1) := by decide +kernel
theorem dX12_hangs_95 : decode cX12_hangs 95 = .ok (.iastore, 1) := by decide +kernel
theorem dX12_hangs_96 : decode cX12_hangs 96 = .ok (.iload 5, 2) := by decide +kernel
theorem dX12_hangs_98 : decode cX12_hangs 98 = .ok (.ireturn, 1) := by decide +kernel
theorem dX12_lock_0 : decode cX12_lock 0 = .ok (.iload_n 1, 1) := by decide +kernel
theorem dX12_lock_1 : decode cX12_lock 1 = .ok (.invokestatic 235, 3) := by decide +kernel
theorem dX12_lock_4 : decode cX12_lock 4 = .ok (.ifCond .eq 22, 3) := by decide +kernel
theorem dX12_lock_7 : decode cX12_lock 7 = .ok (.aload_n 0, 1) := by decide +kernel
theorem dX12_lock_8 : decode cX12_lock 8 = .ok (.iload_n 2, 1) := by decide +kernel
theorem dX12_lock_9 : decode cX12_lock 9 = .ok (.ifCond .eq 7, 3) := by decide +kernel
theorem dX12_lock_12 : decode cX12_lock 12 = .ok (.iconst 5, 1) := by decide +kernel
theorem dX12_lock_13 : decode cX12_lock 13 = .ok (.goto 4, 3) := by decide +kernel
theorem dX12_lock_16 : decode cX12_lock 16 = .ok (.iconst 1, 1) := by decide +kernel
theorem dX12_lock_17 : decode cX12_lock 17 = .ok (.iconst (-1), 1) := by decide +kernel
theorem dX12_lock_18 : decode cX12_lock 18 = .ok (.iconst (-1), 1) := by decide +kernel
theorem dX12_lock_19 : decode cX12_lock 19 = .ok (.iload_n 1, 1) := by decide +kernel
theorem dX12_lock_20 : decode cX12_lock 20 = .ok (.invokevirtual 238, 3) := by decide +kernel
theorem dX12_lock_23 : decode cX12_lock 23 = .ok (.goto 8, 3) := by decide +kernel
theorem dX12_lock_26 : decode cX12_lock 26 = .ok (.aload_n 0, 1) := by decide +kernel
theorem dX12_lock_27 : decode cX12_lock 27 = .ok (.iconst 0, 1) := by decide +kernel
theorem dX12_lock_28 : decode cX12_lock 28 = .ok (.invokevirtual 190, 3) := by decide +kernel
theorem dX12_lock_31 : decode cX12_lock 31 = .ok (.ireturn, 1) := by decide +kernel
theorem dX12_chain_0 : decode cX12_chain 0 = .ok (.aload_n 0, 1) := by decide +kernel
theorem dX12_chain_1 : decode cX12_chain 1 = .ok (.iload_n 1, 1) := by decide +kernel
theorem dX12_chain_2 : decode cX12_chain 2 = .ok (.invokevirtual 242, 3) := by decide +kernel
theorem dX12_chain_5 : decode cX12_chain 5 = .ok (.ifCond .eq 30, 3) := by decide +kernel
theorem dX12_chain_8 : decode cX12_chain 8 = .ok (.aload_n 0, 1) := by decide +kernel
theorem dX12_chain_9 : decode cX12_chain 9 = .ok (.iload_n 2, 1) := by decide +kernel
theorem dX12_chain_10 : decode cX12_chain 10 = .ok (.invokevirtual 242, 3) := by decide +kernel
theorem dX12_chain_13 : decode cX12_chain 13 = .ok (.ifCond .eq 22, 3) := by decide +kernel
theorem dX12_chain_16 : decode cX12_chain 16 = .ok (.aload_n 0, 1) := by decide +kernel
theorem dX12_chain_17 : decode cX12_chain 17 = .ok (.iload_n 3, 1) := by decide +kernel
theorem dX12_chain_18 : decode cX12_chain 18 = .ok (.ifCond .eq 7, 3) := by decide +kernel
theorem dX12_chain_21 : decode cX12_chain 21 = .ok (.iconst 3, 1) := by decide +kernel
theorem dX12_chain_22 : decode cX12_chain 22 = .ok (.goto 4, 3) := by decide +kernel
theorem dX12_chain_25 : decode cX12_chain 25 = .ok (.iconst 2, 1) := by decide +kernel
theorem dX12_chain_26 : decode cX12_chain 26 = .ok (.iload_n 1, 1) := by decide +kernel
theorem dX12_chain_27 : decode cX12_chain 27 = .ok (.iload_n 2, 1) := by decide +kernel
theorem dX12_chain_28 : decode cX12_chain 28 = .ok (.iconst (-1), 1) := by decide +kernel
theorem dX12_chain_29 : decode cX12_chain 29 = .ok (.invokevirtual 238, 3) := by decide +kernel
theorem dX12_chain_32 : decode cX12_chain 32 = .ok (.goto 8, 3) := by decide +kernel
theorem dX12_chain_35 : decode cX12_chain 35 = .ok (.aload_n 0, 1) := by decide +kernel
theorem dX12_chain_36 : decode cX12_chain 36 = .ok (.iconst 0, 1) := by decide +kernel
theorem dX12_chain_37 : decode cX12_chain 37 = .ok (.invokevirtual 190, 3) := by decide +kernel
theorem dX12_chain_40 : decode cX12_chain 40 = .ok (.ireturn, 1) := by decide +kernel
theorem dX12_box_0 : decode cX12_box 0 = .ok (.aload_n 0, 1) := by decide +kernel
theorem dX12_box_1 : decode cX12_box 1 = .ok (.iload_n 1, 1) := by decide +kernel
theorem dX12_box_2 : decode cX12_box 2 = .ok (.invokevirtual 242, 3) := by decide +kernel
theorem dX12_box_5 : decode cX12_box 5 = .ok (.ifCond .eq 21, 3) := by decide +kernel
theorem dX12_box_8 : decode cX12_box 8 = .ok (.iload_n 2, 1) := by decide +kernel
theorem dX12_box_9 : decode cX12_box 9 = .ok (.invokestatic 235, 3) := by decide +kernel
theorem dX12_box_12 : decode cX12_box 12 = .ok (.ifCond .eq 14, 3) := by decide +kernel
theorem dX12_box_15 : decode cX12_box 15 = .ok (.aload_n 0, 1) := by decide +kernel
theorem dX12_box_16 : decode cX12_box 16 = .ok (.iconst 4, 1) := by decide +kernel
theorem dX12_box_17 : decode cX12_box 17 = .ok (.iload_n 1, 1) := by decide +kernel
theorem dX12_box_18 : decode cX12_box 18 = .ok (.iconst (-1), 1) := by decide +kernel
theorem dX12_box_19 : decode cX12_box 19 = .ok (.iload_n 2, 1) := by decide +kernel
theorem dX12_box_20 : decode cX12_box 20 = .ok (.invokevirtual 238, 3) := by decide +kernel
theorem dX12_box_23 : decode cX12_box 23 = .ok (.goto 8, 3) := by decide +kernel
theorem dX12_box_26 : decode cX12_box 26 = .ok (.aload_n 0, 1) := by decide +kernel
theorem dX12_box_27 : decode cX12_box 27 = .ok (.iconst 0, 1) := by decide +kernel
theorem dX12_box_28 : decode cX12_box 28 = .ok (.invokevirtual 190, 3) := by decide +kernel
theorem dX12_box_31 : decode cX12_box 31 = .ok (.ireturn, 1) := by decide +kernel
theorem dX12_counts_0 : decode cX12_counts 0 = .ok (.iconst 0, 1) := by decide +kernel
theorem dX12_counts_1 : decode cX12_counts 1 = .ok (.istore_n 1, 1) := by decide +kernel
theorem dX12_counts_2 : decode cX12_counts 2 = .ok (.iload_n 1, 1) := by decide +kernel
theorem dX12_counts_3 : decode cX12_counts 3 = .ok (.aload_n 0, 1) := by decide +kernel
theorem dX12_counts_4 : decode cX12_counts 4 = .ok (.getfield 7, 3) := by decide +kernel
theorem dX12_counts_7 : decode cX12_counts 7 = .ok (.iconst 3, 1) := by decide +kernel
theorem dX12_counts_8 : decode cX12_counts 8 = .ok (.iaload, 1) := by decide +kernel
theorem dX12_counts_9 : decode cX12_counts 9 = .ok (.if_icmp .ge 179, 3) := by decide +kernel
theorem dX12_counts_12 : decode cX12_counts 12 = .ok (.aload_n 0, 1) := by decide +kernel
theorem dX12_counts_13 : decode cX12_counts 13 = .ok (.iload_n 1, 1) := by decide +kernel
theorem dX12_counts_14 : decode cX12_counts 14 = .ok (.iconst 1, 1) := by decide +kernel
theorem dX12_counts_15 : decode cX12_counts 15 = .ok (.invokevirtual 245, 3) := by decide +kernel
theorem dX12_counts_18 : decode cX12_counts 18 = .ok (.istore_n 2, 1) := by decide +kernel
theorem dX12_counts_19 : decode cX12_counts 19 = .ok (.aload_n 0, 1) := by decide +kernel
theorem dX12_counts_20 : decode cX12_counts 20 = .ok (.iload_n 1, 1) := by decide +kernel
theorem dX12_counts_21 : decode cX12_counts 21 = .ok (.iconst 2, 1) := by decide +kernel
theorem dX12_counts_22 : decode cX12_counts 22 = .ok (.invokevirtual 245, 3) := by decide +kernel
theorem dX12_counts_25 : decode cX12_counts 25 = .ok (.istore_n 3, 1) := by decide +kernel
theorem dX12_counts_26 : decode cX12_counts 26 = .ok (.aload_n 0, 1) := by decide +kernel
theorem dX12_counts_27 : decode cX12_counts 27 = .ok (.iload_n 1, 1) := by decide +kernel
theorem dX12_counts_28 : decode cX12_counts 28 = .ok (.iconst 0, 1) := by decide +kernel
theorem dX12_counts_29 : decode cX12_counts 29 = .ok (.invokevirtual 245, 3) := by decide +kernel
theorem dX12_counts_32 : decode cX12_counts 32 = .ok (.tableswitch 96 1 5 #[36, 96, 96, 67, 36], 36) := by decide +kernel
theorem dX12_counts_68 : decode cX12_counts 68 = .ok (.aload_n 0, 1) := by decide +kernel
theorem dX12_counts_69 : decode cX12_counts 69 = .ok (.getfield 29, 3) := by decide +kernel
theorem dX12_counts_72 : decode cX12_counts 72 = .ok (.iload_n 1, 1) := by decide +kernel
theorem dX12_counts_73 : decode cX12_counts 73 = .ok (.aload_n 0, 1) := by decide +kernel
theorem dX12_counts_74 : decode cX12_counts 74 = .ok (.iload_n 1, 1) := by decide +kernel
theorem dX12_counts_75 : decode cX12_counts 75 = .ok (.iconst 0, 1) := by decide +kernel
theorem dX12_counts_76 : decode cX12_counts 76 = .ok (.invokevirtual 245, 3) := by decide +kernel
theorem dX12_counts_79 : decode cX12_counts 79 = .ok (.iconst 1, 1) := by decide +kernel
theorem dX12_counts_80 : decode cX12_counts 80 = .ok (.if_icmp .ne 7, 3) := by decide +kernel
theorem dX12_counts_83 : decode cX12_counts 83 = .ok (.iconst 3, 1) := by decide +kernel
theorem dX12_counts_84 : decode cX12_counts 84 = .ok (.goto 4, 3) := by decide +kernel
theorem dX12_counts_87 : decode cX12_counts 87 = .ok (.iconst 2, 1) := by decide +kernel
theorem dX12_counts_88 : decode cX12_counts 88 = .ok (.iastore, 1) := by decide +kernel
theorem dX12_counts_89 : decode cX12_counts 89 = .ok (.aload_n 0, 1) := by decide +kernel
theorem dX12_counts_90 : decode cX12_counts 90 = .ok (.getfield 32, 3) := by decide +kernel
theorem dX12_counts_93 : decode cX12_counts 93 = .ok (.iload_n 1, 1) := by decide +kernel
theorem dX12_counts_94 : decode cX12_counts 94 = .ok (.iconst 1, 1) := by decide +kernel
theorem dX12_counts_95 : decode cX12_counts 95 = .ok (.iastore, 1) := by decide +kernel
theorem dX12_counts_96 : decode cX12_counts 96 = .ok (.goto 86, 3) := by decide +kernel
theorem dX12_counts_99 : decode cX12_counts 99 = .ok (.aload_n 0, 1) := by decide +kernel
theorem dX12_counts_100 : decode cX12_counts 100 = .ok (.getfield 29, 3) := by decide +kernel
theorem dX12_counts_103 : decode cX12_counts 103 = .ok (.iload_n 1, 1) := by decide +kernel
theorem dX12_counts_104 : decode cX12_counts 104 = .ok (.iconst 4, 1) := by decide +kernel
theorem dX12_counts_105 : decode cX12_counts 105 = .ok (.aload_n 0, 1) := by decide +kernel
theorem dX12_counts_106 : decode cX12_counts 106 = .ok (.getfield 29, 3) := by decide +kernel
theorem dX12_counts_109 : decode cX12_counts 109 = .ok (.iload_n 2, 1) := by decide +kernel
theorem dX12_counts_110 : decode cX12_counts 110 = .ok (.iaload, 1) := by decide +kernel
theorem dX12_counts_111 : decode cX12_counts 111 = .ok (.iadd, 1) := by decide +kernel
theorem dX12_counts_112 : decode cX12_counts 112 = .ok (.iastore, 1) := by decide +kernel
theorem dX12_counts_113 : decode cX12_counts 113 = .ok (.aload_n 0, 1) := by decide +kernel
theorem dX12_counts_114 : decode cX12_counts 114 = .ok (.getfield 32, 3) := by decide +kernel
theorem dX12_counts_117 : decode cX12_counts 117 = .ok (.iload_n 1, 1) := by decide +kernel
theorem dX12_counts_118 : decode cX12_counts 118 = .ok (.aload_n 0, 1) := by decide +kernel
theorem dX12_counts_119 : decode cX12_counts 119 = .ok (.getfield 32, 3) := by decide +kernel
theorem dX12_counts_122 : decode cX12_counts 122 = .ok (.iload_n 2, 1) := by decide +kernel
theorem dX12_counts_123 : decode cX12_counts 123 = .ok (.iaload, 1) := by decide +kernel
theorem dX12_counts_124 : decode cX12_counts 124 = .ok (.iastore, 1) := by decide +kernel
theorem dX12_counts_125 : decode cX12_counts 125 = .ok (.goto 57, 3) := by decide +kernel
theorem dX12_counts_128 : decode cX12_counts 128 = .ok (.aload_n 0, 1) := by decide +kernel
theorem dX12_counts_129 : decode cX12_counts 129 = .ok (.getfield 29, 3) := by decide +kernel
theorem dX12_counts_132 : decode cX12_counts 132 = .ok (.iload_n 1, 1) := by decide +kernel
theorem dX12_counts_133 : decode cX12_counts 133 = .ok (.aload_n 0, 1) := by decide +kernel
theorem dX12_counts_134 : decode cX12_counts 134 = .ok (.iload_n 1, 1) := by decide +kernel
theorem dX12_counts_135 : decode cX12_counts 135 = .ok (.iconst 0, 1) := by decide +kernel
theorem dX12_counts_136 : decode cX12_counts 136 = .ok (.invokevirtual 245, 3) := by decide +kernel
theorem dX12_counts_139 : decode cX12_counts 139 = .ok (.iconst 3, 1) := by decide +kernel
theorem dX12_counts_140 : decode cX12_counts 140 = .ok (.if_icmp .ne 7, 3) := by decide +kernel
theorem dX12_counts_143 : decode cX12_counts 143 = .ok (.iconst 2, 1) := by decide +kernel
theorem dX12_counts_144 : decode cX12_counts 144 = .ok (.goto 4, 3) := by decide +kernel
theorem dX12_counts_147 : decode cX12_counts 147 = .ok (.iconst 1, 1) := by decide +kernel
theorem dX12_counts_148 : decode cX12_counts 148 = .ok (.aload_n 0, 1) := by decide +kernel
theorem dX12_counts_149 : decode cX12_counts 149 = .ok (.getfield 29, 3) := by decide +kernel
theorem dX12_counts_152 : decode cX12_counts 152 = .ok (.iload_n 2, 1) := by decide +kernel
theorem dX12_counts_153 : decode cX12_counts 153 = .ok (.iaload, 1) := by decide +kernel
theorem dX12_counts_154 : decode cX12_counts 154 = .ok (.iadd, 1) := by decide +kernel
theorem dX12_counts_155 : decode cX12_counts 155 = .ok (.aload_n 0, 1) := by decide +kernel
theorem dX12_counts_156 : decode cX12_counts 156 = .ok (.getfield 29, 3) := by decide +kernel
theorem dX12_counts_159 : decode cX12_counts 159 = .ok (.iload_n 3, 1) := by decide +kernel
theorem dX12_counts_160 : decode cX12_counts 160 = .ok (.iaload, 1) := by decide +kernel
theorem dX12_counts_161 : decode cX12_counts 161 = .ok (.iadd, 1) := by decide +kernel
theorem dX12_counts_162 : decode cX12_counts 162 = .ok (.iastore, 1) := by decide +kernel
theorem dX12_counts_163 : decode cX12_counts 163 = .ok (.aload_n 0, 1) := by decide +kernel
theorem dX12_counts_164 : decode cX12_counts 164 = .ok (.getfield 32, 3) := by decide +kernel
theorem dX12_counts_167 : decode cX12_counts 167 = .ok (.iload_n 1, 1) := by decide +kernel
theorem dX12_counts_168 : decode cX12_counts 168 = .ok (.aload_n 0, 1) := by decide +kernel
theorem dX12_counts_169 : decode cX12_counts 169 = .ok (.getfield 32, 3) := by decide +kernel
theorem dX12_counts_172 : decode cX12_counts 172 = .ok (.iload_n 2, 1) := by decide +kernel
theorem dX12_counts_173 : decode cX12_counts 173 = .ok (.iaload, 1) := by decide +kernel
theorem dX12_counts_174 : decode cX12_counts 174 = .ok (.aload_n 0, 1) := by decide +kernel
theorem dX12_counts_175 : decode cX12_counts 175 = .ok (.getfield 32, 3) := by decide +kernel
theorem dX12_counts_178 : decode cX12_counts 178 = .ok (.iload_n 3, 1) := by decide +kernel
theorem dX12_counts_179 : decode cX12_counts 179 = .ok (.iaload, 1) := by decide +kernel
theorem dX12_counts_180 : decode cX12_counts 180 = .ok (.iadd, 1) := by decide +kernel
theorem dX12_counts_181 : decode cX12_counts 181 = .ok (.iastore, 1) := by decide +kernel
theorem dX12_counts_182 : decode cX12_counts 182 = .ok (.iinc 1 1, 3) := by decide +kernel
theorem dX12_counts_185 : decode cX12_counts 185 = .ok (.goto (-183), 3) := by decide +kernel
theorem dX12_counts_188 : decode cX12_counts 188 = .ok (.return_, 1) := by decide +kernel
theorem dX12_hanging_0 : decode cX12_hanging 0 = .ok (.aload_n 0, 1) := by decide +kernel
theorem dX12_hanging_1 : decode cX12_hanging 1 = .ok (.iload_n 1, 1) := by decide +kernel
theorem dX12_hanging_2 : decode cX12_hanging 2 = .ok (.invokevirtual 242, 3) := by decide +kernel
theorem dX12_hanging_5 : decode cX12_hanging 5 = .ok (.ifCond .eq 12, 3) := by decide +kernel
theorem dX12_hanging_8 : decode cX12_hanging 8 = .ok (.iload_n 2, 1) := by decide +kernel
theorem dX12_hanging_9 : decode cX12_hanging 9 = .ok (.iconst 0, 1) := by decide +kernel
theorem dX12_hanging_10 : decode cX12_hanging 10 = .ok (.iconst 5, 1) := by decide +kernel
theorem dX12_hanging_11 : decode cX12_hanging 11 = .ok (.invokestatic 64, 3) := by decide +kernel
theorem dX12_hanging_14 : decode cX12_hanging 14 = .ok (.ifCond .ne 9, 3) := by decide +kernel
theorem dX12_hanging_17 : decode cX12_hanging 17 = .ok (.aload_n 0, 1) := by decide +kernel
theorem dX12_hanging_18 : decode cX12_hanging 18 = .ok (.iconst 0, 1) := by decide +kernel
theorem dX12_hanging_19 : decode cX12_hanging 19 = .ok (.invokevirtual 190, 3) := by decide +kernel
theorem dX12_hanging_22 : decode cX12_hanging 22 = .ok (.ireturn, 1) := by decide +kernel
theorem dX12_hanging_23 : decode cX12_hanging 23 = .ok (.aload_n 0, 1) := by decide +kernel
theorem dX12_hanging_24 : decode cX12_hanging 24 = .ok (.invokevirtual 248, 3) := by decide +kernel
theorem dX12_hanging_27 : decode cX12_hanging 27 = .ok (.iload_n 2, 1) := by decide +kernel
theorem dX12_hanging_28 : decode cX12_hanging 28 = .ok (.tableswitch 122 0 4 #[36, 43, 67, 91, 115], 36) := by decide +kernel
theorem dX12_hanging_64 : decode cX12_hanging 64 = .ok (.aload_n 0, 1) := by decide +kernel
theorem dX12_hanging_65 : decode cX12_hanging 65 = .ok (.iload_n 1, 1) := by decide +kernel
theorem dX12_hanging_66 : decode cX12_hanging 66 = .ok (.iconst 0, 1) := by decide +kernel
theorem dX12_hanging_67 : decode cX12_hanging 67 = .ok (.invokevirtual 245, 3) := by decide +kernel
theorem dX12_hanging_70 : decode cX12_hanging 70 = .ok (.ireturn, 1) := by decide +kernel
theorem dX12_hanging_71 : decode cX12_hanging 71 = .ok (.aload_n 0, 1) := by decide +kernel
theorem dX12_hanging_72 : decode cX12_hanging 72 = .ok (.iload_n 1, 1) := by decide +kernel
theorem dX12_hanging_73 : decode cX12_hanging 73 = .ok (.iconst 3, 1) := by decide +kernel
theorem dX12_hanging_74 : decode cX12_hanging 74 = .ok (.invokevirtual 245, 3) := by decide +kernel
theorem dX12_hanging_77 : decode cX12_hanging 77 = .ok (.ifCond .ge 11, 3) := by decide +kernel
theorem dX12_hanging_80 : decode cX12_hanging 80 = .ok (.aload_n 0, 1) := by decide +kernel
theorem dX12_hanging_81 : decode cX12_hanging 81 = .ok (.iconst 2, 1) := by decide +kernel
theorem dX12_hanging_82 : decode cX12_hanging 82 = .ok (.invokevirtual 190, 3) := by decide +kernel
theorem dX12_hanging_85 : decode cX12_hanging 85 = .ok (.goto 9, 3) := by decide +kernel
theorem dX12_hanging_88 : decode cX12_hanging 88 = .ok (.aload_n 0, 1) := by decide +kernel
theorem dX12_hanging_89 : decode cX12_hanging 89 = .ok (.iload_n 1, 1) := by decide +kernel
theorem dX12_hanging_90 : decode cX12_hanging 90 = .ok (.iconst 3, 1) := by decide +kernel
theorem dX12_hanging_91 : decode cX12_hanging 91 = .ok (.invokevirtual 245, 3) := by decide +kernel
theorem dX12_hanging_94 : decode cX12_hanging 94 = .ok (.ireturn, 1) := by decide +kernel
theorem dX12_hanging_95 : decode cX12_hanging 95 = .ok (.aload_n 0, 1) := by decide +kernel
theorem dX12_hanging_96 : decode cX12_hanging 96 = .ok (.iload_n 1, 1) := by decide +kernel
theorem dX12_hanging_97 : decode cX12_hanging 97 = .ok (.iconst 1, 1) := by decide +kernel
theorem dX12_hanging_98 : decode cX12_hanging 98 = .ok (.invokevirtual 245, 3) := by decide +kernel
theorem dX12_hanging_101 : decode cX12_hanging 101 = .ok (.ifCond .ge 11, 3) := by decide +kernel
theorem dX12_hanging_104 : decode cX12_hanging 104 = .ok (.aload_n 0, 1) := by decide +kernel
theorem dX12_hanging_105 : decode cX12_hanging 105 = .ok (.iconst 2, 1) := by decide +kernel
theorem dX12_hanging_106 : decode cX12_hanging 106 = .ok (.invokevirtual 190, 3) := by decide +kernel
theorem dX12_hanging_109 : decode cX12_hanging 109 = .ok (.goto 9, 3) := by decide +kernel
theorem dX12_hanging_112 : decode cX12_hanging 112 = .ok (.aload_n 0, 1) := by decide +kernel
theorem dX12_hanging_113 : decode cX12_hanging 113 = .ok (.iload_n 1, 1) := by decide +kernel
theorem dX12_hanging_114 : decode cX12_hanging 114 = .ok (.iconst 1, 1) := by decide +kernel
theorem dX12_hanging_115 : decode cX12_hanging 115 = .ok (.invokevirtual 245, 3) := by decide +kernel
theorem dX12_hanging_118 : decode cX12_hanging 118 = .ok (.ireturn, 1) := by decide +kernel
theorem dX12_hanging_119 : decode cX12_hanging 119 = .ok (.aload_n 0, 1) := by decide +kernel
theorem dX12_hanging_120 : decode cX12_hanging 120 = .ok (.iload_n 1, 1) := by decide +kernel
theorem dX12_hanging_121 : decode cX12_hanging 121 = .ok (.iconst 2, 1) := by decide +kernel
theorem dX12_hanging_122 : decode cX12_hanging 122 = .ok (.invokevirtual 245, 3) := by decide +kernel
theorem dX12_hanging_125 : decode cX12_hanging 125 = .ok (.ifCond .ge 11, 3) := by decide +kernel
theorem dX12_hanging_128 : decode cX12_hanging 128 = .ok (.aload_n 0, 1) := by decide +kernel
theorem dX12_hanging_129 : decode cX12_hanging 129 = .ok (.iconst 2, 1) := by decide +kernel
theorem dX12_hanging_130 : decode cX12_hanging 130 = .ok (.invokevirtual 190, 3) := by decide +kernel
theorem dX12_hanging_133 : decode cX12_hanging 133 = .ok (.goto 9, 3) := by decide +kernel
theorem dX12_hanging_136 : decode cX12_hanging 136 = .ok (.aload_n 0, 1) := by decide +kernel
theorem dX12_hanging_137 : decode cX12_hanging 137 = .ok (.iload_n 1, 1) := by decide +kernel
theorem dX12_hanging_138 : decode cX12_hanging 138 = .ok (.iconst 2, 1) := by decide +kernel
theorem dX12_hanging_139 : decode cX12_hanging 139 = .ok (.invokevirtual 245, 3) := by decide +kernel
theorem dX12_hanging_142 : decode cX12_hanging 142 = .ok (.ireturn, 1) := by decide +kernel
theorem dX12_hanging_143 : decode cX12_hanging 143 = .ok (.aload_n 0, 1) := by decide +kernel
theorem dX12_hanging_144 : decode cX12_hanging 144 = .ok (.getfield 29, 3) := by decide +kernel
theorem dX12_hanging_147 : decode cX12_hanging 147 = .ok (.iload_n 1, 1) := by decide +kernel
theorem dX12_hanging_148 : decode cX12_hanging 148 = .ok (.iaload, 1) := by decide +kernel
theorem dX12_hanging_149 : decode cX12_hanging 149 = .ok (.ireturn, 1) := by decide +kernel
theorem dX12_hanging_150 : decode cX12_hanging 150 = .ok (.aload_n 0, 1) := by decide +kernel
theorem dX12_hanging_151 : decode cX12_hanging 151 = .ok (.getfield 32, 3) := by decide +kernel
theorem dX12_hanging_154 : decode cX12_hanging 154 = .ok (.iload_n 1, 1) := by decide +kernel
theorem dX12_hanging_155 : decode cX12_hanging 155 = .ok (.iaload, 1) := by decide +kernel
theorem dX12_hanging_156 : decode cX12_hanging 156 = .ok (.ireturn, 1) := by decide +kernel
theorem dX12_as_0 : decode cX12_as 0 = .ok (.aload_n 0, 1) := by decide +kernel
theorem dX12_as_1 : decode cX12_as 1 = .ok (.iload_n 1, 1) := by decide +kernel
theorem dX12_as_2 : decode cX12_as 2 = .ok (.invokevirtual 242, 3) := by decide +kernel
theorem dX12_as_5 : decode cX12_as 5 = .ok (.ifCond .eq 12, 3) := by decide +kernel
theorem dX12_as_8 : decode cX12_as 8 = .ok (.iload_n 2, 1) := by decide +kernel
theorem dX12_as_9 : decode cX12_as 9 = .ok (.iconst 0, 1) := by decide +kernel
theorem dX12_as_10 : decode cX12_as 10 = .ok (.iconst 5, 1) := by decide +kernel
theorem dX12_as_11 : decode cX12_as 11 = .ok (.invokestatic 64, 3) := by decide +kernel
theorem dX12_as_14 : decode cX12_as 14 = .ok (.ifCond .ne 9, 3) := by decide +kernel
theorem dX12_as_17 : decode cX12_as 17 = .ok (.aload_n 0, 1) := by decide +kernel
theorem dX12_as_18 : decode cX12_as 18 = .ok (.iconst 0, 1) := by decide +kernel
theorem dX12_as_19 : decode cX12_as 19 = .ok (.invokevirtual 190, 3) := by decide +kernel
theorem dX12_as_22 : decode cX12_as 22 = .ok (.ireturn, 1) := by decide +kernel
theorem dX12_as_23 : decode cX12_as 23 = .ok (.aload_n 0, 1) := by decide +kernel
theorem dX12_as_24 : decode cX12_as 24 = .ok (.iload_n 1, 1) := by decide +kernel
theorem dX12_as_25 : decode cX12_as 25 = .ok (.iconst 0, 1) := by decide +kernel
theorem dX12_as_26 : decode cX12_as 26 = .ok (.invokevirtual 245, 3) := by decide +kernel
theorem dX12_as_29 : decode cX12_as 29 = .ok (.istore_n 3, 1) := by decide +kernel
theorem dX12_as_30 : decode cX12_as 30 = .ok (.iload_n 2, 1) := by decide +kernel
theorem dX12_as_31 : decode cX12_as 31 = .ok (.ifCond .eq 28, 3) := by decide +kernel
theorem dX12_as_34 : decode cX12_as 34 = .ok (.iload_n 3, 1) := by decide +kernel
theorem dX12_as_35 : decode cX12_as 35 = .ok (.iload_n 2, 1) := by decide +kernel
theorem dX12_as_36 : decode cX12_as 36 = .ok (.if_icmp .eq 23, 3) := by decide +kernel
theorem dX12_as_39 : decode cX12_as 39 = .ok (.iload_n 3, 1) := by decide +kernel
theorem dX12_as_40 : decode cX12_as 40 = .ok (.iconst 3, 1) := by decide +kernel
theorem dX12_as_41 : decode cX12_as 41 = .ok (.if_icmp .ne 8, 3) := by decide +kernel
theorem dX12_as_44 : decode cX12_as 44 = .ok (.iload_n 2, 1) := by decide +kernel
theorem dX12_as_45 : decode cX12_as 45 = .ok (.iconst 2, 1) := by decide +kernel
theorem dX12_as_46 : decode cX12_as 46 = .ok (.if_icmp .eq 13, 3) := by decide +kernel
theorem dX12_as_49 : decode cX12_as 49 = .ok (.iload_n 3, 1) := by decide +kernel
theorem dX12_as_50 : decode cX12_as 50 = .ok (.iconst 5, 1) := by decide +kernel
theorem dX12_as_51 : decode cX12_as 51 = .ok (.if_icmp .ne 12, 3) := by decide +kernel
theorem dX12_as_54 : decode cX12_as 54 = .ok (.iload_n 2, 1) := by decide +kernel
theorem dX12_as_55 : decode cX12_as 55 = .ok (.iconst 1, 1) := by decide +kernel
theorem dX12_as_56 : decode cX12_as 56 = .ok (.if_icmp .ne 7, 3) := by decide +kernel
theorem dX12_as_59 : decode cX12_as 59 = .ok (.iconst 1, 1) := by decide +kernel
theorem dX12_as_60 : decode cX12_as 60 = .ok (.goto 4, 3) := by decide +kernel
theorem dX12_as_63 : decode cX12_as 63 = .ok (.iconst 0, 1) := by decide +kernel
theorem dX12_as_64 : decode cX12_as 64 = .ok (.istore 4, 2) := by decide +kernel
theorem dX12_as_66 : decode cX12_as 66 = .ok (.iload 4, 2) := by decide +kernel
theorem dX12_as_68 : decode cX12_as 68 = .ok (.ifCond .eq 7, 3) := by decide +kernel
theorem dX12_as_71 : decode cX12_as 71 = .ok (.iload_n 1, 1) := by decide +kernel
theorem dX12_as_72 : decode cX12_as 72 = .ok (.goto 8, 3) := by decide +kernel
theorem dX12_as_75 : decode cX12_as 75 = .ok (.aload_n 0, 1) := by decide +kernel
theorem dX12_as_76 : decode cX12_as 76 = .ok (.iconst 2, 1) := by decide +kernel
theorem dX12_as_77 : decode cX12_as 77 = .ok (.invokevirtual 190, 3) := by decide +kernel
theorem dX12_as_80 : decode cX12_as 80 = .ok (.ireturn, 1) := by decide +kernel
theorem dX12_key_0 : decode cX12_key 0 = .ok (.aload_n 0, 1) := by decide +kernel
theorem dX12_key_1 : decode cX12_key 1 = .ok (.iload_n 1, 1) := by decide +kernel
theorem dX12_key_2 : decode cX12_key 2 = .ok (.invokevirtual 193, 3) := by decide +kernel
theorem dX12_key_5 : decode cX12_key 5 = .ok (.ifCond .eq 10, 3) := by decide +kernel
theorem dX12_key_8 : decode cX12_key 8 = .ok (.iload_n 2, 1) := by decide +kernel
theorem dX12_key_9 : decode cX12_key 9 = .ok (.invokestatic 235, 3) := by decide +kernel
theorem dX12_key_12 : decode cX12_key 12 = .ok (.ifCond .ne 9, 3) := by decide +kernel
theorem dX12_key_15 : decode cX12_key 15 = .ok (.aload_n 0, 1) := by decide +kernel
theorem dX12_key_16 : decode cX12_key 16 = .ok (.iconst 0, 1) := by decide +kernel
theorem dX12_key_17 : decode cX12_key 17 = .ok (.invokevirtual 190, 3) := by decide +kernel
theorem dX12_key_20 : decode cX12_key 20 = .ok (.ireturn, 1) := by decide +kernel
theorem dX12_key_21 : decode cX12_key 21 = .ok (.aload_n 0, 1) := by decide +kernel
theorem dX12_key_22 : decode cX12_key 22 = .ok (.getfield 7, 3) := by decide +kernel
theorem dX12_key_25 : decode cX12_key 25 = .ok (.bipush 30, 2) := by decide +kernel
theorem dX12_key_27 : decode cX12_key 27 = .ok (.iload_n 1, 1) := by decide +kernel
theorem dX12_key_28 : decode cX12_key 28 = .ok (.iadd, 1) := by decide +kernel
theorem dX12_key_29 : decode cX12_key 29 = .ok (.iaload, 1) := by decide +kernel
theorem dX12_key_30 : decode cX12_key 30 = .ok (.istore 4, 2) := by decide +kernel
theorem dX12_key_32 : decode cX12_key 32 = .ok (.aload_n 0, 1) := by decide +kernel
theorem dX12_key_33 : decode cX12_key 33 = .ok (.getfield 7, 3) := by decide +kernel
theorem dX12_key_36 : decode cX12_key 36 = .ok (.bipush 30, 2) := by decide +kernel
theorem dX12_key_38 : decode cX12_key 38 = .ok (.iload_n 1, 1) := by decide +kernel
theorem dX12_key_39 : decode cX12_key 39 = .ok (.iadd, 1) := by decide +kernel
theorem dX12_key_40 : decode cX12_key 40 = .ok (.iload_n 3, 1) := by decide +kernel
theorem dX12_key_41 : decode cX12_key 41 = .ok (.ifCond .eq 12, 3) := by decide +kernel
theorem dX12_key_44 : decode cX12_key 44 = .ok (.iload 4, 2) := by decide +kernel
theorem dX12_key_46 : decode cX12_key 46 = .ok (.iconst 1, 1) := by decide +kernel
theorem dX12_key_47 : decode cX12_key 47 = .ok (.iload_n 2, 1) := by decide +kernel
theorem dX12_key_48 : decode cX12_key 48 = .ok (.ishl, 1) := by decide +kernel
theorem dX12_key_49 : decode cX12_key 49 = .ok (.ior, 1) := by decide +kernel
theorem dX12_key_50 : decode cX12_key 50 = .ok (.goto 11, 3) := by decide +kernel
theorem dX12_key_53 : decode cX12_key 53 = .ok (.iload 4, 2) := by decide +kernel
theorem dX12_key_55 : decode cX12_key 55 = .ok (.iconst 1, 1) := by decide +kernel
theorem dX12_key_56 : decode cX12_key 56 = .ok (.iload_n 2, 1) := by decide +kernel
theorem dX12_key_57 : decode cX12_key 57 = .ok (.ishl, 1) := by decide +kernel
theorem dX12_key_58 : decode cX12_key 58 = .ok (.iconst (-1), 1) := by decide +kernel
theorem dX12_key_59 : decode cX12_key 59 = .ok (.ixor, 1) := by decide +kernel
theorem dX12_key_60 : decode cX12_key 60 = .ok (.iand, 1) := by decide +kernel
theorem dX12_key_61 : decode cX12_key 61 = .ok (.iastore, 1) := by decide +kernel
theorem dX12_key_62 : decode cX12_key 62 = .ok (.iload 4, 2) := by decide +kernel
theorem dX12_key_64 : decode cX12_key 64 = .ok (.aload_n 0, 1) := by decide +kernel
theorem dX12_key_65 : decode cX12_key 65 = .ok (.getfield 7, 3) := by decide +kernel
theorem dX12_key_68 : decode cX12_key 68 = .ok (.bipush 30, 2) := by decide +kernel
theorem dX12_key_70 : decode cX12_key 70 = .ok (.iload_n 1, 1) := by decide +kernel
theorem dX12_key_71 : decode cX12_key 71 = .ok (.iadd, 1) := by decide +kernel
theorem dX12_key_72 : decode cX12_key 72 = .ok (.iaload, 1) := by decide +kernel
theorem dX12_key_73 : decode cX12_key 73 = .ok (.if_icmp .ne 7, 3) := by decide +kernel
theorem dX12_key_76 : decode cX12_key 76 = .ok (.iconst 0, 1) := by decide +kernel
theorem dX12_key_77 : decode cX12_key 77 = .ok (.goto 4, 3) := by decide +kernel
theorem dX12_key_80 : decode cX12_key 80 = .ok (.iconst 1, 1) := by decide +kernel
theorem dX12_key_81 : decode cX12_key 81 = .ok (.ireturn, 1) := by decide +kernel
theorem dX12_lend_0 : decode cX12_lend 0 = .ok (.aload_n 0, 1) := by decide +kernel
theorem dX12_lend_1 : decode cX12_lend 1 = .ok (.iload_n 1, 1) := by decide +kernel
theorem dX12_lend_2 : decode cX12_lend 2 = .ok (.invokevirtual 193, 3) := by decide +kernel
theorem dX12_lend_5 : decode cX12_lend 5 = .ok (.ifCond .eq 23, 3) := by decide +kernel
theorem dX12_lend_8 : decode cX12_lend 8 = .ok (.aload_n 0, 1) := by decide +kernel
theorem dX12_lend_9 : decode cX12_lend 9 = .ok (.iload_n 2, 1) := by decide +kernel
theorem dX12_lend_10 : decode cX12_lend 10 = .ok (.invokevirtual 193, 3) := by decide +kernel
theorem dX12_lend_13 : decode cX12_lend 13 = .ok (.ifCond .eq 15, 3) := by decide +kernel
theorem dX12_lend_16 : decode cX12_lend 16 = .ok (.iload_n 1, 1) := by decide +kernel
theorem dX12_lend_17 : decode cX12_lend 17 = .ok (.iload_n 2, 1) := by decide +kernel
theorem dX12_lend_18 : decode cX12_lend 18 = .ok (.if_icmp .eq 10, 3) := by decide +kernel
theorem dX12_lend_21 : decode cX12_lend 21 = .ok (.iload_n 3, 1) := by decide +kernel
theorem dX12_lend_22 : decode cX12_lend 22 = .ok (.invokestatic 235, 3) := by decide +kernel
theorem dX12_lend_25 : decode cX12_lend 25 = .ok (.ifCond .ne 9, 3) := by decide +kernel
theorem dX12_lend_28 : decode cX12_lend 28 = .ok (.aload_n 0, 1) := by decide +kernel
theorem dX12_lend_29 : decode cX12_lend 29 = .ok (.iconst 0, 1) := by decide +kernel
theorem dX12_lend_30 : decode cX12_lend 30 = .ok (.invokevirtual 190, 3) := by decide +kernel
theorem dX12_lend_33 : decode cX12_lend 33 = .ok (.ireturn, 1) := by decide +kernel
theorem dX12_lend_34 : decode cX12_lend 34 = .ok (.aload_n 0, 1) := by decide +kernel
theorem dX12_lend_35 : decode cX12_lend 35 = .ok (.getfield 7, 3) := by decide +kernel
theorem dX12_lend_38 : decode cX12_lend 38 = .ok (.bipush 30, 2) := by decide +kernel
theorem dX12_lend_40 : decode cX12_lend 40 = .ok (.iload_n 1, 1) := by decide +kernel
theorem dX12_lend_41 : decode cX12_lend 41 = .ok (.iadd, 1) := by decide +kernel
theorem dX12_lend_42 : decode cX12_lend 42 = .ok (.iaload, 1) := by decide +kernel
theorem dX12_lend_43 : decode cX12_lend 43 = .ok (.iload_n 3, 1) := by decide +kernel
theorem dX12_lend_44 : decode cX12_lend 44 = .ok (.ishr, 1) := by decide +kernel
theorem dX12_lend_45 : decode cX12_lend 45 = .ok (.iconst 1, 1) := by decide +kernel
theorem dX12_lend_46 : decode cX12_lend 46 = .ok (.iand, 1) := by decide +kernel
theorem dX12_lend_47 : decode cX12_lend 47 = .ok (.ifCond .ne 9, 3) := by decide +kernel
theorem dX12_lend_50 : decode cX12_lend 50 = .ok (.aload_n 0, 1) := by decide +kernel
theorem dX12_lend_51 : decode cX12_lend 51 = .ok (.iconst 3, 1) := by decide +kernel
theorem dX12_lend_52 : decode cX12_lend 52 = .ok (.invokevirtual 190, 3) := by decide +kernel
theorem dX12_lend_55 : decode cX12_lend 55 = .ok (.ireturn, 1) := by decide +kernel
theorem dX12_lend_56 : decode cX12_lend 56 = .ok (.aload_n 0, 1) := by decide +kernel
theorem dX12_lend_57 : decode cX12_lend 57 = .ok (.getfield 7, 3) := by decide +kernel
theorem dX12_lend_60 : decode cX12_lend 60 = .ok (.iconst 4, 1) := by decide +kernel
theorem dX12_lend_61 : decode cX12_lend 61 = .ok (.iaload, 1) := by decide +kernel
theorem dX12_lend_62 : decode cX12_lend 62 = .ok (.bipush 20, 2) := by decide +kernel
theorem dX12_lend_64 : decode cX12_lend 64 = .ok (.if_icmp .ne 9, 3) := by decide +kernel
theorem dX12_lend_67 : decode cX12_lend 67 = .ok (.aload_n 0, 1) := by decide +kernel
theorem dX12_lend_68 : decode cX12_lend 68 = .ok (.iconst 1, 1) := by decide +kernel
theorem dX12_lend_69 : decode cX12_lend 69 = .ok (.invokevirtual 190, 3) := by decide +kernel
theorem dX12_lend_72 : decode cX12_lend 72 = .ok (.ireturn, 1) := by decide +kernel
theorem dX12_lend_73 : decode cX12_lend 73 = .ok (.aload_n 0, 1) := by decide +kernel
theorem dX12_lend_74 : decode cX12_lend 74 = .ok (.getfield 7, 3) := by decide +kernel
theorem dX12_lend_77 : decode cX12_lend 77 = .ok (.sipush 200, 3) := by decide +kernel
theorem dX12_lend_80 : decode cX12_lend 80 = .ok (.iconst 2, 1) := by decide +kernel
theorem dX12_lend_81 : decode cX12_lend 81 = .ok (.aload_n 0, 1) := by decide +kernel
theorem dX12_lend_82 : decode cX12_lend 82 = .ok (.getfield 7, 3) := by decide +kernel
theorem dX12_lend_85 : decode cX12_lend 85 = .ok (.iconst 4, 1) := by decide +kernel
theorem dX12_lend_86 : decode cX12_lend 86 = .ok (.iaload, 1) := by decide +kernel
theorem dX12_lend_87 : decode cX12_lend 87 = .ok (.imul, 1) := by decide +kernel
theorem dX12_lend_88 : decode cX12_lend 88 = .ok (.iadd, 1) := by decide +kernel
theorem dX12_lend_89 : decode cX12_lend 89 = .ok (.iload_n 2, 1) := by decide +kernel
theorem dX12_lend_90 : decode cX12_lend 90 = .ok (.iastore, 1) := by decide +kernel
theorem dX12_lend_91 : decode cX12_lend 91 = .ok (.aload_n 0, 1) := by decide +kernel
theorem dX12_lend_92 : decode cX12_lend 92 = .ok (.getfield 7, 3) := by decide +kernel
theorem dX12_lend_95 : decode cX12_lend 95 = .ok (.sipush 200, 3) := by decide +kernel
theorem dX12_lend_98 : decode cX12_lend 98 = .ok (.iconst 2, 1) := by decide +kernel
theorem dX12_lend_99 : decode cX12_lend 99 = .ok (.aload_n 0, 1) := by decide +kernel
theorem dX12_lend_100 : decode cX12_lend 100 = .ok (.getfield 7, 3) := by decide +kernel
theorem dX12_lend_103 : decode cX12_lend 103 = .ok (.iconst 4, 1) := by decide +kernel
theorem dX12_lend_104 : decode cX12_lend 104 = .ok (.iaload, 1) := by decide +kernel
theorem dX12_lend_105 : decode cX12_lend 105 = .ok (.imul, 1) := by decide +kernel
theorem dX12_lend_106 : decode cX12_lend 106 = .ok (.iadd, 1) := by decide +kernel
theorem dX12_lend_107 : decode cX12_lend 107 = .ok (.iconst 1, 1) := by decide +kernel
theorem dX12_lend_108 : decode cX12_lend 108 = .ok (.iadd, 1) := by decide +kernel
theorem dX12_lend_109 : decode cX12_lend 109 = .ok (.iload_n 3, 1) := by decide +kernel
theorem dX12_lend_110 : decode cX12_lend 110 = .ok (.iastore, 1) := by decide +kernel
theorem dX12_lend_111 : decode cX12_lend 111 = .ok (.aload_n 0, 1) := by decide +kernel
theorem dX12_lend_112 : decode cX12_lend 112 = .ok (.getfield 7, 3) := by decide +kernel
theorem dX12_lend_115 : decode cX12_lend 115 = .ok (.iconst 4, 1) := by decide +kernel
theorem dX12_lend_116 : decode cX12_lend 116 = .ok (.dup2, 1) := by decide +kernel
theorem dX12_lend_117 : decode cX12_lend 117 = .ok (.iaload, 1) := by decide +kernel
theorem dX12_lend_118 : decode cX12_lend 118 = .ok (.iconst 1, 1) := by decide +kernel
theorem dX12_lend_119 : decode cX12_lend 119 = .ok (.iadd, 1) := by decide +kernel
theorem dX12_lend_120 : decode cX12_lend 120 = .ok (.iastore, 1) := by decide +kernel
theorem dX12_lend_121 : decode cX12_lend 121 = .ok (.aload_n 0, 1) := by decide +kernel
theorem dX12_lend_122 : decode cX12_lend 122 = .ok (.getfield 7, 3) := by decide +kernel
theorem dX12_lend_125 : decode cX12_lend 125 = .ok (.iconst 4, 1) := by decide +kernel
theorem dX12_lend_126 : decode cX12_lend 126 = .ok (.iaload, 1) := by decide +kernel
theorem dX12_lend_127 : decode cX12_lend 127 = .ok (.ireturn, 1) := by decide +kernel
theorem dX12_opensWith_0 : decode cX12_opensWith 0 = .ok (.iconst 0, 1) := by decide +kernel
theorem dX12_opensWith_1 : decode cX12_opensWith 1 = .ok (.istore_n 2, 1) := by decide +kernel
theorem dX12_opensWith_2 : decode cX12_opensWith 2 = .ok (.iload_n 2, 1) := by decide +kernel
theorem dX12_opensWith_3 : decode cX12_opensWith 3 = .ok (.aload_n 0, 1) := by decide +kernel
theorem dX12_opensWith_4 : decode cX12_opensWith 4 = .ok (.getfield 7, 3) := by decide +kernel
theorem dX12_opensWith_7 : decode cX12_opensWith 7 = .ok (.iconst 3, 1) := by decide +kernel
theorem dX12_opensWith_8 : decode cX12_opensWith 8 = .ok (.iaload, 1) := by decide +kernel
theorem dX12_opensWith_9 : decode cX12_opensWith 9 = .ok (.if_icmp .ge 225, 3) := by decide +kernel
theorem dX12_opensWith_12 : decode cX12_opensWith 12 = .ok (.aload_n 0, 1) := by decide +kernel
theorem dX12_opensWith_13 : decode cX12_opensWith 13 = .ok (.iload_n 2, 1) := by decide +kernel
theorem dX12_opensWith_14 : decode cX12_opensWith 14 = .ok (.iconst 3, 1) := by decide +kernel
theorem dX12_opensWith_15 : decode cX12_opensWith 15 = .ok (.invokevirtual 245, 3) := by decide +kernel
theorem dX12_opensWith_18 : decode cX12_opensWith 18 = .ok (.istore_n 3, 1) := by decide +kernel
theorem dX12_opensWith_19 : decode cX12_opensWith 19 = .ok (.aload_n 0, 1) := by decide +kernel
theorem dX12_opensWith_20 : decode cX12_opensWith 20 = .ok (.iload_n 2, 1) := by decide +kernel
theorem dX12_opensWith_21 : decode cX12_opensWith 21 = .ok (.iconst 0, 1) := by decide +kernel
theorem dX12_opensWith_22 : decode cX12_opensWith 22 = .ok (.invokevirtual 245, 3) := by decide +kernel
theorem dX12_opensWith_25 : decode cX12_opensWith 25 = .ok (.tableswitch 186 1 5 #[35, 102, 144, 186, 58], 35) := by decide +kernel
theorem dX12_opensWith_60 : decode cX12_opensWith 60 = .ok (.aload_n 0, 1) := by decide +kernel
theorem dX12_opensWith_61 : decode cX12_opensWith 61 = .ok (.getfield 35, 3) := by decide +kernel
theorem dX12_opensWith_64 : decode cX12_opensWith 64 = .ok (.iload_n 2, 1) := by decide +kernel
theorem dX12_opensWith_65 : decode cX12_opensWith 65 = .ok (.iload_n 1, 1) := by decide +kernel
theorem dX12_opensWith_66 : decode cX12_opensWith 66 = .ok (.iload_n 3, 1) := by decide +kernel
theorem dX12_opensWith_67 : decode cX12_opensWith 67 = .ok (.ishr, 1) := by decide +kernel
theorem dX12_opensWith_68 : decode cX12_opensWith 68 = .ok (.iconst 1, 1) := by decide +kernel
theorem dX12_opensWith_69 : decode cX12_opensWith 69 = .ok (.iand, 1) := by decide +kernel
theorem dX12_opensWith_70 : decode cX12_opensWith 70 = .ok (.iconst 1, 1) := by decide +kernel
theorem dX12_opensWith_71 : decode cX12_opensWith 71 = .ok (.if_icmp .ne 7, 3) := by decide +kernel
theorem dX12_opensWith_74 : decode cX12_opensWith 74 = .ok (.iconst 1, 1) := by decide +kernel
theorem dX12_opensWith_75 : decode cX12_opensWith 75 = .ok (.goto 4, 3) := by decide +kernel
theorem dX12_opensWith_78 : decode cX12_opensWith 78 = .ok (.iconst 0, 1) := by decide +kernel
theorem dX12_opensWith_79 : decode cX12_opensWith 79 = .ok (.bastore, 1) := by decide +kernel
theorem dX12_opensWith_80 : decode cX12_opensWith 80 = .ok (.goto 148, 3) := by decide +kernel
theorem dX12_opensWith_83 : decode cX12_opensWith 83 = .ok (.aload_n 0, 1) := by decide +kernel
theorem dX12_opensWith_84 : decode cX12_opensWith 84 = .ok (.getfield 35, 3) := by decide +kernel
theorem dX12_opensWith_87 : decode cX12_opensWith 87 = .ok (.iload_n 2, 1) := by decide +kernel
theorem dX12_opensWith_88 : decode cX12_opensWith 88 = .ok (.iload_n 1, 1) := by decide +kernel
theorem dX12_opensWith_89 : decode cX12_opensWith 89 = .ok (.iload_n 3, 1) := by decide +kernel
theorem dX12_opensWith_90 : decode cX12_opensWith 90 = .ok (.ishr, 1) := by decide +kernel
theorem dX12_opensWith_91 : decode cX12_opensWith 91 = .ok (.iconst 1, 1) := by decide +kernel
theorem dX12_opensWith_92 : decode cX12_opensWith 92 = .ok (.iand, 1) := by decide +kernel
theorem dX12_opensWith_93 : decode cX12_opensWith 93 = .ok (.iconst 1, 1) := by decide +kernel
theorem dX12_opensWith_94 : decode cX12_opensWith 94 = .ok (.if_icmp .eq 24, 3) := by decide +kernel
theorem dX12_opensWith_97 : decode cX12_opensWith 97 = .ok (.iload_n 1, 1) := by decide +kernel
theorem dX12_opensWith_98 : decode cX12_opensWith 98 = .ok (.iload_n 3, 1) := by decide +kernel
theorem dX12_opensWith_99 : decode cX12_opensWith 99 = .ok (.bipush 23, 2) := by decide +kernel
theorem dX12_opensWith_101 : decode cX12_opensWith 101 = .ok (.if_icmp .ne 7, 3) := by decide +kernel
theorem dX12_opensWith_104 : decode cX12_opensWith 104 = .ok (.iconst 0, 1) := by decide +kernel
theorem dX12_opensWith_105 : decode cX12_opensWith 105 = .ok (.goto 6, 3) := by decide +kernel
theorem dX12_opensWith_108 : decode cX12_opensWith 108 = .ok (.iload_n 3, 1) := by decide +kernel
theorem dX12_opensWith_109 : decode cX12_opensWith 109 = .ok (.iconst 1, 1) := by decide +kernel
theorem dX12_opensWith_110 : decode cX12_opensWith 110 = .ok (.iadd, 1) := by decide +kernel
theorem dX12_opensWith_111 : decode cX12_opensWith 111 = .ok (.ishr, 1) := by decide +kernel
theorem dX12_opensWith_112 : decode cX12_opensWith 112 = .ok (.iconst 1, 1) := by decide +kernel
theorem dX12_opensWith_113 : decode cX12_opensWith 113 = .ok (.iand, 1) := by decide +kernel
theorem dX12_opensWith_114 : decode cX12_opensWith 114 = .ok (.iconst 1, 1) := by decide +kernel
theorem dX12_opensWith_115 : decode cX12_opensWith 115 = .ok (.if_icmp .ne 7, 3) := by decide +kernel
theorem dX12_opensWith_118 : decode cX12_opensWith 118 = .ok (.iconst 1, 1) := by decide +kernel
theorem dX12_opensWith_119 : decode cX12_opensWith 119 = .ok (.goto 4, 3) := by decide +kernel
theorem dX12_opensWith_122 : decode cX12_opensWith 122 = .ok (.iconst 0, 1) := by decide +kernel
theorem dX12_opensWith_123 : decode cX12_opensWith 123 = .ok (.bastore, 1) := by decide +kernel
theorem dX12_opensWith_124 : decode cX12_opensWith 124 = .ok (.goto 104, 3) := by decide +kernel
theorem dX12_opensWith_127 : decode cX12_opensWith 127 = .ok (.aload_n 0, 1) := by decide +kernel
theorem dX12_opensWith_128 : decode cX12_opensWith 128 = .ok (.getfield 35, 3) := by decide +kernel
theorem dX12_opensWith_131 : decode cX12_opensWith 131 = .ok (.iload_n 2, 1) := by decide +kernel
theorem dX12_opensWith_132 : decode cX12_opensWith 132 = .ok (.aload_n 0, 1) := by decide +kernel
theorem dX12_opensWith_133 : decode cX12_opensWith 133 = .ok (.getfield 35, 3) := by decide +kernel
theorem dX12_opensWith_136 : decode cX12_opensWith 136 = .ok (.aload_n 0, 1) := by decide +kernel
theorem dX12_opensWith_137 : decode cX12_opensWith 137 = .ok (.iload_n 2, 1) := by decide +kernel
theorem dX12_opensWith_138 : decode cX12_opensWith 138 = .ok (.iconst 1, 1) := by decide +kernel
theorem dX12_opensWith_139 : decode cX12_opensWith 139 = .ok (.invokevirtual 245, 3) := by decide +kernel
theorem dX12_opensWith_142 : decode cX12_opensWith 142 = .ok (.baload, 1) := by decide +kernel
theorem dX12_opensWith_143 : decode cX12_opensWith 143 = .ok (.ifCond .ne 17, 3) := by decide +kernel
theorem dX12_opensWith_146 : decode cX12_opensWith 146 = .ok (.aload_n 0, 1) := by decide +kernel
theorem dX12_opensWith_147 : decode cX12_opensWith 147 = .ok (.getfield 35, 3) := by decide +kernel
theorem dX12_opensWith_150 : decode cX12_opensWith 150 = .ok (.aload_n 0, 1) := by decide +kernel
theorem dX12_opensWith_151 : decode cX12_opensWith 151 = .ok (.iload_n 2, 1) := by decide +kernel
theorem dX12_opensWith_152 : decode cX12_opensWith 152 = .ok (.iconst 2, 1) := by decide +kernel
theorem dX12_opensWith_153 : decode cX12_opensWith 153 = .ok (.invokevirtual 245, 3) := by decide +kernel
theorem dX12_opensWith_156 : decode cX12_opensWith 156 = .ok (.baload, 1) := by decide +kernel
theorem dX12_opensWith_157 : decode cX12_opensWith 157 = .ok (.ifCond .eq 7, 3) := by decide +kernel
theorem dX12_opensWith_160 : decode cX12_opensWith 160 = .ok (.iconst 1, 1) := by decide +kernel
theorem dX12_opensWith_161 : decode cX12_opensWith 161 = .ok (.goto 4, 3) := by decide +kernel
theorem dX12_opensWith_164 : decode cX12_opensWith 164 = .ok (.iconst 0, 1) := by decide +kernel
theorem dX12_opensWith_165 : decode cX12_opensWith 165 = .ok (.bastore, 1) := by decide +kernel
theorem dX12_opensWith_166 : decode cX12_opensWith 166 = .ok (.goto 62, 3) := by decide +kernel
theorem dX12_opensWith_169 : decode cX12_opensWith 169 = .ok (.aload_n 0, 1) := by decide +kernel
theorem dX12_opensWith_170 : decode cX12_opensWith 170 = .ok (.getfield 35, 3) := by decide +kernel
theorem dX12_opensWith_173 : decode cX12_opensWith 173 = .ok (.iload_n 2, 1) := by decide +kernel
theorem dX12_opensWith_174 : decode cX12_opensWith 174 = .ok (.aload_n 0, 1) := by decide +kernel
theorem dX12_opensWith_175 : decode cX12_opensWith 175 = .ok (.getfield 35, 3) := by decide +kernel
theorem dX12_opensWith_178 : decode cX12_opensWith 178 = .ok (.aload_n 0, 1) := by decide +kernel
theorem dX12_opensWith_179 : decode cX12_opensWith 179 = .ok (.iload_n 2, 1) := by decide +kernel
theorem dX12_opensWith_180 : decode cX12_opensWith 180 = .ok (.iconst 1, 1) := by decide +kernel
theorem dX12_opensWith_181 : decode cX12_opensWith 181 = .ok (.invokevirtual 245, 3) := by decide +kernel
theorem dX12_opensWith_184 : decode cX12_opensWith 184 = .ok (.baload, 1) := by decide +kernel
theorem dX12_opensWith_185 : decode cX12_opensWith 185 = .ok (.ifCond .eq 21, 3) := by decide +kernel
theorem dX12_opensWith_188 : decode cX12_opensWith 188 = .ok (.aload_n 0, 1) := by decide +kernel
theorem dX12_opensWith_189 : decode cX12_opensWith 189 = .ok (.getfield 35, 3) := by decide +kernel
theorem dX12_opensWith_192 : decode cX12_opensWith 192 = .ok (.aload_n 0, 1) := by decide +kernel
theorem dX12_opensWith_193 : decode cX12_opensWith 193 = .ok (.iload_n 2, 1) := by decide +kernel
theorem dX12_opensWith_194 : decode cX12_opensWith 194 = .ok (.iconst 2, 1) := by decide +kernel
theorem dX12_opensWith_195 : decode cX12_opensWith 195 = .ok (.invokevirtual 245, 3) := by decide +kernel
theorem dX12_opensWith_198 : decode cX12_opensWith 198 = .ok (.baload, 1) := by decide +kernel
theorem dX12_opensWith_199 : decode cX12_opensWith 199 = .ok (.ifCond .eq 7, 3) := by decide +kernel
theorem dX12_opensWith_202 : decode cX12_opensWith 202 = .ok (.iconst 1, 1) := by decide +kernel
theorem dX12_opensWith_203 : decode cX12_opensWith 203 = .ok (.goto 4, 3) := by decide +kernel
theorem dX12_opensWith_206 : decode cX12_opensWith 206 = .ok (.iconst 0, 1) := by decide +kernel
theorem dX12_opensWith_207 : decode cX12_opensWith 207 = .ok (.bastore, 1) := by decide +kernel
theorem dX12_opensWith_208 : decode cX12_opensWith 208 = .ok (.goto 20, 3) := by decide +kernel
theorem dX12_opensWith_211 : decode cX12_opensWith 211 = .ok (.aload_n 0, 1) := by decide +kernel
theorem dX12_opensWith_212 : decode cX12_opensWith 212 = .ok (.getfield 35, 3) := by decide +kernel
theorem dX12_opensWith_215 : decode cX12_opensWith 215 = .ok (.iload_n 2, 1) := by decide +kernel
theorem dX12_opensWith_216 : decode cX12_opensWith 216 = .ok (.aload_n 0, 1) := by decide +kernel
theorem dX12_opensWith_217 : decode cX12_opensWith 217 = .ok (.getfield 35, 3) := by decide +kernel
theorem dX12_opensWith_220 : decode cX12_opensWith 220 = .ok (.aload_n 0, 1) := by decide +kernel
theorem dX12_opensWith_221 : decode cX12_opensWith 221 = .ok (.iload_n 2, 1) := by decide +kernel
theorem dX12_opensWith_222 : decode cX12_opensWith 222 = .ok (.iconst 1, 1) := by decide +kernel
theorem dX12_opensWith_223 : decode cX12_opensWith 223 = .ok (.invokevirtual 245, 3) := by decide +kernel
theorem dX12_opensWith_226 : decode cX12_opensWith 226 = .ok (.baload, 1) := by decide +kernel
theorem dX12_opensWith_227 : decode cX12_opensWith 227 = .ok (.bastore, 1) := by decide +kernel
theorem dX12_opensWith_228 : decode cX12_opensWith 228 = .ok (.iinc 2 1, 3) := by decide +kernel
theorem dX12_opensWith_231 : decode cX12_opensWith 231 = .ok (.goto (-229), 3) := by decide +kernel
theorem dX12_opensWith_234 : decode cX12_opensWith 234 = .ok (.return_, 1) := by decide +kernel
theorem dX12_comesOf_0 : decode cX12_comesOf 0 = .ok (.iload_n 1, 1) := by decide +kernel
theorem dX12_comesOf_1 : decode cX12_comesOf 1 = .ok (.istore_n 2, 1) := by decide +kernel
theorem dX12_comesOf_2 : decode cX12_comesOf 2 = .ok (.iconst 0, 1) := by decide +kernel
theorem dX12_comesOf_3 : decode cX12_comesOf 3 = .ok (.istore_n 3, 1) := by decide +kernel
theorem dX12_comesOf_4 : decode cX12_comesOf 4 = .ok (.iload_n 3, 1) := by decide +kernel
theorem dX12_comesOf_5 : decode cX12_comesOf 5 = .ok (.aload_n 0, 1) := by decide +kernel
theorem dX12_comesOf_6 : decode cX12_comesOf 6 = .ok (.getfield 7, 3) := by decide +kernel
theorem dX12_comesOf_9 : decode cX12_comesOf 9 = .ok (.iconst 3, 1) := by decide +kernel
theorem dX12_comesOf_10 : decode cX12_comesOf 10 = .ok (.iaload, 1) := by decide +kernel
theorem dX12_comesOf_11 : decode cX12_comesOf 11 = .ok (.if_icmp .ge 16, 3) := by decide +kernel
theorem dX12_comesOf_14 : decode cX12_comesOf 14 = .ok (.aload_n 0, 1) := by decide +kernel
theorem dX12_comesOf_15 : decode cX12_comesOf 15 = .ok (.getfield 38, 3) := by decide +kernel
theorem dX12_comesOf_18 : decode cX12_comesOf 18 = .ok (.iload_n 3, 1) := by decide +kernel
theorem dX12_comesOf_19 : decode cX12_comesOf 19 = .ok (.iconst 0, 1) := by decide +kernel
theorem dX12_comesOf_20 : decode cX12_comesOf 20 = .ok (.iastore, 1) := by decide +kernel
theorem dX12_comesOf_21 : decode cX12_comesOf 21 = .ok (.iinc 3 1, 3) := by decide +kernel
theorem dX12_comesOf_24 : decode cX12_comesOf 24 = .ok (.goto (-20), 3) := by decide +kernel
theorem dX12_comesOf_27 : decode cX12_comesOf 27 = .ok (.iconst 1, 1) := by decide +kernel
theorem dX12_comesOf_28 : decode cX12_comesOf 28 = .ok (.istore_n 3, 1) := by decide +kernel
theorem dX12_comesOf_29 : decode cX12_comesOf 29 = .ok (.iconst 1, 1) := by decide +kernel
theorem dX12_comesOf_30 : decode cX12_comesOf 30 = .ok (.istore 4, 2) := by decide +kernel
theorem dX12_comesOf_32 : decode cX12_comesOf 32 = .ok (.iload_n 3, 1) := by decide +kernel
theorem dX12_comesOf_33 : decode cX12_comesOf 33 = .ok (.ifCond .eq 90, 3) := by decide +kernel
theorem dX12_comesOf_36 : decode cX12_comesOf 36 = .ok (.iconst 0, 1) := by decide +kernel
theorem dX12_comesOf_37 : decode cX12_comesOf 37 = .ok (.istore_n 3, 1) := by decide +kernel
theorem dX12_comesOf_38 : decode cX12_comesOf 38 = .ok (.aload_n 0, 1) := by decide +kernel
theorem dX12_comesOf_39 : decode cX12_comesOf 39 = .ok (.iload_n 2, 1) := by decide +kernel
theorem dX12_comesOf_40 : decode cX12_comesOf 40 = .ok (.invokevirtual 251, 3) := by decide +kernel
theorem dX12_comesOf_43 : decode cX12_comesOf 43 = .ok (.iconst 0, 1) := by decide +kernel
theorem dX12_comesOf_44 : decode cX12_comesOf 44 = .ok (.istore 5, 2) := by decide +kernel
theorem dX12_comesOf_46 : decode cX12_comesOf 46 = .ok (.iload 5, 2) := by decide +kernel
theorem dX12_comesOf_48 : decode cX12_comesOf 48 = .ok (.aload_n 0, 1) := by decide +kernel
theorem dX12_comesOf_49 : decode cX12_comesOf 49 = .ok (.getfield 7, 3) := by decide +kernel
theorem dX12_comesOf_52 : decode cX12_comesOf 52 = .ok (.iconst 3, 1) := by decide +kernel
theorem dX12_comesOf_53 : decode cX12_comesOf 53 = .ok (.iaload, 1) := by decide +kernel
theorem dX12_comesOf_54 : decode cX12_comesOf 54 = .ok (.if_icmp .ge 63, 3) := by decide +kernel
theorem dX12_comesOf_57 : decode cX12_comesOf 57 = .ok (.aload_n 0, 1) := by decide +kernel
theorem dX12_comesOf_58 : decode cX12_comesOf 58 = .ok (.iload 5, 2) := by decide +kernel
theorem dX12_comesOf_60 : decode cX12_comesOf 60 = .ok (.iconst 0, 1) := by decide +kernel
theorem dX12_comesOf_61 : decode cX12_comesOf 61 = .ok (.invokevirtual 245, 3) := by decide +kernel
theorem dX12_comesOf_64 : decode cX12_comesOf 64 = .ok (.iconst 4, 1) := by decide +kernel
theorem dX12_comesOf_65 : decode cX12_comesOf 65 = .ok (.if_icmp .ne 46, 3) := by decide +kernel
theorem dX12_comesOf_68 : decode cX12_comesOf 68 = .ok (.aload_n 0, 1) := by decide +kernel
theorem dX12_comesOf_69 : decode cX12_comesOf 69 = .ok (.getfield 38, 3) := by decide +kernel
theorem dX12_comesOf_72 : decode cX12_comesOf 72 = .ok (.iload 5, 2) := by decide +kernel
theorem dX12_comesOf_74 : decode cX12_comesOf 74 = .ok (.iaload, 1) := by decide +kernel
theorem dX12_comesOf_75 : decode cX12_comesOf 75 = .ok (.ifCond .ne 36, 3) := by decide +kernel
theorem dX12_comesOf_78 : decode cX12_comesOf 78 = .ok (.aload_n 0, 1) := by decide +kernel
theorem dX12_comesOf_79 : decode cX12_comesOf 79 = .ok (.getfield 35, 3) := by decide +kernel
theorem dX12_comesOf_82 : decode cX12_comesOf 82 = .ok (.iload 5, 2) := by decide +kernel
theorem dX12_comesOf_84 : decode cX12_comesOf 84 = .ok (.baload, 1) := by decide +kernel
theorem dX12_comesOf_85 : decode cX12_comesOf 85 = .ok (.ifCond .eq 26, 3) := by decide +kernel
theorem dX12_comesOf_88 : decode cX12_comesOf 88 = .ok (.aload_n 0, 1) := by decide +kernel
theorem dX12_comesOf_89 : decode cX12_comesOf 89 = .ok (.getfield 38, 3) := by decide +kernel
theorem dX12_comesOf_92 : decode cX12_comesOf 92 = .ok (.iload 5, 2) := by decide +kernel
theorem dX12_comesOf_94 : decode cX12_comesOf 94 = .ok (.iload 4, 2) := by decide +kernel
theorem dX12_comesOf_96 : decode cX12_comesOf 96 = .ok (.iastore, 1) := by decide +kernel
theorem dX12_comesOf_97 : decode cX12_comesOf 97 = .ok (.iload_n 2, 1) := by decide +kernel
theorem dX12_comesOf_98 : decode cX12_comesOf 98 = .ok (.iconst 1, 1) := by decide +kernel
theorem dX12_comesOf_99 : decode cX12_comesOf 99 = .ok (.aload_n 0, 1) := by decide +kernel
theorem dX12_comesOf_100 : decode cX12_comesOf 100 = .ok (.iload 5, 2) := by decide +kernel
theorem dX12_comesOf_102 : decode cX12_comesOf 102 = .ok (.iconst 3, 1) := by decide +kernel
theorem dX12_comesOf_103 : decode cX12_comesOf 103 = .ok (.invokevirtual 245, 3) := by decide +kernel
theorem dX12_comesOf_106 : decode cX12_comesOf 106 = .ok (.ishl, 1) := by decide +kernel
theorem dX12_comesOf_107 : decode cX12_comesOf 107 = .ok (.ior, 1) := by decide +kernel
theorem dX12_comesOf_108 : decode cX12_comesOf 108 = .ok (.istore_n 2, 1) := by decide +kernel
theorem dX12_comesOf_109 : decode cX12_comesOf 109 = .ok (.iconst 1, 1) := by decide +kernel
theorem dX12_comesOf_110 : decode cX12_comesOf 110 = .ok (.istore_n 3, 1) := by decide +kernel
theorem dX12_comesOf_111 : decode cX12_comesOf 111 = .ok (.iinc 5 1, 3) := by decide +kernel
theorem dX12_comesOf_114 : decode cX12_comesOf 114 = .ok (.goto (-68), 3) := by decide +kernel
theorem dX12_comesOf_117 : decode cX12_comesOf 117 = .ok (.iinc 4 1, 3) := by decide +kernel
theorem dX12_comesOf_120 : decode cX12_comesOf 120 = .ok (.goto (-88), 3) := by decide +kernel
theorem dX12_comesOf_123 : decode cX12_comesOf 123 = .ok (.iload_n 2, 1) := by decide +kernel
theorem dX12_comesOf_124 : decode cX12_comesOf 124 = .ok (.ireturn, 1) := by decide +kernel
theorem dX12_keysOf_0 : decode cX12_keysOf 0 = .ok (.iconst 0, 1) := by decide +kernel
theorem dX12_keysOf_1 : decode cX12_keysOf 1 = .ok (.istore_n 2, 1) := by decide +kernel
theorem dX12_keysOf_2 : decode cX12_keysOf 2 = .ok (.iconst 0, 1) := by decide +kernel
theorem dX12_keysOf_3 : decode cX12_keysOf 3 = .ok (.istore_n 3, 1) := by decide +kernel
theorem dX12_keysOf_4 : decode cX12_keysOf 4 = .ok (.iload_n 3, 1) := by decide +kernel
theorem dX12_keysOf_5 : decode cX12_keysOf 5 = .ok (.aload_n 0, 1) := by decide +kernel
theorem dX12_keysOf_6 : decode cX12_keysOf 6 = .ok (.getfield 7, 3) := by decide +kernel
theorem dX12_keysOf_9 : decode cX12_keysOf 9 = .ok (.iconst 0, 1) := by decide +kernel
theorem dX12_keysOf_10 : decode cX12_keysOf 10 = .ok (.iaload, 1) := by decide +kernel
theorem dX12_keysOf_11 : decode cX12_keysOf 11 = .ok (.if_icmp .ge 46, 3) := by decide +kernel
theorem dX12_keysOf_14 : decode cX12_keysOf 14 = .ok (.iload_n 2, 1) := by decide +kernel
theorem dX12_keysOf_15 : decode cX12_keysOf 15 = .ok (.iload_n 1, 1) := by decide +kernel
theorem dX12_keysOf_16 : decode cX12_keysOf 16 = .ok (.iload_n 3, 1) := by decide +kernel
theorem dX12_keysOf_17 : decode cX12_keysOf 17 = .ok (.ishr, 1) := by decide +kernel
theorem dX12_keysOf_18 : decode cX12_keysOf 18 = .ok (.iconst 1, 1) := by decide +kernel
theorem dX12_keysOf_19 : decode cX12_keysOf 19 = .ok (.iand, 1) := by decide +kernel
theorem dX12_keysOf_20 : decode cX12_keysOf 20 = .ok (.iconst 1, 1) := by decide +kernel
theorem dX12_keysOf_21 : decode cX12_keysOf 21 = .ok (.if_icmp .ne 27, 3) := by decide +kernel
theorem dX12_keysOf_24 : decode cX12_keysOf 24 = .ok (.aload_n 0, 1) := by decide +kernel
theorem dX12_keysOf_25 : decode cX12_keysOf 25 = .ok (.getfield 7, 3) := by decide +kernel
theorem dX12_keysOf_28 : decode cX12_keysOf 28 = .ok (.bipush 20, 2) := by decide +kernel
theorem dX12_keysOf_30 : decode cX12_keysOf 30 = .ok (.iload_n 3, 1) := by decide +kernel
theorem dX12_keysOf_31 : decode cX12_keysOf 31 = .ok (.iadd, 1) := by decide +kernel
theorem dX12_keysOf_32 : decode cX12_keysOf 32 = .ok (.iaload, 1) := by decide +kernel
theorem dX12_keysOf_33 : decode cX12_keysOf 33 = .ok (.ifCond .ne 15, 3) := by decide +kernel
theorem dX12_keysOf_36 : decode cX12_keysOf 36 = .ok (.aload_n 0, 1) := by decide +kernel
theorem dX12_keysOf_37 : decode cX12_keysOf 37 = .ok (.getfield 7, 3) := by decide +kernel
theorem dX12_keysOf_40 : decode cX12_keysOf 40 = .ok (.bipush 30, 2) := by decide +kernel
theorem dX12_keysOf_42 : decode cX12_keysOf 42 = .ok (.iload_n 3, 1) := by decide +kernel
theorem dX12_keysOf_43 : decode cX12_keysOf 43 = .ok (.iadd, 1) := by decide +kernel
theorem dX12_keysOf_44 : decode cX12_keysOf 44 = .ok (.iaload, 1) := by decide +kernel
theorem dX12_keysOf_45 : decode cX12_keysOf 45 = .ok (.goto 4, 3) := by decide +kernel
theorem dX12_keysOf_48 : decode cX12_keysOf 48 = .ok (.iconst 0, 1) := by decide +kernel
theorem dX12_keysOf_49 : decode cX12_keysOf 49 = .ok (.ior, 1) := by decide +kernel
theorem dX12_keysOf_50 : decode cX12_keysOf 50 = .ok (.istore_n 2, 1) := by decide +kernel
theorem dX12_keysOf_51 : decode cX12_keysOf 51 = .ok (.iinc 3 1, 3) := by decide +kernel
theorem dX12_keysOf_54 : decode cX12_keysOf 54 = .ok (.goto (-50), 3) := by decide +kernel
theorem dX12_keysOf_57 : decode cX12_keysOf 57 = .ok (.iload_n 2, 1) := by decide +kernel
theorem dX12_keysOf_58 : decode cX12_keysOf 58 = .ok (.ireturn, 1) := by decide +kernel
theorem dX12_opensBy_0 : decode cX12_opensBy 0 = .ok (.aload_n 0, 1) := by decide +kernel
theorem dX12_opensBy_1 : decode cX12_opensBy 1 = .ok (.iload_n 2, 1) := by decide +kernel
theorem dX12_opensBy_2 : decode cX12_opensBy 2 = .ok (.invokevirtual 255, 3) := by decide +kernel
theorem dX12_opensBy_5 : decode cX12_opensBy 5 = .ok (.istore_n 3, 1) := by decide +kernel
theorem dX12_opensBy_6 : decode cX12_opensBy 6 = .ok (.aload_n 0, 1) := by decide +kernel
theorem dX12_opensBy_7 : decode cX12_opensBy 7 = .ok (.iload_n 3, 1) := by decide +kernel
theorem dX12_opensBy_8 : decode cX12_opensBy 8 = .ok (.invokevirtual 251, 3) := by decide +kernel
theorem dX12_opensBy_11 : decode cX12_opensBy 11 = .ok (.aload_n 0, 1) := by decide +kernel
theorem dX12_opensBy_12 : decode cX12_opensBy 12 = .ok (.getfield 35, 3) := by decide +kernel
theorem dX12_opensBy_15 : decode cX12_opensBy 15 = .ok (.iload_n 1, 1) := by decide +kernel
theorem dX12_opensBy_16 : decode cX12_opensBy 16 = .ok (.baload, 1) := by decide +kernel
theorem dX12_opensBy_17 : decode cX12_opensBy 17 = .ok (.ireturn, 1) := by decide +kernel
theorem dX12_opens__0 : decode cX12_opens_ 0 = .ok (.aload_n 0, 1) := by decide +kernel
theorem dX12_opens__1 : decode cX12_opens_ 1 = .ok (.iload_n 1, 1) := by decide +kernel
theorem dX12_opens__2 : decode cX12_opens_ 2 = .ok (.invokevirtual 242, 3) := by decide +kernel
theorem dX12_opens__5 : decode cX12_opens_ 5 = .ok (.ifCond .eq 11, 3) := by decide +kernel
theorem dX12_opens__8 : decode cX12_opens_ 8 = .ok (.aload_n 0, 1) := by decide +kernel
theorem dX12_opens__9 : decode cX12_opens_ 9 = .ok (.iload_n 2, 1) := by decide +kernel
theorem dX12_opens__10 : decode cX12_opens_ 10 = .ok (.invokevirtual 202, 3) := by decide +kernel
theorem dX12_opens__13 : decode cX12_opens_ 13 = .ok (.ifCond .ne 9, 3) := by decide +kernel
theorem dX12_opens__16 : decode cX12_opens_ 16 = .ok (.aload_n 0, 1) := by decide +kernel
theorem dX12_opens__17 : decode cX12_opens_ 17 = .ok (.iconst 0, 1) := by decide +kernel
theorem dX12_opens__18 : decode cX12_opens_ 18 = .ok (.invokevirtual 190, 3) := by decide +kernel
theorem dX12_opens__21 : decode cX12_opens_ 21 = .ok (.ireturn, 1) := by decide +kernel
theorem dX12_opens__22 : decode cX12_opens_ 22 = .ok (.aload_n 0, 1) := by decide +kernel
theorem dX12_opens__23 : decode cX12_opens_ 23 = .ok (.iload_n 1, 1) := by decide +kernel
theorem dX12_opens__24 : decode cX12_opens_ 24 = .ok (.aload_n 0, 1) := by decide +kernel
theorem dX12_opens__25 : decode cX12_opens_ 25 = .ok (.iload_n 2, 1) := by decide +kernel
theorem dX12_opens__26 : decode cX12_opens_ 26 = .ok (.invokevirtual 258, 3) := by decide +kernel
theorem dX12_opens__29 : decode cX12_opens_ 29 = .ok (.invokevirtual 261, 3) := by decide +kernel
theorem dX12_opens__32 : decode cX12_opens_ 32 = .ok (.ifCond .eq 7, 3) := by decide +kernel
theorem dX12_opens__35 : decode cX12_opens_ 35 = .ok (.iconst 1, 1) := by decide +kernel
theorem dX12_opens__36 : decode cX12_opens_ 36 = .ok (.goto 4, 3) := by decide +kernel
theorem dX12_opens__39 : decode cX12_opens_ 39 = .ok (.iconst 0, 1) := by decide +kernel
theorem dX12_opens__40 : decode cX12_opens_ 40 = .ok (.ireturn, 1) := by decide +kernel
theorem dX12_had_0 : decode cX12_had 0 = .ok (.aload_n 0, 1) := by decide +kernel
theorem dX12_had_1 : decode cX12_had 1 = .ok (.iload_n 1, 1) := by decide +kernel
theorem dX12_had_2 : decode cX12_had 2 = .ok (.invokevirtual 202, 3) := by decide +kernel
theorem dX12_had_5 : decode cX12_had 5 = .ok (.ifCond .eq 15, 3) := by decide +kernel
theorem dX12_had_8 : decode cX12_had 8 = .ok (.aload_n 0, 1) := by decide +kernel
theorem dX12_had_9 : decode cX12_had 9 = .ok (.aload_n 0, 1) := by decide +kernel
theorem dX12_had_10 : decode cX12_had 10 = .ok (.iload_n 1, 1) := by decide +kernel
theorem dX12_had_11 : decode cX12_had 11 = .ok (.invokevirtual 258, 3) := by decide +kernel
theorem dX12_had_14 : decode cX12_had 14 = .ok (.invokevirtual 255, 3) := by decide +kernel
theorem dX12_had_17 : decode cX12_had 17 = .ok (.goto 8, 3) := by decide +kernel
theorem dX12_had_20 : decode cX12_had 20 = .ok (.aload_n 0, 1) := by decide +kernel
theorem dX12_had_21 : decode cX12_had 21 = .ok (.iconst 0, 1) := by decide +kernel
theorem dX12_had_22 : decode cX12_had 22 = .ok (.invokevirtual 190, 3) := by decide +kernel
theorem dX12_had_25 : decode cX12_had 25 = .ok (.ireturn, 1) := by decide +kernel
theorem dX12_round_0 : decode cX12_round 0 = .ok (.aload_n 0, 1) := by decide +kernel
theorem dX12_round_1 : decode cX12_round 1 = .ok (.iload_n 1, 1) := by decide +kernel
theorem dX12_round_2 : decode cX12_round 2 = .ok (.invokevirtual 242, 3) := by decide +kernel
theorem dX12_round_5 : decode cX12_round 5 = .ok (.ifCond .eq 11, 3) := by decide +kernel
theorem dX12_round_8 : decode cX12_round 8 = .ok (.aload_n 0, 1) := by decide +kernel
theorem dX12_round_9 : decode cX12_round 9 = .ok (.iload_n 2, 1) := by decide +kernel
theorem dX12_round_10 : decode cX12_round 10 = .ok (.invokevirtual 202, 3) := by decide +kernel
theorem dX12_round_13 : decode cX12_round 13 = .ok (.ifCond .ne 9, 3) := by decide +kernel
theorem dX12_round_16 : decode cX12_round 16 = .ok (.aload_n 0, 1) := by decide +kernel
theorem dX12_round_17 : decode cX12_round 17 = .ok (.iconst 0, 1) := by decide +kernel
theorem dX12_round_18 : decode cX12_round 18 = .ok (.invokevirtual 190, 3) := by decide +kernel
theorem dX12_round_21 : decode cX12_round 21 = .ok (.ireturn, 1) := by decide +kernel
theorem dX12_round_22 : decode cX12_round 22 = .ok (.aload_n 0, 1) := by decide +kernel
theorem dX12_round_23 : decode cX12_round 23 = .ok (.iload_n 1, 1) := by decide +kernel
theorem dX12_round_24 : decode cX12_round 24 = .ok (.iconst 0, 1) := by decide +kernel
theorem dX12_round_25 : decode cX12_round 25 = .ok (.invokevirtual 245, 3) := by decide +kernel
theorem dX12_round_28 : decode cX12_round 28 = .ok (.iconst 4, 1) := by decide +kernel
theorem dX12_round_29 : decode cX12_round 29 = .ok (.if_icmp .eq 9, 3) := by decide +kernel
theorem dX12_round_32 : decode cX12_round 32 = .ok (.aload_n 0, 1) := by decide +kernel
theorem dX12_round_33 : decode cX12_round 33 = .ok (.iconst 2, 1) := by decide +kernel
theorem dX12_round_34 : decode cX12_round 34 = .ok (.invokevirtual 190, 3) := by decide +kernel
theorem dX12_round_37 : decode cX12_round 37 = .ok (.ireturn, 1) := by decide +kernel
theorem dX12_round_38 : decode cX12_round 38 = .ok (.aload_n 0, 1) := by decide +kernel
theorem dX12_round_39 : decode cX12_round 39 = .ok (.aload_n 0, 1) := by decide +kernel
theorem dX12_round_40 : decode cX12_round 40 = .ok (.iload_n 2, 1) := by decide +kernel
theorem dX12_round_41 : decode cX12_round 41 = .ok (.invokevirtual 258, 3) := by decide +kernel
theorem dX12_round_44 : decode cX12_round 44 = .ok (.invokevirtual 255, 3) := by decide +kernel
theorem dX12_round_47 : decode cX12_round 47 = .ok (.istore_n 3, 1) := by decide +kernel
theorem dX12_round_48 : decode cX12_round 48 = .ok (.aload_n 0, 1) := by decide +kernel
theorem dX12_round_49 : decode cX12_round 49 = .ok (.getfield 38, 3) := by decide +kernel
theorem dX12_round_52 : decode cX12_round 52 = .ok (.iload_n 1, 1) := by decide +kernel
theorem dX12_round_53 : decode cX12_round 53 = .ok (.iaload, 1) := by decide +kernel
theorem dX12_round_54 : decode cX12_round 54 = .ok (.ireturn, 1) := by decide +kernel
theorem dX12_findOpens_0 : decode cX12_findOpens 0 = .ok (.aload_n 0, 1) := by decide +kernel
theorem dX12_findOpens_1 : decode cX12_findOpens 1 = .ok (.invokevirtual 181, 3) := by decide +kernel
theorem dX12_findOpens_4 : decode cX12_findOpens 4 = .ok (.istore_n 2, 1) := by decide +kernel
theorem dX12_findOpens_5 : decode cX12_findOpens 5 = .ok (.iconst 0, 1) := by decide +kernel
theorem dX12_findOpens_6 : decode cX12_findOpens 6 = .ok (.istore_n 3, 1) := by decide +kernel
theorem dX12_findOpens_7 : decode cX12_findOpens 7 = .ok (.iload_n 3, 1) := by decide +kernel
theorem dX12_findOpens_8 : decode cX12_findOpens 8 = .ok (.sipush 1024, 3) := by decide +kernel
theorem dX12_findOpens_11 : decode cX12_findOpens 11 = .ok (.if_icmp .ge 41, 3) := by decide +kernel
theorem dX12_findOpens_14 : decode cX12_findOpens 14 = .ok (.aload_n 0, 1) := by decide +kernel
theorem dX12_findOpens_15 : decode cX12_findOpens 15 = .ok (.getfield 22, 3) := by decide +kernel
theorem dX12_findOpens_18 : decode cX12_findOpens 18 = .ok (.iload_n 3, 1) := by decide +kernel
theorem dX12_findOpens_19 : decode cX12_findOpens 19 = .ok (.iload_n 3, 1) := by decide +kernel
theorem dX12_findOpens_20 : decode cX12_findOpens 20 = .ok (.iload_n 2, 1) := by decide +kernel
theorem dX12_findOpens_21 : decode cX12_findOpens 21 = .ok (.iconst (-1), 1) := by decide +kernel
theorem dX12_findOpens_22 : decode cX12_findOpens 22 = .ok (.ixor, 1) := by decide +kernel
theorem dX12_findOpens_23 : decode cX12_findOpens 23 = .ok (.iand, 1) := by decide +kernel
theorem dX12_findOpens_24 : decode cX12_findOpens 24 = .ok (.ifCond .ne 20, 3) := by decide +kernel
theorem dX12_findOpens_27 : decode cX12_findOpens 27 = .ok (.aload_n 0, 1) := by decide +kernel
theorem dX12_findOpens_28 : decode cX12_findOpens 28 = .ok (.iload_n 1, 1) := by decide +kernel
theorem dX12_findOpens_29 : decode cX12_findOpens 29 = .ok (.aload_n 0, 1) := by decide +kernel
theorem dX12_findOpens_30 : decode cX12_findOpens 30 = .ok (.iload_n 3, 1) := by decide +kernel
theorem dX12_findOpens_31 : decode cX12_findOpens 31 = .ok (.invokevirtual 258, 3) := by decide +kernel
theorem dX12_findOpens_34 : decode cX12_findOpens 34 = .ok (.invokevirtual 261, 3) := by decide +kernel
theorem dX12_findOpens_37 : decode cX12_findOpens 37 = .ok (.ifCond .eq 7, 3) := by decide +kernel
theorem dX12_findOpens_40 : decode cX12_findOpens 40 = .ok (.iconst 1, 1) := by decide +kernel
theorem dX12_findOpens_41 : decode cX12_findOpens 41 = .ok (.goto 4, 3) := by decide +kernel
theorem dX12_findOpens_44 : decode cX12_findOpens 44 = .ok (.iconst 0, 1) := by decide +kernel
theorem dX12_findOpens_45 : decode cX12_findOpens 45 = .ok (.bastore, 1) := by decide +kernel
theorem dX12_findOpens_46 : decode cX12_findOpens 46 = .ok (.iinc 3 1, 3) := by decide +kernel
theorem dX12_findOpens_49 : decode cX12_findOpens 49 = .ok (.goto (-42), 3) := by decide +kernel
theorem dX12_findOpens_52 : decode cX12_findOpens 52 = .ok (.return_, 1) := by decide +kernel
theorem dX12_byHanging_0 : decode cX12_byHanging 0 = .ok (.aload_n 0, 1) := by decide +kernel
theorem dX12_byHanging_1 : decode cX12_byHanging 1 = .ok (.iload_n 1, 1) := by decide +kernel
theorem dX12_byHanging_2 : decode cX12_byHanging 2 = .ok (.invokevirtual 242, 3) := by decide +kernel
theorem dX12_byHanging_5 : decode cX12_byHanging 5 = .ok (.ifCond .eq 8, 3) := by decide +kernel
theorem dX12_byHanging_8 : decode cX12_byHanging 8 = .ok (.iload_n 3, 1) := by decide +kernel
theorem dX12_byHanging_9 : decode cX12_byHanging 9 = .ok (.iconst (-1), 1) := by decide +kernel
theorem dX12_byHanging_10 : decode cX12_byHanging 10 = .ok (.if_icmp .ge 9, 3) := by decide +kernel
theorem dX12_byHanging_13 : decode cX12_byHanging 13 = .ok (.aload_n 0, 1) := by decide +kernel
theorem dX12_byHanging_14 : decode cX12_byHanging 14 = .ok (.iconst 0, 1) := by decide +kernel
theorem dX12_byHanging_15 : decode cX12_byHanging 15 = .ok (.invokevirtual 190, 3) := by decide +kernel
theorem dX12_byHanging_18 : decode cX12_byHanging 18 = .ok (.ireturn, 1) := by decide +kernel
theorem dX12_byHanging_19 : decode cX12_byHanging 19 = .ok (.aload_n 0, 1) := by decide +kernel
theorem dX12_byHanging_20 : decode cX12_byHanging 20 = .ok (.iload_n 1, 1) := by decide +kernel
theorem dX12_byHanging_21 : decode cX12_byHanging 21 = .ok (.invokevirtual 264, 3) := by decide +kernel
theorem dX12_byHanging_24 : decode cX12_byHanging 24 = .ok (.aload_n 0, 1) := by decide +kernel
theorem dX12_byHanging_25 : decode cX12_byHanging 25 = .ok (.iload_n 2, 1) := by decide +kernel
theorem dX12_byHanging_26 : decode cX12_byHanging 26 = .ok (.iload_n 3, 1) := by decide +kernel
theorem dX12_byHanging_27 : decode cX12_byHanging 27 = .ok (.invokevirtual 229, 3) := by decide +kernel
theorem dX12_byHanging_30 : decode cX12_byHanging 30 = .ok (.ireturn, 1) := by decide +kernel
theorem dX12_lets_0 : decode cX12_lets 0 = .ok (.aload_n 0, 1) := by decide +kernel
theorem dX12_lets_1 : decode cX12_lets 1 = .ok (.iload_n 1, 1) := by decide +kernel
theorem dX12_lets_2 : decode cX12_lets 2 = .ok (.iconst 0, 1) := by decide +kernel
theorem dX12_lets_3 : decode cX12_lets 3 = .ok (.iload_n 2, 1) := by decide +kernel
theorem dX12_lets_4 : decode cX12_lets 4 = .ok (.invokevirtual 267, 3) := by decide +kernel
theorem dX12_lets_7 : decode cX12_lets 7 = .ok (.ireturn, 1) := by decide +kernel
theorem dX12_shut_0 : decode cX12_shut 0 = .ok (.aload_n 0, 1) := by decide +kernel
theorem dX12_shut_1 : decode cX12_shut 1 = .ok (.iload_n 1, 1) := by decide +kernel
theorem dX12_shut_2 : decode cX12_shut 2 = .ok (.iconst 1, 1) := by decide +kernel
theorem dX12_shut_3 : decode cX12_shut 3 = .ok (.iload_n 2, 1) := by decide +kernel
theorem dX12_shut_4 : decode cX12_shut 4 = .ok (.invokevirtual 267, 3) := by decide +kernel
theorem dX12_shut_7 : decode cX12_shut 7 = .ok (.ireturn, 1) := by decide +kernel
theorem dX12_unlike_0 : decode cX12_unlike 0 = .ok (.aload_n 0, 1) := by decide +kernel
theorem dX12_unlike_1 : decode cX12_unlike 1 = .ok (.iload_n 1, 1) := by decide +kernel
theorem dX12_unlike_2 : decode cX12_unlike 2 = .ok (.invokevirtual 242, 3) := by decide +kernel
theorem dX12_unlike_5 : decode cX12_unlike 5 = .ok (.ifCond .ne 9, 3) := by decide +kernel
theorem dX12_unlike_8 : decode cX12_unlike 8 = .ok (.aload_n 0, 1) := by decide +kernel
theorem dX12_unlike_9 : decode cX12_unlike 9 = .ok (.iconst 0, 1) := by decide +kernel
theorem dX12_unlike_10 : decode cX12_unlike 10 = .ok (.invokevirtual 190, 3) := by decide +kernel
theorem dX12_unlike_13 : decode cX12_unlike 13 = .ok (.ireturn, 1) := by decide +kernel
theorem dX12_unlike_14 : decode cX12_unlike 14 = .ok (.aload_n 0, 1) := by decide +kernel
theorem dX12_unlike_15 : decode cX12_unlike 15 = .ok (.getfield 7, 3) := by decide +kernel
theorem dX12_unlike_18 : decode cX12_unlike 18 = .ok (.iconst 2, 1) := by decide +kernel
theorem dX12_unlike_19 : decode cX12_unlike 19 = .ok (.iaload, 1) := by decide +kernel
theorem dX12_unlike_20 : decode cX12_unlike 20 = .ok (.ifCond .ge 9, 3) := by decide +kernel
theorem dX12_unlike_23 : decode cX12_unlike 23 = .ok (.aload_n 0, 1) := by decide +kernel
theorem dX12_unlike_24 : decode cX12_unlike 24 = .ok (.iconst 4, 1) := by decide +kernel
theorem dX12_unlike_25 : decode cX12_unlike 25 = .ok (.invokevirtual 190, 3) := by decide +kernel
theorem dX12_unlike_28 : decode cX12_unlike 28 = .ok (.ireturn, 1) := by decide +kernel
theorem dX12_unlike_29 : decode cX12_unlike 29 = .ok (.aload_n 0, 1) := by decide +kernel
theorem dX12_unlike_30 : decode cX12_unlike 30 = .ok (.iload_n 1, 1) := by decide +kernel
theorem dX12_unlike_31 : decode cX12_unlike 31 = .ok (.invokevirtual 264, 3) := by decide +kernel
theorem dX12_unlike_34 : decode cX12_unlike 34 = .ok (.iconst 0, 1) := by decide +kernel
theorem dX12_unlike_35 : decode cX12_unlike 35 = .ok (.istore_n 3, 1) := by decide +kernel
theorem dX12_unlike_36 : decode cX12_unlike 36 = .ok (.iload_n 3, 1) := by decide +kernel
theorem dX12_unlike_37 : decode cX12_unlike 37 = .ok (.sipush 1024, 3) := by decide +kernel
theorem dX12_unlike_40 : decode cX12_unlike 40 = .ok (.if_icmp .ge 44, 3) := by decide +kernel
theorem dX12_unlike_43 : decode cX12_unlike 43 = .ok (.aload_n 0, 1) := by decide +kernel
theorem dX12_unlike_44 : decode cX12_unlike 44 = .ok (.iload_n 3, 1) := by decide +kernel
theorem dX12_unlike_45 : decode cX12_unlike 45 = .ok (.invokevirtual 271, 3) := by decide +kernel
theorem dX12_unlike_48 : decode cX12_unlike 48 = .ok (.ifCond .eq 30, 3) := by decide +kernel
theorem dX12_unlike_51 : decode cX12_unlike 51 = .ok (.aload_n 0, 1) := by decide +kernel
theorem dX12_unlike_52 : decode cX12_unlike 52 = .ok (.getfield 22, 3) := by decide +kernel
theorem dX12_unlike_55 : decode cX12_unlike 55 = .ok (.iload_n 3, 1) := by decide +kernel
theorem dX12_unlike_56 : decode cX12_unlike 56 = .ok (.baload, 1) := by decide +kernel
theorem dX12_unlike_57 : decode cX12_unlike 57 = .ok (.iload_n 2, 1) := by decide +kernel
theorem dX12_unlike_58 : decode cX12_unlike 58 = .ok (.if_icmp .ne 20, 3) := by decide +kernel
theorem dX12_unlike_61 : decode cX12_unlike 61 = .ok (.aload_n 0, 1) := by decide +kernel
theorem dX12_unlike_62 : decode cX12_unlike 62 = .ok (.aload_n 0, 1) := by decide +kernel
theorem dX12_unlike_63 : decode cX12_unlike 63 = .ok (.getfield 7, 3) := by decide +kernel
theorem dX12_unlike_66 : decode cX12_unlike 66 = .ok (.iconst 2, 1) := by decide +kernel
theorem dX12_unlike_67 : decode cX12_unlike 67 = .ok (.iaload, 1) := by decide +kernel
theorem dX12_unlike_68 : decode cX12_unlike 68 = .ok (.iload_n 3, 1) := by decide +kernel
theorem dX12_unlike_69 : decode cX12_unlike 69 = .ok (.invokevirtual 205, 3) := by decide +kernel
theorem dX12_unlike_72 : decode cX12_unlike 72 = .ok (.iload_n 2, 1) := by decide +kernel
theorem dX12_unlike_73 : decode cX12_unlike 73 = .ok (.if_icmp .eq 5, 3) := by decide +kernel
theorem dX12_unlike_76 : decode cX12_unlike 76 = .ok (.iload_n 3, 1) := by decide +kernel
theorem dX12_unlike_77 : decode cX12_unlike 77 = .ok (.ireturn, 1) := by decide +kernel
theorem dX12_unlike_78 : decode cX12_unlike 78 = .ok (.iinc 3 1, 3) := by decide +kernel
theorem dX12_unlike_81 : decode cX12_unlike 81 = .ok (.goto (-45), 3) := by decide +kernel
theorem dX12_unlike_84 : decode cX12_unlike 84 = .ok (.aload_n 0, 1) := by decide +kernel
theorem dX12_unlike_85 : decode cX12_unlike 85 = .ok (.iconst 3, 1) := by decide +kernel
theorem dX12_unlike_86 : decode cX12_unlike 86 = .ok (.invokevirtual 190, 3) := by decide +kernel
theorem dX12_unlike_89 : decode cX12_unlike 89 = .ok (.ireturn, 1) := by decide +kernel
theorem dX12_wrongly_0 : decode cX12_wrongly 0 = .ok (.aload_n 0, 1) := by decide +kernel
theorem dX12_wrongly_1 : decode cX12_wrongly 1 = .ok (.iload_n 1, 1) := by decide +kernel
theorem dX12_wrongly_2 : decode cX12_wrongly 2 = .ok (.iconst 1, 1) := by decide +kernel
theorem dX12_wrongly_3 : decode cX12_wrongly 3 = .ok (.invokevirtual 274, 3) := by decide +kernel
theorem dX12_wrongly_6 : decode cX12_wrongly 6 = .ok (.ireturn, 1) := by decide +kernel
theorem dX12_lacks_0 : decode cX12_lacks 0 = .ok (.aload_n 0, 1) := by decide +kernel
theorem dX12_lacks_1 : decode cX12_lacks 1 = .ok (.iload_n 1, 1) := by decide +kernel
theorem dX12_lacks_2 : decode cX12_lacks 2 = .ok (.iconst 0, 1) := by decide +kernel
theorem dX12_lacks_3 : decode cX12_lacks 3 = .ok (.invokevirtual 274, 3) := by decide +kernel
theorem dX12_lacks_6 : decode cX12_lacks 6 = .ok (.ireturn, 1) := by decide +kernel
theorem dX12_keepOther_0 : decode cX12_keepOther 0 = .ok (.iconst 0, 1) := by decide +kernel
theorem dX12_keepOther_1 : decode cX12_keepOther 1 = .ok (.istore_n 1, 1) := by decide +kernel
theorem dX12_keepOther_2 : decode cX12_keepOther 2 = .ok (.iload_n 1, 1) := by decide +kernel
theorem dX12_keepOther_3 : decode cX12_keepOther 3 = .ok (.sipush 1024, 3) := by decide +kernel
theorem dX12_keepOther_6 : decode cX12_keepOther 6 = .ok (.if_icmp .ge 21, 3) := by decide +kernel
theorem dX12_keepOther_9 : decode cX12_keepOther 9 = .ok (.aload_n 0, 1) := by decide +kernel
theorem dX12_keepOther_10 : decode cX12_keepOther 10 = .ok (.getfield 26, 3) := by decide +kernel
theorem dX12_keepOther_13 : decode cX12_keepOther 13 = .ok (.iload_n 1, 1) := by decide +kernel
theorem dX12_keepOther_14 : decode cX12_keepOther 14 = .ok (.aload_n 0, 1) := by decide +kernel
theorem dX12_keepOther_15 : decode cX12_keepOther 15 = .ok (.getfield 22, 3) := by decide +kernel
theorem dX12_keepOther_18 : decode cX12_keepOther 18 = .ok (.iload_n 1, 1) := by decide +kernel
theorem dX12_keepOther_19 : decode cX12_keepOther 19 = .ok (.baload, 1) := by decide +kernel
theorem dX12_keepOther_20 : decode cX12_keepOther 20 = .ok (.bastore, 1) := by decide +kernel
theorem dX12_keepOther_21 : decode cX12_keepOther 21 = .ok (.iinc 1 1, 3) := by decide +kernel
theorem dX12_keepOther_24 : decode cX12_keepOther 24 = .ok (.goto (-22), 3) := by decide +kernel
theorem dX12_keepOther_27 : decode cX12_keepOther 27 = .ok (.return_, 1) := by decide +kernel
theorem dX12_isAsOther_0 : decode cX12_isAsOther 0 = .ok (.iconst 1, 1) := by decide +kernel
theorem dX12_isAsOther_1 : decode cX12_isAsOther 1 = .ok (.istore_n 1, 1) := by decide +kernel
theorem dX12_isAsOther_2 : decode cX12_isAsOther 2 = .ok (.iconst 0, 1) := by decide +kernel
theorem dX12_isAsOther_3 : decode cX12_isAsOther 3 = .ok (.istore_n 2, 1) := by decide +kernel
theorem dX12_isAsOther_4 : decode cX12_isAsOther 4 = .ok (.iload_n 2, 1) := by decide +kernel
theorem dX12_isAsOther_5 : decode cX12_isAsOther 5 = .ok (.sipush 1024, 3) := by decide +kernel
theorem dX12_isAsOther_8 : decode cX12_isAsOther 8 = .ok (.if_icmp .ge 34, 3) := by decide +kernel
theorem dX12_isAsOther_11 : decode cX12_isAsOther 11 = .ok (.iload_n 1, 1) := by decide +kernel
theorem dX12_isAsOther_12 : decode cX12_isAsOther 12 = .ok (.ifCond .eq 22, 3) := by decide +kernel
theorem dX12_isAsOther_15 : decode cX12_isAsOther 15 = .ok (.aload_n 0, 1) := by decide +kernel
theorem dX12_isAsOther_16 : decode cX12_isAsOther 16 = .ok (.getfield 26, 3) := by decide +kernel
theorem dX12_isAsOther_19 : decode cX12_isAsOther 19 = .ok (.iload_n 2, 1) := by decide +kernel
theorem dX12_isAsOther_20 : decode cX12_isAsOther 20 = .ok (.baload, 1) := by decide +kernel
theorem dX12_isAsOther_21 : decode cX12_isAsOther 21 = .ok (.aload_n 0, 1) := by decide +kernel
theorem dX12_isAsOther_22 : decode cX12_isAsOther 22 = .ok (.getfield 22, 3) := by decide +kernel
theorem dX12_isAsOther_25 : decode cX12_isAsOther 25 = .ok (.iload_n 2, 1) := by decide +kernel
theorem dX12_isAsOther_26 : decode cX12_isAsOther 26 = .ok (.baload, 1) := by decide +kernel
theorem dX12_isAsOther_27 : decode cX12_isAsOther 27 = .ok (.if_icmp .ne 7, 3) := by decide +kernel
theorem dX12_isAsOther_30 : decode cX12_isAsOther 30 = .ok (.iconst 1, 1) := by decide +kernel
theorem dX12_isAsOther_31 : decode cX12_isAsOther 31 = .ok (.goto 4, 3) := by decide +kernel
theorem dX12_isAsOther_34 : decode cX12_isAsOther 34 = .ok (.iconst 0, 1) := by decide +kernel
theorem dX12_isAsOther_35 : decode cX12_isAsOther 35 = .ok (.istore_n 1, 1) := by decide +kernel
theorem dX12_isAsOther_36 : decode cX12_isAsOther 36 = .ok (.iinc 2 1, 3) := by decide +kernel
theorem dX12_isAsOther_39 : decode cX12_isAsOther 39 = .ok (.goto (-35), 3) := by decide +kernel
theorem dX12_isAsOther_42 : decode cX12_isAsOther 42 = .ok (.iload_n 1, 1) := by decide +kernel
theorem dX12_isAsOther_43 : decode cX12_isAsOther 43 = .ok (.ireturn, 1) := by decide +kernel
theorem dX12_same_0 : decode cX12_same 0 = .ok (.aload_n 0, 1) := by decide +kernel
theorem dX12_same_1 : decode cX12_same 1 = .ok (.iload_n 1, 1) := by decide +kernel
theorem dX12_same_2 : decode cX12_same 2 = .ok (.invokevirtual 242, 3) := by decide +kernel
theorem dX12_same_5 : decode cX12_same 5 = .ok (.ifCond .eq 11, 3) := by decide +kernel
theorem dX12_same_8 : decode cX12_same 8 = .ok (.aload_n 0, 1) := by decide +kernel
theorem dX12_same_9 : decode cX12_same 9 = .ok (.iload_n 2, 1) := by decide +kernel
theorem dX12_same_10 : decode cX12_same 10 = .ok (.invokevirtual 242, 3) := by decide +kernel
theorem dX12_same_13 : decode cX12_same 13 = .ok (.ifCond .ne 9, 3) := by decide +kernel
theorem dX12_same_16 : decode cX12_same 16 = .ok (.aload_n 0, 1) := by decide +kernel
theorem dX12_same_17 : decode cX12_same 17 = .ok (.iconst 0, 1) := by decide +kernel
theorem dX12_same_18 : decode cX12_same 18 = .ok (.invokevirtual 190, 3) := by decide +kernel
theorem dX12_same_21 : decode cX12_same 21 = .ok (.ireturn, 1) := by decide +kernel
theorem dX12_same_22 : decode cX12_same 22 = .ok (.aload_n 0, 1) := by decide +kernel
theorem dX12_same_23 : decode cX12_same 23 = .ok (.iload_n 1, 1) := by decide +kernel
theorem dX12_same_24 : decode cX12_same 24 = .ok (.invokevirtual 264, 3) := by decide +kernel
theorem dX12_same_27 : decode cX12_same 27 = .ok (.aload_n 0, 1) := by decide +kernel
theorem dX12_same_28 : decode cX12_same 28 = .ok (.invokevirtual 278, 3) := by decide +kernel
theorem dX12_same_31 : decode cX12_same 31 = .ok (.aload_n 0, 1) := by decide +kernel
theorem dX12_same_32 : decode cX12_same 32 = .ok (.iload_n 2, 1) := by decide +kernel
theorem dX12_same_33 : decode cX12_same 33 = .ok (.invokevirtual 264, 3) := by decide +kernel
theorem dX12_same_36 : decode cX12_same 36 = .ok (.aload_n 0, 1) := by decide +kernel
theorem dX12_same_37 : decode cX12_same 37 = .ok (.invokevirtual 281, 3) := by decide +kernel
theorem dX12_same_40 : decode cX12_same 40 = .ok (.ifCond .eq 7, 3) := by decide +kernel
theorem dX12_same_43 : decode cX12_same 43 = .ok (.iconst 1, 1) := by decide +kernel
theorem dX12_same_44 : decode cX12_same 44 = .ok (.goto 4, 3) := by decide +kernel
theorem dX12_same_47 : decode cX12_same 47 = .ok (.iconst 0, 1) := by decide +kernel
theorem dX12_same_48 : decode cX12_same 48 = .ok (.ireturn, 1) := by decide +kernel
theorem dX12_bears_0 : decode cX12_bears 0 = .ok (.aload_n 0, 1) := by decide +kernel
theorem dX12_bears_1 : decode cX12_bears 1 = .ok (.invokevirtual 181, 3) := by decide +kernel
theorem dX12_bears_4 : decode cX12_bears 4 = .ok (.istore_n 3, 1) := by decide +kernel
theorem dX12_bears_5 : decode cX12_bears 5 = .ok (.aload_n 0, 1) := by decide +kernel
theorem dX12_bears_6 : decode cX12_bears 6 = .ok (.iload_n 1, 1) := by decide +kernel
theorem dX12_bears_7 : decode cX12_bears 7 = .ok (.invokevirtual 242, 3) := by decide +kernel
theorem dX12_bears_10 : decode cX12_bears 10 = .ok (.ifCond .eq 15, 3) := by decide +kernel
theorem dX12_bears_13 : decode cX12_bears 13 = .ok (.iload_n 2, 1) := by decide +kernel
theorem dX12_bears_14 : decode cX12_bears 14 = .ok (.iconst 0, 1) := by decide +kernel
theorem dX12_bears_15 : decode cX12_bears 15 = .ok (.iload_n 3, 1) := by decide +kernel
theorem dX12_bears_16 : decode cX12_bears 16 = .ok (.invokestatic 147, 3) := by decide +kernel
theorem dX12_bears_19 : decode cX12_bears 19 = .ok (.invokestatic 64, 3) := by decide +kernel
theorem dX12_bears_22 : decode cX12_bears 22 = .ok (.ifCond .ne 9, 3) := by decide +kernel
theorem dX12_bears_25 : decode cX12_bears 25 = .ok (.aload_n 0, 1) := by decide +kernel
theorem dX12_bears_26 : decode cX12_bears 26 = .ok (.iconst 0, 1) := by decide +kernel
theorem dX12_bears_27 : decode cX12_bears 27 = .ok (.invokevirtual 190, 3) := by decide +kernel
theorem dX12_bears_30 : decode cX12_bears 30 = .ok (.ireturn, 1) := by decide +kernel
theorem dX12_bears_31 : decode cX12_bears 31 = .ok (.aload_n 0, 1) := by decide +kernel
theorem dX12_bears_32 : decode cX12_bears 32 = .ok (.iload_n 1, 1) := by decide +kernel
theorem dX12_bears_33 : decode cX12_bears 33 = .ok (.invokevirtual 264, 3) := by decide +kernel
theorem dX12_bears_36 : decode cX12_bears 36 = .ok (.iconst 1, 1) := by decide +kernel
theorem dX12_bears_37 : decode cX12_bears 37 = .ok (.istore 4, 2) := by decide +kernel
theorem dX12_bears_39 : decode cX12_bears 39 = .ok (.iconst 0, 1) := by decide +kernel
theorem dX12_bears_40 : decode cX12_bears 40 = .ok (.istore 5, 2) := by decide +kernel
theorem dX12_bears_42 : decode cX12_bears 42 = .ok (.iload 5, 2) := by decide +kernel
theorem dX12_bears_44 : decode cX12_bears 44 = .ok (.sipush 1024, 3) := by decide +kernel
theorem dX12_bears_47 : decode cX12_bears 47 = .ok (.if_icmp .ge 66, 3) := by decide +kernel
theorem dX12_bears_50 : decode cX12_bears 50 = .ok (.aload_n 0, 1) := by decide +kernel
theorem dX12_bears_51 : decode cX12_bears 51 = .ok (.iload 5, 2) := by decide +kernel
theorem dX12_bears_53 : decode cX12_bears 53 = .ok (.invokevirtual 271, 3) := by decide +kernel
theorem dX12_bears_56 : decode cX12_bears 56 = .ok (.ifCond .eq 21, 3) := by decide +kernel
theorem dX12_bears_59 : decode cX12_bears 59 = .ok (.iload 5, 2) := by decide +kernel
theorem dX12_bears_61 : decode cX12_bears 61 = .ok (.invokestatic 147, 3) := by decide +kernel
theorem dX12_bears_64 : decode cX12_bears 64 = .ok (.iload_n 3, 1) := by decide +kernel
theorem dX12_bears_65 : decode cX12_bears 65 = .ok (.invokestatic 147, 3) := by decide +kernel
theorem dX12_bears_68 : decode cX12_bears 68 = .ok (.iload_n 2, 1) := by decide +kernel
theorem dX12_bears_69 : decode cX12_bears 69 = .ok (.isub, 1) := by decide +kernel
theorem dX12_bears_70 : decode cX12_bears 70 = .ok (.if_icmp .ne 7, 3) := by decide +kernel
theorem dX12_bears_73 : decode cX12_bears 73 = .ok (.iconst 1, 1) := by decide +kernel
theorem dX12_bears_74 : decode cX12_bears 74 = .ok (.goto 4, 3) := by decide +kernel
theorem dX12_bears_77 : decode cX12_bears 77 = .ok (.iconst 0, 1) := by decide +kernel
theorem dX12_bears_78 : decode cX12_bears 78 = .ok (.istore 6, 2) := by decide +kernel
theorem dX12_bears_80 : decode cX12_bears 80 = .ok (.iload 4, 2) := by decide +kernel
theorem dX12_bears_82 : decode cX12_bears 82 = .ok (.ifCond .eq 22, 3) := by decide +kernel
theorem dX12_bears_85 : decode cX12_bears 85 = .ok (.iload 6, 2) := by decide +kernel
theorem dX12_bears_87 : decode cX12_bears 87 = .ok (.ifCond .eq 13, 3) := by decide +kernel
theorem dX12_bears_90 : decode cX12_bears 90 = .ok (.aload_n 0, 1) := by decide +kernel
theorem dX12_bears_91 : decode cX12_bears 91 = .ok (.getfield 22, 3) := by decide +kernel
theorem dX12_bears_94 : decode cX12_bears 94 = .ok (.iload 5, 2) := by decide +kernel
theorem dX12_bears_96 : decode cX12_bears 96 = .ok (.baload, 1) := by decide +kernel
theorem dX12_bears_97 : decode cX12_bears 97 = .ok (.ifCond .eq 7, 3) := by decide +kernel
theorem dX12_bears_100 : decode cX12_bears 100 = .ok (.iconst 1, 1) := by decide +kernel
theorem dX12_bears_101 : decode cX12_bears 101 = .ok (.goto 4, 3) := by decide +kernel
theorem dX12_bears_104 : decode cX12_bears 104 = .ok (.iconst 0, 1) := by decide +kernel
theorem dX12_bears_105 : decode cX12_bears 105 = .ok (.istore 4, 2) := by decide +kernel
theorem dX12_bears_107 : decode cX12_bears 107 = .ok (.iinc 5 1, 3) := by decide +kernel
theorem dX12_bears_110 : decode cX12_bears 110 = .ok (.goto (-68), 3) := by decide +kernel
theorem dX12_bears_113 : decode cX12_bears 113 = .ok (.iload 4, 2) := by decide +kernel
theorem dX12_bears_115 : decode cX12_bears 115 = .ok (.ifCond .eq 7, 3) := by decide +kernel
theorem dX12_bears_118 : decode cX12_bears 118 = .ok (.iconst 1, 1) := by decide +kernel
theorem dX12_bears_119 : decode cX12_bears 119 = .ok (.goto 4, 3) := by decide +kernel
theorem dX12_bears_122 : decode cX12_bears 122 = .ok (.iconst 0, 1) := by decide +kernel
theorem dX12_bears_123 : decode cX12_bears 123 = .ok (.ireturn, 1) := by decide +kernel
theorem dX12_need__0 : decode cX12_need_ 0 = .ok (.aload_n 0, 1) := by decide +kernel
theorem dX12_need__1 : decode cX12_need_ 1 = .ok (.iload_n 1, 1) := by decide +kernel
theorem dX12_need__2 : decode cX12_need_ 2 = .ok (.invokevirtual 242, 3) := by decide +kernel
theorem dX12_need__5 : decode cX12_need_ 5 = .ok (.ifCond .eq 11, 3) := by decide +kernel
theorem dX12_need__8 : decode cX12_need_ 8 = .ok (.aload_n 0, 1) := by decide +kernel
theorem dX12_need__9 : decode cX12_need_ 9 = .ok (.iload_n 2, 1) := by decide +kernel
theorem dX12_need__10 : decode cX12_need_ 10 = .ok (.invokevirtual 202, 3) := by decide +kernel
theorem dX12_need__13 : decode cX12_need_ 13 = .ok (.ifCond .ne 9, 3) := by decide +kernel
theorem dX12_need__16 : decode cX12_need_ 16 = .ok (.aload_n 0, 1) := by decide +kernel
theorem dX12_need__17 : decode cX12_need_ 17 = .ok (.iconst 0, 1) := by decide +kernel
theorem dX12_need__18 : decode cX12_need_ 18 = .ok (.invokevirtual 190, 3) := by decide +kernel
theorem dX12_need__21 : decode cX12_need_ 21 = .ok (.ireturn, 1) := by decide +kernel
theorem dX12_need__22 : decode cX12_need_ 22 = .ok (.aload_n 0, 1) := by decide +kernel
theorem dX12_need__23 : decode cX12_need_ 23 = .ok (.iload_n 2, 1) := by decide +kernel
theorem dX12_need__24 : decode cX12_need_ 24 = .ok (.invokevirtual 258, 3) := by decide +kernel
theorem dX12_need__27 : decode cX12_need_ 27 = .ok (.istore_n 3, 1) := by decide +kernel
theorem dX12_need__28 : decode cX12_need_ 28 = .ok (.aload_n 0, 1) := by decide +kernel
theorem dX12_need__29 : decode cX12_need_ 29 = .ok (.iload_n 1, 1) := by decide +kernel
theorem dX12_need__30 : decode cX12_need_ 30 = .ok (.iload_n 3, 1) := by decide +kernel
theorem dX12_need__31 : decode cX12_need_ 31 = .ok (.invokevirtual 261, 3) := by decide +kernel
theorem dX12_need__34 : decode cX12_need_ 34 = .ok (.ifCond .eq 5, 3) := by decide +kernel
theorem dX12_need__37 : decode cX12_need_ 37 = .ok (.iconst 0, 1) := by decide +kernel
theorem dX12_need__38 : decode cX12_need_ 38 = .ok (.ireturn, 1) := by decide +kernel
theorem dX12_need__39 : decode cX12_need_ 39 = .ok (.iconst 1, 1) := by decide +kernel
theorem dX12_need__40 : decode cX12_need_ 40 = .ok (.istore 4, 2) := by decide +kernel
theorem dX12_need__42 : decode cX12_need_ 42 = .ok (.iload 4, 2) := by decide +kernel
theorem dX12_need__44 : decode cX12_need_ 44 = .ok (.iconst 3, 1) := by decide +kernel
theorem dX12_need__45 : decode cX12_need_ 45 = .ok (.if_icmp .gt 177, 3) := by decide +kernel
theorem dX12_need__48 : decode cX12_need_ 48 = .ok (.iconst 0, 1) := by decide +kernel
theorem dX12_need__49 : decode cX12_need_ 49 = .ok (.istore 5, 2) := by decide +kernel
theorem dX12_need__51 : decode cX12_need_ 51 = .ok (.iconst 0, 1) := by decide +kernel
theorem dX12_need__52 : decode cX12_need_ 52 = .ok (.istore 6, 2) := by decide +kernel
theorem dX12_need__54 : decode cX12_need_ 54 = .ok (.iload 6, 2) := by decide +kernel
theorem dX12_need__56 : decode cX12_need_ 56 = .ok (.bipush 24, 2) := by decide +kernel
theorem dX12_need__58 : decode cX12_need_ 58 = .ok (.if_icmp .ge 150, 3) := by decide +kernel
theorem dX12_need__61 : decode cX12_need_ 61 = .ok (.iload 5, 2) := by decide +kernel
theorem dX12_need__63 : decode cX12_need_ 63 = .ok (.ifCond .ne 145, 3) := by decide +kernel
theorem dX12_need__66 : decode cX12_need_ 66 = .ok (.iload 4, 2) := by decide +kernel
theorem dX12_need__68 : decode cX12_need_ 68 = .ok (.iconst 1, 1) := by decide +kernel
theorem dX12_need__69 : decode cX12_need_ 69 = .ok (.if_icmp .le 7, 3) := by decide +kernel
theorem dX12_need__72 : decode cX12_need_ 72 = .ok (.iconst 0, 1) := by decide +kernel
theorem dX12_need__73 : decode cX12_need_ 73 = .ok (.goto 4, 3) := by decide +kernel
theorem dX12_need__76 : decode cX12_need_ 76 = .ok (.iconst (-1), 1) := by decide +kernel
theorem dX12_need__77 : decode cX12_need_ 77 = .ok (.istore 7, 2) := by decide +kernel
theorem dX12_need__79 : decode cX12_need_ 79 = .ok (.iload 7, 2) := by decide +kernel
theorem dX12_need__81 : decode cX12_need_ 81 = .ok (.iload 4, 2) := by decide +kernel
theorem dX12_need__83 : decode cX12_need_ 83 = .ok (.iconst 1, 1) := by decide +kernel
theorem dX12_need__84 : decode cX12_need_ 84 = .ok (.if_icmp .le 8, 3) := by decide +kernel
theorem dX12_need__87 : decode cX12_need_ 87 = .ok (.iload 6, 2) := by decide +kernel
theorem dX12_need__89 : decode cX12_need_ 89 = .ok (.goto 4, 3) := by decide +kernel
theorem dX12_need__92 : decode cX12_need_ 92 = .ok (.iconst 0, 1) := by decide +kernel
theorem dX12_need__93 : decode cX12_need_ 93 = .ok (.if_icmp .ge 109, 3) := by decide +kernel
theorem dX12_need__96 : decode cX12_need_ 96 = .ok (.iload 5, 2) := by decide +kernel
theorem dX12_need__98 : decode cX12_need_ 98 = .ok (.ifCond .ne 104, 3) := by decide +kernel
theorem dX12_need__101 : decode cX12_need_ 101 = .ok (.iload 4, 2) := by decide +kernel
theorem dX12_need__103 : decode cX12_need_ 103 = .ok (.iconst 2, 1) := by decide +kernel
theorem dX12_need__104 : decode cX12_need_ 104 = .ok (.if_icmp .le 7, 3) := by decide +kernel
theorem dX12_need__107 : decode cX12_need_ 107 = .ok (.iconst 0, 1) := by decide +kernel
theorem dX12_need__108 : decode cX12_need_ 108 = .ok (.goto 4, 3) := by decide +kernel
theorem dX12_need__111 : decode cX12_need_ 111 = .ok (.iconst (-1), 1) := by decide +kernel
theorem dX12_need__112 : decode cX12_need_ 112 = .ok (.istore 8, 2) := by decide +kernel
theorem dX12_need__114 : decode cX12_need_ 114 = .ok (.iload 8, 2) := by decide +kernel
theorem dX12_need__116 : decode cX12_need_ 116 = .ok (.iload 4, 2) := by decide +kernel
theorem dX12_need__118 : decode cX12_need_ 118 = .ok (.iconst 2, 1) := by decide +kernel
theorem dX12_need__119 : decode cX12_need_ 119 = .ok (.if_icmp .le 8, 3) := by decide +kernel
theorem dX12_need__122 : decode cX12_need_ 122 = .ok (.iload 7, 2) := by decide +kernel
theorem dX12_need__124 : decode cX12_need_ 124 = .ok (.goto 4, 3) := by decide +kernel
theorem dX12_need__127 : decode cX12_need_ 127 = .ok (.iconst 0, 1) := by decide +kernel
theorem dX12_need__128 : decode cX12_need_ 128 = .ok (.if_icmp .ge 68, 3) := by decide +kernel
theorem dX12_need__131 : decode cX12_need_ 131 = .ok (.iload 5, 2) := by decide +kernel
theorem dX12_need__133 : decode cX12_need_ 133 = .ok (.ifCond .ne 63, 3) := by decide +kernel
theorem dX12_need__136 : decode cX12_need_ 136 = .ok (.iconst 1, 1) := by decide +kernel
theorem dX12_need__137 : decode cX12_need_ 137 = .ok (.iload 6, 2) := by decide +kernel
theorem dX12_need__139 : decode cX12_need_ 139 = .ok (.ishl, 1) := by decide +kernel
theorem dX12_need__140 : decode cX12_need_ 140 = .ok (.iload 7, 2) := by decide +kernel
theorem dX12_need__142 : decode cX12_need_ 142 = .ok (.ifCond .ge 7, 3) := by decide +kernel
theorem dX12_need__145 : decode cX12_need_ 145 = .ok (.iconst 0, 1) := by decide +kernel
theorem dX12_need__146 : decode cX12_need_ 146 = .ok (.goto 7, 3) := by decide +kernel
theorem dX12_need__149 : decode cX12_need_ 149 = .ok (.iconst 1, 1) := by decide +kernel
theorem dX12_need__150 : decode cX12_need_ 150 = .ok (.iload 7, 2) := by decide +kernel
theorem dX12_need__152 : decode cX12_need_ 152 = .ok (.ishl, 1) := by decide +kernel
theorem dX12_need__153 : decode cX12_need_ 153 = .ok (.ior, 1) := by decide +kernel
theorem dX12_need__154 : decode cX12_need_ 154 = .ok (.iload 8, 2) := by decide +kernel
theorem dX12_need__156 : decode cX12_need_ 156 = .ok (.ifCond .ge 7, 3) := by decide +kernel
theorem dX12_need__159 : decode cX12_need_ 159 = .ok (.iconst 0, 1) := by decide +kernel
theorem dX12_need__160 : decode cX12_need_ 160 = .ok (.goto 7, 3) := by decide +kernel
theorem dX12_need__163 : decode cX12_need_ 163 = .ok (.iconst 1, 1) := by decide +kernel
theorem dX12_need__164 : decode cX12_need_ 164 = .ok (.iload 8, 2) := by decide +kernel
theorem dX12_need__166 : decode cX12_need_ 166 = .ok (.ishl, 1) := by decide +kernel
theorem dX12_need__167 : decode cX12_need_ 167 = .ok (.ior, 1) := by decide +kernel
theorem dX12_need__168 : decode cX12_need_ 168 = .ok (.istore 9, 2) := by decide +kernel
theorem dX12_need__170 : decode cX12_need_ 170 = .ok (.aload_n 0, 1) := by decide +kernel
theorem dX12_need__171 : decode cX12_need_ 171 = .ok (.iload_n 1, 1) := by decide +kernel
theorem dX12_need__172 : decode cX12_need_ 172 = .ok (.iload_n 3, 1) := by decide +kernel
theorem dX12_need__173 : decode cX12_need_ 173 = .ok (.iload 9, 2) := by decide +kernel
theorem dX12_need__175 : decode cX12_need_ 175 = .ok (.ior, 1) := by decide +kernel
theorem dX12_need__176 : decode cX12_need_ 176 = .ok (.invokevirtual 261, 3) := by decide +kernel
theorem dX12_need__179 : decode cX12_need_ 179 = .ok (.ifCond .eq 8, 3) := by decide +kernel
theorem dX12_need__182 : decode cX12_need_ 182 = .ok (.iload 9, 2) := by decide +kernel
theorem dX12_need__184 : decode cX12_need_ 184 = .ok (.goto 4, 3) := by decide +kernel
theorem dX12_need__187 : decode cX12_need_ 187 = .ok (.iconst 0, 1) := by decide +kernel
theorem dX12_need__188 : decode cX12_need_ 188 = .ok (.istore 5, 2) := by decide +kernel
theorem dX12_need__190 : decode cX12_need_ 190 = .ok (.iinc 8 1, 3) := by decide +kernel
theorem dX12_need__193 : decode cX12_need_ 193 = .ok (.goto (-79), 3) := by decide +kernel
theorem dX12_need__196 : decode cX12_need_ 196 = .ok (.iinc 7 1, 3) := by decide +kernel
theorem dX12_need__199 : decode cX12_need_ 199 = .ok (.goto (-120), 3) := by decide +kernel
theorem dX12_need__202 : decode cX12_need_ 202 = .ok (.iinc 6 1, 3) := by decide +kernel
theorem dX12_need__205 : decode cX12_need_ 205 = .ok (.goto (-151), 3) := by decide +kernel
theorem dX12_need__208 : decode cX12_need_ 208 = .ok (.iload 5, 2) := by decide +kernel
theorem dX12_need__210 : decode cX12_need_ 210 = .ok (.ifCond .eq 6, 3) := by decide +kernel
theorem dX12_need__213 : decode cX12_need_ 213 = .ok (.iload 5, 2) := by decide +kernel
theorem dX12_need__215 : decode cX12_need_ 215 = .ok (.ireturn, 1) := by decide +kernel
theorem dX12_need__216 : decode cX12_need_ 216 = .ok (.iinc 4 1, 3) := by decide +kernel
theorem dX12_need__219 : decode cX12_need_ 219 = .ok (.goto (-177), 3) := by decide +kernel
theorem dX12_need__222 : decode cX12_need_ 222 = .ok (.aload_n 0, 1) := by decide +kernel
theorem dX12_need__223 : decode cX12_need_ 223 = .ok (.iconst 3, 1) := by decide +kernel
theorem dX12_need__224 : decode cX12_need_ 224 = .ok (.invokevirtual 190, 3) := by decide +kernel
theorem dX12_need__227 : decode cX12_need_ 227 = .ok (.ireturn, 1) := by decide +kernel
theorem dX12_could_0 : decode cX12_could 0 = .ok (.aload_n 0, 1) := by decide +kernel
theorem dX12_could_1 : decode cX12_could 1 = .ok (.iload_n 1, 1) := by decide +kernel
theorem dX12_could_2 : decode cX12_could 2 = .ok (.invokevirtual 242, 3) := by decide +kernel
theorem dX12_could_5 : decode cX12_could 5 = .ok (.ifCond .ne 9, 3) := by decide +kernel
theorem dX12_could_8 : decode cX12_could 8 = .ok (.aload_n 0, 1) := by decide +kernel
theorem dX12_could_9 : decode cX12_could 9 = .ok (.iconst 0, 1) := by decide +kernel
theorem dX12_could_10 : decode cX12_could 10 = .ok (.invokevirtual 190, 3) := by decide +kernel
theorem dX12_could_13 : decode cX12_could 13 = .ok (.ireturn, 1) := by decide +kernel
theorem dX12_could_14 : decode cX12_could 14 = .ok (.iconst 0, 1) := by decide +kernel
theorem dX12_could_15 : decode cX12_could 15 = .ok (.istore_n 2, 1) := by decide +kernel
theorem dX12_could_16 : decode cX12_could 16 = .ok (.iconst 0, 1) := by decide +kernel
theorem dX12_could_17 : decode cX12_could 17 = .ok (.istore_n 3, 1) := by decide +kernel
theorem dX12_could_18 : decode cX12_could 18 = .ok (.iload_n 3, 1) := by decide +kernel
theorem dX12_could_19 : decode cX12_could 19 = .ok (.aload_n 0, 1) := by decide +kernel
theorem dX12_could_20 : decode cX12_could 20 = .ok (.getfield 7, 3) := by decide +kernel
theorem dX12_could_23 : decode cX12_could 23 = .ok (.iconst 0, 1) := by decide +kernel
theorem dX12_could_24 : decode cX12_could 24 = .ok (.iaload, 1) := by decide +kernel
theorem dX12_could_25 : decode cX12_could 25 = .ok (.if_icmp .ge 115, 3) := by decide +kernel
theorem dX12_could_28 : decode cX12_could 28 = .ok (.aload_n 0, 1) := by decide +kernel
theorem dX12_could_29 : decode cX12_could 29 = .ok (.getfield 7, 3) := by decide +kernel
theorem dX12_could_32 : decode cX12_could 32 = .ok (.bipush 30, 2) := by decide +kernel
theorem dX12_could_34 : decode cX12_could 34 = .ok (.iload_n 3, 1) := by decide +kernel
theorem dX12_could_35 : decode cX12_could 35 = .ok (.iadd, 1) := by decide +kernel
theorem dX12_could_36 : decode cX12_could 36 = .ok (.iaload, 1) := by decide +kernel
theorem dX12_could_37 : decode cX12_could 37 = .ok (.istore 4, 2) := by decide +kernel
theorem dX12_could_39 : decode cX12_could 39 = .ok (.iconst 0, 1) := by decide +kernel
theorem dX12_could_40 : decode cX12_could 40 = .ok (.istore 5, 2) := by decide +kernel
theorem dX12_could_42 : decode cX12_could 42 = .ok (.iload 5, 2) := by decide +kernel
theorem dX12_could_44 : decode cX12_could 44 = .ok (.aload_n 0, 1) := by decide +kernel
theorem dX12_could_45 : decode cX12_could 45 = .ok (.getfield 7, 3) := by decide +kernel
theorem dX12_could_48 : decode cX12_could 48 = .ok (.iconst 4, 1) := by decide +kernel
theorem dX12_could_49 : decode cX12_could 49 = .ok (.iaload, 1) := by decide +kernel
theorem dX12_could_50 : decode cX12_could 50 = .ok (.if_icmp .ge 52, 3) := by decide +kernel
theorem dX12_could_53 : decode cX12_could 53 = .ok (.iload 4, 2) := by decide +kernel
theorem dX12_could_55 : decode cX12_could 55 = .ok (.aload_n 0, 1) := by decide +kernel
theorem dX12_could_56 : decode cX12_could 56 = .ok (.getfield 7, 3) := by decide +kernel
theorem dX12_could_59 : decode cX12_could 59 = .ok (.sipush 200, 3) := by decide +kernel
theorem dX12_could_62 : decode cX12_could 62 = .ok (.iconst 2, 1) := by decide +kernel
theorem dX12_could_63 : decode cX12_could 63 = .ok (.iload 5, 2) := by decide +kernel
theorem dX12_could_65 : decode cX12_could 65 = .ok (.imul, 1) := by decide +kernel
theorem dX12_could_66 : decode cX12_could 66 = .ok (.iadd, 1) := by decide +kernel
theorem dX12_could_67 : decode cX12_could 67 = .ok (.iaload, 1) := by decide +kernel
theorem dX12_could_68 : decode cX12_could 68 = .ok (.iload_n 3, 1) := by decide +kernel
theorem dX12_could_69 : decode cX12_could 69 = .ok (.if_icmp .ne 23, 3) := by decide +kernel
theorem dX12_could_72 : decode cX12_could 72 = .ok (.iconst 1, 1) := by decide +kernel
theorem dX12_could_73 : decode cX12_could 73 = .ok (.aload_n 0, 1) := by decide +kernel
theorem dX12_could_74 : decode cX12_could 74 = .ok (.getfield 7, 3) := by decide +kernel
theorem dX12_could_77 : decode cX12_could 77 = .ok (.sipush 200, 3) := by decide +kernel
theorem dX12_could_80 : decode cX12_could 80 = .ok (.iconst 2, 1) := by decide +kernel
theorem dX12_could_81 : decode cX12_could 81 = .ok (.iload 5, 2) := by decide +kernel
theorem dX12_could_83 : decode cX12_could 83 = .ok (.imul, 1) := by decide +kernel
theorem dX12_could_84 : decode cX12_could 84 = .ok (.iadd, 1) := by decide +kernel
theorem dX12_could_85 : decode cX12_could 85 = .ok (.iconst 1, 1) := by decide +kernel
theorem dX12_could_86 : decode cX12_could 86 = .ok (.iadd, 1) := by decide +kernel
theorem dX12_could_87 : decode cX12_could 87 = .ok (.iaload, 1) := by decide +kernel
theorem dX12_could_88 : decode cX12_could 88 = .ok (.ishl, 1) := by decide +kernel
theorem dX12_could_89 : decode cX12_could 89 = .ok (.goto 4, 3) := by decide +kernel
theorem dX12_could_92 : decode cX12_could 92 = .ok (.iconst 0, 1) := by decide +kernel
theorem dX12_could_93 : decode cX12_could 93 = .ok (.ior, 1) := by decide +kernel
theorem dX12_could_94 : decode cX12_could 94 = .ok (.istore 4, 2) := by decide +kernel
theorem dX12_could_96 : decode cX12_could 96 = .ok (.iinc 5 1, 3) := by decide +kernel
theorem dX12_could_99 : decode cX12_could 99 = .ok (.goto (-57), 3) := by decide +kernel
theorem dX12_could_102 : decode cX12_could 102 = .ok (.iload_n 2, 1) := by decide +kernel
theorem dX12_could_103 : decode cX12_could 103 = .ok (.aload_n 0, 1) := by decide +kernel
theorem dX12_could_104 : decode cX12_could 104 = .ok (.getfield 7, 3) := by decide +kernel
theorem dX12_could_107 : decode cX12_could 107 = .ok (.bipush 20, 2) := by decide +kernel
theorem dX12_could_109 : decode cX12_could 109 = .ok (.iload_n 3, 1) := by decide +kernel
theorem dX12_could_110 : decode cX12_could 110 = .ok (.iadd, 1) := by decide +kernel
theorem dX12_could_111 : decode cX12_could 111 = .ok (.iaload, 1) := by decide +kernel
theorem dX12_could_112 : decode cX12_could 112 = .ok (.ifCond .ne 19, 3) := by decide +kernel
theorem dX12_could_115 : decode cX12_could 115 = .ok (.aload_n 0, 1) := by decide +kernel
theorem dX12_could_116 : decode cX12_could 116 = .ok (.iload_n 1, 1) := by decide +kernel
theorem dX12_could_117 : decode cX12_could 117 = .ok (.iload 4, 2) := by decide +kernel
theorem dX12_could_119 : decode cX12_could 119 = .ok (.invokevirtual 261, 3) := by decide +kernel
theorem dX12_could_122 : decode cX12_could 122 = .ok (.ifCond .eq 9, 3) := by decide +kernel
theorem dX12_could_125 : decode cX12_could 125 = .ok (.iconst 1, 1) := by decide +kernel
theorem dX12_could_126 : decode cX12_could 126 = .ok (.iload_n 3, 1) := by decide +kernel
theorem dX12_could_127 : decode cX12_could 127 = .ok (.ishl, 1) := by decide +kernel
theorem dX12_could_128 : decode cX12_could 128 = .ok (.goto 4, 3) := by decide +kernel
theorem dX12_could_131 : decode cX12_could 131 = .ok (.iconst 0, 1) := by decide +kernel
theorem dX12_could_132 : decode cX12_could 132 = .ok (.ior, 1) := by decide +kernel
theorem dX12_could_133 : decode cX12_could 133 = .ok (.istore_n 2, 1) := by decide +kernel
theorem dX12_could_134 : decode cX12_could 134 = .ok (.iinc 3 1, 3) := by decide +kernel
theorem dX12_could_137 : decode cX12_could 137 = .ok (.goto (-119), 3) := by decide +kernel
theorem dX12_could_140 : decode cX12_could 140 = .ok (.iload_n 2, 1) := by decide +kernel
theorem dX12_could_141 : decode cX12_could 141 = .ok (.ireturn, 1) := by decide +kernel
theorem dX12_build_0 : decode cX12_build 0 = .ok (.aload_n 0, 1) := by decide +kernel
theorem dX12_build_1 : decode cX12_build 1 = .ok (.getfield 7, 3) := by decide +kernel
theorem dX12_build_4 : decode cX12_build 4 = .ok (.iconst 2, 1) := by decide +kernel
theorem dX12_build_5 : decode cX12_build 5 = .ok (.iaload, 1) := by decide +kernel
theorem dX12_build_6 : decode cX12_build 6 = .ok (.ifCond .ge 9, 3) := by decide +kernel
theorem dX12_build_9 : decode cX12_build 9 = .ok (.aload_n 0, 1) := by decide +kernel
theorem dX12_build_10 : decode cX12_build 10 = .ok (.iconst 4, 1) := by decide +kernel
theorem dX12_build_11 : decode cX12_build 11 = .ok (.invokevirtual 190, 3) := by decide +kernel
theorem dX12_build_14 : decode cX12_build 14 = .ok (.ireturn, 1) := by decide +kernel
theorem dX12_build_15 : decode cX12_build 15 = .ok (.aload_n 0, 1) := by decide +kernel
theorem dX12_build_16 : decode cX12_build 16 = .ok (.invokevirtual 213, 3) := by decide +kernel
theorem dX12_build_19 : decode cX12_build 19 = .ok (.aload_n 0, 1) := by decide +kernel
theorem dX12_build_20 : decode cX12_build 20 = .ok (.invokevirtual 216, 3) := by decide +kernel
theorem dX12_build_23 : decode cX12_build 23 = .ok (.ifCond .lt 9, 3) := by decide +kernel
theorem dX12_build_26 : decode cX12_build 26 = .ok (.aload_n 0, 1) := by decide +kernel
theorem dX12_build_27 : decode cX12_build 27 = .ok (.iconst 2, 1) := by decide +kernel
theorem dX12_build_28 : decode cX12_build 28 = .ok (.invokevirtual 190, 3) := by decide +kernel
theorem dX12_build_31 : decode cX12_build 31 = .ok (.ireturn, 1) := by decide +kernel
theorem dX12_build_32 : decode cX12_build 32 = .ok (.aload_n 0, 1) := by decide +kernel
theorem dX12_build_33 : decode cX12_build 33 = .ok (.iconst 1, 1) := by decide +kernel
theorem dX12_build_34 : decode cX12_build 34 = .ok (.iconst (-1), 1) := by decide +kernel
theorem dX12_build_35 : decode cX12_build 35 = .ok (.invokevirtual 225, 3) := by decide +kernel
theorem dX12_build_38 : decode cX12_build 38 = .ok (.istore_n 1, 1) := by decide +kernel
theorem dX12_build_39 : decode cX12_build 39 = .ok (.iload_n 1, 1) := by decide +kernel
theorem dX12_build_40 : decode cX12_build 40 = .ok (.ifCond .ne 9, 3) := by decide +kernel
theorem dX12_build_43 : decode cX12_build 43 = .ok (.aload_n 0, 1) := by decide +kernel
theorem dX12_build_44 : decode cX12_build 44 = .ok (.iconst 3, 1) := by decide +kernel
theorem dX12_build_45 : decode cX12_build 45 = .ok (.invokevirtual 190, 3) := by decide +kernel
theorem dX12_build_48 : decode cX12_build 48 = .ok (.ireturn, 1) := by decide +kernel
theorem dX12_build_49 : decode cX12_build 49 = .ok (.iload_n 1, 1) := by decide +kernel
theorem dX12_build_50 : decode cX12_build 50 = .ok (.bipush 24, 2) := by decide +kernel
theorem dX12_build_52 : decode cX12_build 52 = .ok (.if_icmp .gt 20, 3) := by decide +kernel
theorem dX12_build_55 : decode cX12_build 55 = .ok (.aload_n 0, 1) := by decide +kernel
theorem dX12_build_56 : decode cX12_build 56 = .ok (.getfield 7, 3) := by decide +kernel
theorem dX12_build_59 : decode cX12_build 59 = .ok (.iconst 3, 1) := by decide +kernel
theorem dX12_build_60 : decode cX12_build 60 = .ok (.iaload, 1) := by decide +kernel
theorem dX12_build_61 : decode cX12_build 61 = .ok (.iconst 2, 1) := by decide +kernel
theorem dX12_build_62 : decode cX12_build 62 = .ok (.iload_n 1, 1) := by decide +kernel
theorem dX12_build_63 : decode cX12_build 63 = .ok (.imul, 1) := by decide +kernel
theorem dX12_build_64 : decode cX12_build 64 = .ok (.iadd, 1) := by decide +kernel
theorem dX12_build_65 : decode cX12_build 65 = .ok (.iconst 1, 1) := by decide +kernel
theorem dX12_build_66 : decode cX12_build 66 = .ok (.isub, 1) := by decide +kernel
theorem dX12_build_67 : decode cX12_build 67 = .ok (.bipush 40, 2) := by decide +kernel
theorem dX12_build_69 : decode cX12_build 69 = .ok (.if_icmp .le 9, 3) := by decide +kernel
theorem dX12_build_72 : decode cX12_build 72 = .ok (.aload_n 0, 1) := by decide +kernel
theorem dX12_build_73 : decode cX12_build 73 = .ok (.iconst 1, 1) := by decide +kernel
theorem dX12_build_74 : decode cX12_build 74 = .ok (.invokevirtual 190, 3) := by decide +kernel
theorem dX12_build_77 : decode cX12_build 77 = .ok (.ireturn, 1) := by decide +kernel
theorem dX12_build_78 : decode cX12_build 78 = .ok (.iconst 0, 1) := by decide +kernel
theorem dX12_build_79 : decode cX12_build 79 = .ok (.istore_n 2, 1) := by decide +kernel
theorem dX12_build_80 : decode cX12_build 80 = .ok (.iload_n 2, 1) := by decide +kernel
theorem dX12_build_81 : decode cX12_build 81 = .ok (.iload_n 1, 1) := by decide +kernel
theorem dX12_build_82 : decode cX12_build 82 = .ok (.if_icmp .ge 21, 3) := by decide +kernel
theorem dX12_build_85 : decode cX12_build 85 = .ok (.aload_n 0, 1) := by decide +kernel
theorem dX12_build_86 : decode cX12_build 86 = .ok (.getfield 41, 3) := by decide +kernel
theorem dX12_build_89 : decode cX12_build 89 = .ok (.iload_n 2, 1) := by decide +kernel
theorem dX12_build_90 : decode cX12_build 90 = .ok (.aload_n 0, 1) := by decide +kernel
theorem dX12_build_91 : decode cX12_build 91 = .ok (.iconst 1, 1) := by decide +kernel
theorem dX12_build_92 : decode cX12_build 92 = .ok (.iload_n 2, 1) := by decide +kernel
theorem dX12_build_93 : decode cX12_build 93 = .ok (.invokevirtual 225, 3) := by decide +kernel
theorem dX12_build_96 : decode cX12_build 96 = .ok (.iastore, 1) := by decide +kernel
theorem dX12_build_97 : decode cX12_build 97 = .ok (.iinc 2 1, 3) := by decide +kernel
theorem dX12_build_100 : decode cX12_build 100 = .ok (.goto (-20), 3) := by decide +kernel
theorem dX12_build_103 : decode cX12_build 103 = .ok (.iconst 0, 1) := by decide +kernel
theorem dX12_build_104 : decode cX12_build 104 = .ok (.istore_n 2, 1) := by decide +kernel
theorem dX12_build_105 : decode cX12_build 105 = .ok (.iload_n 2, 1) := by decide +kernel
theorem dX12_build_106 : decode cX12_build 106 = .ok (.bipush 10, 2) := by decide +kernel
theorem dX12_build_108 : decode cX12_build 108 = .ok (.if_icmp .ge 19, 3) := by decide +kernel
theorem dX12_build_111 : decode cX12_build 111 = .ok (.aload_n 0, 1) := by decide +kernel
theorem dX12_build_112 : decode cX12_build 112 = .ok (.getfield 7, 3) := by decide +kernel
theorem dX12_build_115 : decode cX12_build 115 = .ok (.bipush 30, 2) := by decide +kernel
theorem dX12_build_117 : decode cX12_build 117 = .ok (.iload_n 2, 1) := by decide +kernel
theorem dX12_build_118 : decode cX12_build 118 = .ok (.iadd, 1) := by decide +kernel
theorem dX12_build_119 : decode cX12_build 119 = .ok (.iconst 0, 1) := by decide +kernel
theorem dX12_build_120 : decode cX12_build 120 = .ok (.iastore, 1) := by decide +kernel
theorem dX12_build_121 : decode cX12_build 121 = .ok (.iinc 2 1, 3) := by decide +kernel
theorem dX12_build_124 : decode cX12_build 124 = .ok (.goto (-19), 3) := by decide +kernel
theorem dX12_build_127 : decode cX12_build 127 = .ok (.aload_n 0, 1) := by decide +kernel
theorem dX12_build_128 : decode cX12_build 128 = .ok (.getfield 7, 3) := by decide +kernel
theorem dX12_build_131 : decode cX12_build 131 = .ok (.iconst 3, 1) := by decide +kernel
theorem dX12_build_132 : decode cX12_build 132 = .ok (.iaload, 1) := by decide +kernel
theorem dX12_build_133 : decode cX12_build 133 = .ok (.istore_n 2, 1) := by decide +kernel
theorem dX12_build_134 : decode cX12_build 134 = .ok (.aload_n 0, 1) := by decide +kernel
theorem dX12_build_135 : decode cX12_build 135 = .ok (.invokevirtual 181, 3) := by decide +kernel
theorem dX12_build_138 : decode cX12_build 138 = .ok (.istore_n 3, 1) := by decide +kernel
theorem dX12_build_139 : decode cX12_build 139 = .ok (.iconst 0, 1) := by decide +kernel
theorem dX12_build_140 : decode cX12_build 140 = .ok (.istore 4, 2) := by decide +kernel
theorem dX12_build_142 : decode cX12_build 142 = .ok (.iload 4, 2) := by decide +kernel
theorem dX12_build_144 : decode cX12_build 144 = .ok (.iload_n 1, 1) := by decide +kernel
theorem dX12_build_145 : decode cX12_build 145 = .ok (.if_icmp .ge 72, 3) := by decide +kernel
theorem dX12_build_148 : decode cX12_build 148 = .ok (.aload_n 0, 1) := by decide +kernel
theorem dX12_build_149 : decode cX12_build 149 = .ok (.iconst 1, 1) := by decide +kernel
theorem dX12_build_150 : decode cX12_build 150 = .ok (.iconst (-1), 1) := by decide +kernel
theorem dX12_build_151 : decode cX12_build 151 = .ok (.iconst (-1), 1) := by decide +kernel
theorem dX12_build_152 : decode cX12_build 152 = .ok (.iload 4, 2) := by decide +kernel
theorem dX12_build_154 : decode cX12_build 154 = .ok (.invokevirtual 238, 3) := by decide +kernel
theorem dX12_build_157 : decode cX12_build 157 = .ok (.istore 5, 2) := by decide +kernel
theorem dX12_build_159 : decode cX12_build 159 = .ok (.iconst 0, 1) := by decide +kernel
theorem dX12_build_160 : decode cX12_build 160 = .ok (.istore 6, 2) := by decide +kernel
theorem dX12_build_162 : decode cX12_build 162 = .ok (.iload 6, 2) := by decide +kernel
theorem dX12_build_164 : decode cX12_build 164 = .ok (.aload_n 0, 1) := by decide +kernel
theorem dX12_build_165 : decode cX12_build 165 = .ok (.getfield 7, 3) := by decide +kernel
theorem dX12_build_168 : decode cX12_build 168 = .ok (.iconst 0, 1) := by decide +kernel
theorem dX12_build_169 : decode cX12_build 169 = .ok (.iaload, 1) := by decide +kernel
theorem dX12_build_170 : decode cX12_build 170 = .ok (.if_icmp .ge 41, 3) := by decide +kernel
theorem dX12_build_173 : decode cX12_build 173 = .ok (.aload_n 0, 1) := by decide +kernel
theorem dX12_build_174 : decode cX12_build 174 = .ok (.getfield 7, 3) := by decide +kernel
theorem dX12_build_177 : decode cX12_build 177 = .ok (.bipush 30, 2) := by decide +kernel
theorem dX12_build_179 : decode cX12_build 179 = .ok (.iload 6, 2) := by decide +kernel
theorem dX12_build_181 : decode cX12_build 181 = .ok (.iadd, 1) := by decide +kernel
theorem dX12_build_182 : decode cX12_build 182 = .ok (.dup2, 1) := by decide +kernel
theorem dX12_build_183 : decode cX12_build 183 = .ok (.iaload, 1) := by decide +kernel
theorem dX12_build_184 : decode cX12_build 184 = .ok (.iload_n 3, 1) := by decide +kernel
theorem dX12_build_185 : decode cX12_build 185 = .ok (.aload_n 0, 1) := by decide +kernel
theorem dX12_build_186 : decode cX12_build 186 = .ok (.getfield 41, 3) := by decide +kernel
theorem dX12_build_189 : decode cX12_build 189 = .ok (.iload 4, 2) := by decide +kernel
theorem dX12_build_191 : decode cX12_build 191 = .ok (.iaload, 1) := by decide +kernel
theorem dX12_build_192 : decode cX12_build 192 = .ok (.iconst (-1), 1) := by decide +kernel
theorem dX12_build_193 : decode cX12_build 193 = .ok (.ixor, 1) := by decide +kernel
theorem dX12_build_194 : decode cX12_build 194 = .ok (.iand, 1) := by decide +kernel
theorem dX12_build_195 : decode cX12_build 195 = .ok (.iload 6, 2) := by decide +kernel
theorem dX12_build_197 : decode cX12_build 197 = .ok (.ishr, 1) := by decide +kernel
theorem dX12_build_198 : decode cX12_build 198 = .ok (.iconst 1, 1) := by decide +kernel
theorem dX12_build_199 : decode cX12_build 199 = .ok (.iand, 1) := by decide +kernel
theorem dX12_build_200 : decode cX12_build 200 = .ok (.iload 4, 2) := by decide +kernel
theorem dX12_build_202 : decode cX12_build 202 = .ok (.ishl, 1) := by decide +kernel
theorem dX12_build_203 : decode cX12_build 203 = .ok (.ior, 1) := by decide +kernel
theorem dX12_build_204 : decode cX12_build 204 = .ok (.iastore, 1) := by decide +kernel
theorem dX12_build_205 : decode cX12_build 205 = .ok (.iinc 6 1, 3) := by decide +kernel
theorem dX12_build_208 : decode cX12_build 208 = .ok (.goto (-46), 3) := by decide +kernel
theorem dX12_build_211 : decode cX12_build 211 = .ok (.iinc 4 1, 3) := by decide +kernel
theorem dX12_build_214 : decode cX12_build 214 = .ok (.goto (-72), 3) := by decide +kernel
theorem dX12_build_217 : decode cX12_build 217 = .ok (.iload_n 2, 1) := by decide +kernel
theorem dX12_build_218 : decode cX12_build 218 = .ok (.istore 4, 2) := by decide +kernel
theorem dX12_build_220 : decode cX12_build 220 = .ok (.iconst 1, 1) := by decide +kernel
theorem dX12_build_221 : decode cX12_build 221 = .ok (.istore 5, 2) := by decide +kernel
theorem dX12_build_223 : decode cX12_build 223 = .ok (.iload 5, 2) := by decide +kernel
theorem dX12_build_225 : decode cX12_build 225 = .ok (.iload_n 1, 1) := by decide +kernel
theorem dX12_build_226 : decode cX12_build 226 = .ok (.if_icmp .ge 23, 3) := by decide +kernel
theorem dX12_build_229 : decode cX12_build 229 = .ok (.aload_n 0, 1) := by decide +kernel
theorem dX12_build_230 : decode cX12_build 230 = .ok (.iconst 3, 1) := by decide +kernel
theorem dX12_build_231 : decode cX12_build 231 = .ok (.iload 4, 2) := by decide +kernel
theorem dX12_build_233 : decode cX12_build 233 = .ok (.iload_n 2, 1) := by decide +kernel
theorem dX12_build_234 : decode cX12_build 234 = .ok (.iload 5, 2) := by decide +kernel
theorem dX12_build_236 : decode cX12_build 236 = .ok (.iadd, 1) := by decide +kernel
theorem dX12_build_237 : decode cX12_build 237 = .ok (.iconst (-1), 1) := by decide +kernel
theorem dX12_build_238 : decode cX12_build 238 = .ok (.invokevirtual 238, 3) := by decide +kernel
theorem dX12_build_241 : decode cX12_build 241 = .ok (.istore 4, 2) := by decide +kernel
theorem dX12_build_243 : decode cX12_build 243 = .ok (.iinc 5 1, 3) := by decide +kernel
theorem dX12_build_246 : decode cX12_build 246 = .ok (.goto (-23), 3) := by decide +kernel
theorem dX12_build_249 : decode cX12_build 249 = .ok (.iload 4, 2) := by decide +kernel
theorem dX12_build_251 : decode cX12_build 251 = .ok (.ireturn, 1) := by decide +kernel
theorem dX12_adds_0 : decode cX12_adds 0 = .ok (.iconst 0, 1) := by decide +kernel
theorem dX12_adds_1 : decode cX12_adds 1 = .ok (.istore_n 3, 1) := by decide +kernel
theorem dX12_adds_2 : decode cX12_adds 2 = .ok (.iload_n 3, 1) := by decide +kernel
theorem dX12_adds_3 : decode cX12_adds 3 = .ok (.aload_n 0, 1) := by decide +kernel
theorem dX12_adds_4 : decode cX12_adds 4 = .ok (.getfield 284, 3) := by decide +kernel
theorem dX12_adds_7 : decode cX12_adds 7 = .ok (.if_icmp .ge 20, 3) := by decide +kernel
theorem dX12_adds_10 : decode cX12_adds 10 = .ok (.aload_n 0, 1) := by decide +kernel
theorem dX12_adds_11 : decode cX12_adds 11 = .ok (.getfield 44, 3) := by decide +kernel
theorem dX12_adds_14 : decode cX12_adds 14 = .ok (.iload_n 3, 1) := by decide +kernel
theorem dX12_adds_15 : decode cX12_adds 15 = .ok (.iaload, 1) := by decide +kernel
theorem dX12_adds_16 : decode cX12_adds 16 = .ok (.iload_n 1, 1) := by decide +kernel
theorem dX12_adds_17 : decode cX12_adds 17 = .ok (.if_icmp .ne 4, 3) := by decide +kernel
theorem dX12_adds_20 : decode cX12_adds 20 = .ok (.return_, 1) := by decide +kernel
theorem dX12_adds_21 : decode cX12_adds 21 = .ok (.iinc 3 1, 3) := by decide +kernel
theorem dX12_adds_24 : decode cX12_adds 24 = .ok (.goto (-22), 3) := by decide +kernel
theorem dX12_adds_27 : decode cX12_adds 27 = .ok (.aload_n 0, 1) := by decide +kernel
theorem dX12_adds_28 : decode cX12_adds 28 = .ok (.getfield 44, 3) := by decide +kernel
theorem dX12_adds_31 : decode cX12_adds 31 = .ok (.aload_n 0, 1) := by decide +kernel
theorem dX12_adds_32 : decode cX12_adds 32 = .ok (.getfield 284, 3) := by decide +kernel
theorem dX12_adds_35 : decode cX12_adds 35 = .ok (.iload_n 1, 1) := by decide +kernel
theorem dX12_adds_36 : decode cX12_adds 36 = .ok (.iastore, 1) := by decide +kernel
theorem dX12_adds_37 : decode cX12_adds 37 = .ok (.aload_n 0, 1) := by decide +kernel
theorem dX12_adds_38 : decode cX12_adds 38 = .ok (.getfield 47, 3) := by decide +kernel
theorem dX12_adds_41 : decode cX12_adds 41 = .ok (.aload_n 0, 1) := by decide +kernel
theorem dX12_adds_42 : decode cX12_adds 42 = .ok (.getfield 284, 3) := by decide +kernel
theorem dX12_adds_45 : decode cX12_adds 45 = .ok (.iload_n 2, 1) := by decide +kernel
theorem dX12_adds_46 : decode cX12_adds 46 = .ok (.iastore, 1) := by decide +kernel
theorem dX12_adds_47 : decode cX12_adds 47 = .ok (.aload_n 0, 1) := by decide +kernel
theorem dX12_adds_48 : decode cX12_adds 48 = .ok (.dup, 1) := by decide +kernel
theorem dX12_adds_49 : decode cX12_adds 49 = .ok (.getfield 284, 3) := by decide +kernel
theorem dX12_adds_52 : decode cX12_adds 52 = .ok (.iconst 1, 1) := by decide +kernel
theorem dX12_adds_53 : decode cX12_adds 53 = .ok (.iadd, 1) := by decide +kernel
theorem dX12_adds_54 : decode cX12_adds 54 = .ok (.putfield 284, 3) := by decide +kernel
theorem dX12_adds_57 : decode cX12_adds 57 = .ok (.return_, 1) := by decide +kernel
theorem dX12_sizeOf_0 : decode cX12_sizeOf 0 = .ok (.iconst 0, 1) := by decide +kernel
theorem dX12_sizeOf_1 : decode cX12_sizeOf 1 = .ok (.istore_n 2, 1) := by decide +kernel
theorem dX12_sizeOf_2 : decode cX12_sizeOf 2 = .ok (.iload_n 2, 1) := by decide +kernel
theorem dX12_sizeOf_3 : decode cX12_sizeOf 3 = .ok (.aload_n 0, 1) := by decide +kernel
theorem dX12_sizeOf_4 : decode cX12_sizeOf 4 = .ok (.getfield 284, 3) := by decide +kernel
theorem dX12_sizeOf_7 : decode cX12_sizeOf 7 = .ok (.if_icmp .ge 26, 3) := by decide +kernel
theorem dX12_sizeOf_10 : decode cX12_sizeOf 10 = .ok (.aload_n 0, 1) := by decide +kernel
theorem dX12_sizeOf_11 : decode cX12_sizeOf 11 = .ok (.getfield 44, 3) := by decide +kernel
theorem dX12_sizeOf_14 : decode cX12_sizeOf 14 = .ok (.iload_n 2, 1) := by decide +kernel
theorem dX12_sizeOf_15 : decode cX12_sizeOf 15 = .ok (.iaload, 1) := by decide +kernel
theorem dX12_sizeOf_16 : decode cX12_sizeOf 16 = .ok (.iload_n 1, 1) := by decide +kernel
theorem dX12_sizeOf_17 : decode cX12_sizeOf 17 = .ok (.if_icmp .ne 10, 3) := by decide +kernel
theorem dX12_sizeOf_20 : decode cX12_sizeOf 20 = .ok (.aload_n 0, 1) := by decide +kernel
theorem dX12_sizeOf_21 : decode cX12_sizeOf 21 = .ok (.getfield 47, 3) := by decide +kernel
theorem dX12_sizeOf_24 : decode cX12_sizeOf 24 = .ok (.iload_n 2, 1) := by decide +kernel
theorem dX12_sizeOf_25 : decode cX12_sizeOf 25 = .ok (.iaload, 1) := by decide +kernel
theorem dX12_sizeOf_26 : decode cX12_sizeOf 26 = .ok (.ireturn, 1) := by decide +kernel
theorem dX12_sizeOf_27 : decode cX12_sizeOf 27 = .ok (.iinc 2 1, 3) := by decide +kernel
theorem dX12_sizeOf_30 : decode cX12_sizeOf 30 = .ok (.goto (-28), 3) := by decide +kernel
theorem dX12_sizeOf_33 : decode cX12_sizeOf 33 = .ok (.iconst 0, 1) := by decide +kernel
theorem dX12_sizeOf_34 : decode cX12_sizeOf 34 = .ok (.ireturn, 1) := by decide +kernel
theorem dX12_spread_0 : decode cX12_spread 0 = .ok (.iconst 0, 1) := by decide +kernel
theorem dX12_spread_1 : decode cX12_spread 1 = .ok (.istore_n 2, 1) := by decide +kernel
theorem dX12_spread_2 : decode cX12_spread 2 = .ok (.iconst 0, 1) := by decide +kernel
theorem dX12_spread_3 : decode cX12_spread 3 = .ok (.istore_n 3, 1) := by decide +kernel
theorem dX12_spread_4 : decode cX12_spread 4 = .ok (.iconst 0, 1) := by decide +kernel
theorem dX12_spread_5 : decode cX12_spread 5 = .ok (.istore 4, 2) := by decide +kernel
theorem dX12_spread_7 : decode cX12_spread 7 = .ok (.iload 4, 2) := by decide +kernel
theorem dX12_spread_9 : decode cX12_spread 9 = .ok (.bipush 10, 2) := by decide +kernel
theorem dX12_spread_11 : decode cX12_spread 11 = .ok (.if_icmp .ge 33, 3) := by decide +kernel
theorem dX12_spread_14 : decode cX12_spread 14 = .ok (.iload_n 1, 1) := by decide +kernel
theorem dX12_spread_15 : decode cX12_spread 15 = .ok (.iload 4, 2) := by decide +kernel
theorem dX12_spread_17 : decode cX12_spread 17 = .ok (.ishr, 1) := by decide +kernel
theorem dX12_spread_18 : decode cX12_spread 18 = .ok (.iconst 1, 1) := by decide +kernel
theorem dX12_spread_19 : decode cX12_spread 19 = .ok (.iand, 1) := by decide +kernel
theorem dX12_spread_20 : decode cX12_spread 20 = .ok (.iconst 1, 1) := by decide +kernel
theorem dX12_spread_21 : decode cX12_spread 21 = .ok (.if_icmp .ne 17, 3) := by decide +kernel
theorem dX12_spread_24 : decode cX12_spread 24 = .ok (.iload_n 2, 1) := by decide +kernel
theorem dX12_spread_25 : decode cX12_spread 25 = .ok (.iload_n 0, 1) := by decide +kernel
theorem dX12_spread_26 : decode cX12_spread 26 = .ok (.iload_n 3, 1) := by decide +kernel
theorem dX12_spread_27 : decode cX12_spread 27 = .ok (.ishr, 1) := by decide +kernel
theorem dX12_spread_28 : decode cX12_spread 28 = .ok (.iconst 1, 1) := by decide +kernel
theorem dX12_spread_29 : decode cX12_spread 29 = .ok (.iand, 1) := by decide +kernel
theorem dX12_spread_30 : decode cX12_spread 30 = .ok (.iload 4, 2) := by decide +kernel
theorem dX12_spread_32 : decode cX12_spread 32 = .ok (.ishl, 1) := by decide +kernel
theorem dX12_spread_33 : decode cX12_spread 33 = .ok (.ior, 1) := by decide +kernel
theorem dX12_spread_34 : decode cX12_spread 34 = .ok (.istore_n 2, 1) := by decide +kernel
theorem dX12_spread_35 : decode cX12_spread 35 = .ok (.iinc 3 1, 3) := by decide +kernel
theorem dX12_spread_38 : decode cX12_spread 38 = .ok (.iinc 4 1, 3) := by decide +kernel
theorem dX12_spread_41 : decode cX12_spread 41 = .ok (.goto (-34), 3) := by decide +kernel
theorem dX12_spread_44 : decode cX12_spread 44 = .ok (.iload_n 2, 1) := by decide +kernel
theorem dX12_spread_45 : decode cX12_spread 45 = .ok (.ireturn, 1) := by decide +kernel
theorem dX12_fewest_0 : decode cX12_fewest 0 = .ok (.aload_n 0, 1) := by decide +kernel
theorem dX12_fewest_1 : decode cX12_fewest 1 = .ok (.getfield 7, 3) := by decide +kernel
theorem dX12_fewest_4 : decode cX12_fewest 4 = .ok (.iconst 2, 1) := by decide +kernel
theorem dX12_fewest_5 : decode cX12_fewest 5 = .ok (.iaload, 1) := by decide +kernel
theorem dX12_fewest_6 : decode cX12_fewest 6 = .ok (.ifCond .ge 9, 3) := by decide +kernel
theorem dX12_fewest_9 : decode cX12_fewest 9 = .ok (.aload_n 0, 1) := by decide +kernel
theorem dX12_fewest_10 : decode cX12_fewest 10 = .ok (.iconst 4, 1) := by decide +kernel
theorem dX12_fewest_11 : decode cX12_fewest 11 = .ok (.invokevirtual 190, 3) := by decide +kernel
theorem dX12_fewest_14 : decode cX12_fewest 14 = .ok (.ireturn, 1) := by decide +kernel
theorem dX12_fewest_15 : decode cX12_fewest 15 = .ok (.aload_n 0, 1) := by decide +kernel
theorem dX12_fewest_16 : decode cX12_fewest 16 = .ok (.invokevirtual 181, 3) := by decide +kernel
theorem dX12_fewest_19 : decode cX12_fewest 19 = .ok (.istore_n 1, 1) := by decide +kernel
theorem dX12_fewest_20 : decode cX12_fewest 20 = .ok (.iload_n 1, 1) := by decide +kernel
theorem dX12_fewest_21 : decode cX12_fewest 21 = .ok (.invokestatic 147, 3) := by decide +kernel
theorem dX12_fewest_24 : decode cX12_fewest 24 = .ok (.istore_n 2, 1) := by decide +kernel
theorem dX12_fewest_25 : decode cX12_fewest 25 = .ok (.iload_n 2, 1) := by decide +kernel
theorem dX12_fewest_26 : decode cX12_fewest 26 = .ok (.ifCond .eq 8, 3) := by decide +kernel
theorem dX12_fewest_29 : decode cX12_fewest 29 = .ok (.iload_n 2, 1) := by decide +kernel
theorem dX12_fewest_30 : decode cX12_fewest 30 = .ok (.iconst 4, 1) := by decide +kernel
theorem dX12_fewest_31 : decode cX12_fewest 31 = .ok (.if_icmp .le 10, 3) := by decide +kernel
theorem dX12_fewest_34 : decode cX12_fewest 34 = .ok (.aload_n 0, 1) := by decide +kernel
theorem dX12_fewest_35 : decode cX12_fewest 35 = .ok (.bipush 6, 2) := by decide +kernel
theorem dX12_fewest_37 : decode cX12_fewest 37 = .ok (.invokevirtual 190, 3) := by decide +kernel
theorem dX12_fewest_40 : decode cX12_fewest 40 = .ok (.ireturn, 1) := by decide +kernel
theorem dX12_fewest_41 : decode cX12_fewest 41 = .ok (.aload_n 0, 1) := by decide +kernel
theorem dX12_fewest_42 : decode cX12_fewest 42 = .ok (.invokevirtual 213, 3) := by decide +kernel
theorem dX12_fewest_45 : decode cX12_fewest 45 = .ok (.aload_n 0, 1) := by decide +kernel
theorem dX12_fewest_46 : decode cX12_fewest 46 = .ok (.invokevirtual 216, 3) := by decide +kernel
theorem dX12_fewest_49 : decode cX12_fewest 49 = .ok (.ifCond .lt 9, 3) := by decide +kernel
theorem dX12_fewest_52 : decode cX12_fewest 52 = .ok (.aload_n 0, 1) := by decide +kernel
theorem dX12_fewest_53 : decode cX12_fewest 53 = .ok (.iconst 2, 1) := by decide +kernel
theorem dX12_fewest_54 : decode cX12_fewest 54 = .ok (.invokevirtual 190, 3) := by decide +kernel
theorem dX12_fewest_57 : decode cX12_fewest 57 = .ok (.ireturn, 1) := by decide +kernel
theorem dX12_fewest_58 : decode cX12_fewest 58 = .ok (.iconst 1, 1) := by decide +kernel
theorem dX12_fewest_59 : decode cX12_fewest 59 = .ok (.iload_n 2, 1) := by decide +kernel
theorem dX12_fewest_60 : decode cX12_fewest 60 = .ok (.ishl, 1) := by decide +kernel
theorem dX12_fewest_61 : decode cX12_fewest 61 = .ok (.istore_n 3, 1) := by decide +kernel
theorem dX12_fewest_62 : decode cX12_fewest 62 = .ok (.iconst 0, 1) := by decide +kernel
theorem dX12_fewest_63 : decode cX12_fewest 63 = .ok (.istore 4, 2) := by decide +kernel
theorem dX12_fewest_65 : decode cX12_fewest 65 = .ok (.iconst 0, 1) := by decide +kernel
theorem dX12_fewest_66 : decode cX12_fewest 66 = .ok (.istore 5, 2) := by decide +kernel
theorem dX12_fewest_68 : decode cX12_fewest 68 = .ok (.iload 5, 2) := by decide +kernel
theorem dX12_fewest_70 : decode cX12_fewest 70 = .ok (.iload_n 3, 1) := by decide +kernel
theorem dX12_fewest_71 : decode cX12_fewest 71 = .ok (.if_icmp .ge 36, 3) := by decide +kernel
theorem dX12_fewest_74 : decode cX12_fewest 74 = .ok (.iload 4, 2) := by decide +kernel
theorem dX12_fewest_76 : decode cX12_fewest 76 = .ok (.aload_n 0, 1) := by decide +kernel
theorem dX12_fewest_77 : decode cX12_fewest 77 = .ok (.getfield 22, 3) := by decide +kernel
theorem dX12_fewest_80 : decode cX12_fewest 80 = .ok (.iload 5, 2) := by decide +kernel
theorem dX12_fewest_82 : decode cX12_fewest 82 = .ok (.iload_n 1, 1) := by decide +kernel
theorem dX12_fewest_83 : decode cX12_fewest 83 = .ok (.invokestatic 287, 3) := by decide +kernel
theorem dX12_fewest_86 : decode cX12_fewest 86 = .ok (.baload, 1) := by decide +kernel
theorem dX12_fewest_87 : decode cX12_fewest 87 = .ok (.ifCond .eq 10, 3) := by decide +kernel
theorem dX12_fewest_90 : decode cX12_fewest 90 = .ok (.iconst 1, 1) := by decide +kernel
theorem dX12_fewest_91 : decode cX12_fewest 91 = .ok (.iload 5, 2) := by decide +kernel
theorem dX12_fewest_93 : decode cX12_fewest 93 = .ok (.ishl, 1) := by decide +kernel
theorem dX12_fewest_94 : decode cX12_fewest 94 = .ok (.goto 4, 3) := by decide +kernel
theorem dX12_fewest_97 : decode cX12_fewest 97 = .ok (.iconst 0, 1) := by decide +kernel
theorem dX12_fewest_98 : decode cX12_fewest 98 = .ok (.ior, 1) := by decide +kernel
theorem dX12_fewest_99 : decode cX12_fewest 99 = .ok (.istore 4, 2) := by decide +kernel
theorem dX12_fewest_101 : decode cX12_fewest 101 = .ok (.iinc 5 1, 3) := by decide +kernel
theorem dX12_fewest_104 : decode cX12_fewest 104 = .ok (.goto (-36), 3) := by decide +kernel
theorem dX12_fewest_107 : decode cX12_fewest 107 = .ok (.iload 4, 2) := by decide +kernel
theorem dX12_fewest_109 : decode cX12_fewest 109 = .ok (.ifCond .eq 13, 3) := by decide +kernel
theorem dX12_fewest_112 : decode cX12_fewest 112 = .ok (.iload 4, 2) := by decide +kernel
theorem dX12_fewest_114 : decode cX12_fewest 114 = .ok (.iconst 1, 1) := by decide +kernel
theorem dX12_fewest_115 : decode cX12_fewest 115 = .ok (.iload_n 3, 1) := by decide +kernel
theorem dX12_fewest_116 : decode cX12_fewest 116 = .ok (.ishl, 1) := by decide +kernel
theorem dX12_fewest_117 : decode cX12_fewest 117 = .ok (.iconst 1, 1) := by decide +kernel
theorem dX12_fewest_118 : decode cX12_fewest 118 = .ok (.isub, 1) := by decide +kernel
theorem dX12_fewest_119 : decode cX12_fewest 119 = .ok (.if_icmp .ne 9, 3) := by decide +kernel
theorem dX12_fewest_122 : decode cX12_fewest 122 = .ok (.aload_n 0, 1) := by decide +kernel
theorem dX12_fewest_123 : decode cX12_fewest 123 = .ok (.iconst 3, 1) := by decide +kernel
theorem dX12_fewest_124 : decode cX12_fewest 124 = .ok (.invokevirtual 190, 3) := by decide +kernel
theorem dX12_fewest_127 : decode cX12_fewest 127 = .ok (.ireturn, 1) := by decide +kernel
theorem dX12_fewest_128 : decode cX12_fewest 128 = .ok (.aload_n 0, 1) := by decide +kernel
theorem dX12_fewest_129 : decode cX12_fewest 129 = .ok (.iconst 0, 1) := by decide +kernel
theorem dX12_fewest_130 : decode cX12_fewest 130 = .ok (.putfield 284, 3) := by decide +kernel
theorem dX12_fewest_133 : decode cX12_fewest 133 = .ok (.iconst 0, 1) := by decide +kernel
theorem dX12_fewest_134 : decode cX12_fewest 134 = .ok (.istore 5, 2) := by decide +kernel
theorem dX12_fewest_136 : decode cX12_fewest 136 = .ok (.iload 5, 2) := by decide +kernel
theorem dX12_fewest_138 : decode cX12_fewest 138 = .ok (.iload_n 2, 1) := by decide +kernel
theorem dX12_fewest_139 : decode cX12_fewest 139 = .ok (.if_icmp .ge 49, 3) := by decide +kernel
theorem dX12_fewest_142 : decode cX12_fewest 142 = .ok (.iconst 0, 1) := by decide +kernel
theorem dX12_fewest_143 : decode cX12_fewest 143 = .ok (.istore 6, 2) := by decide +kernel
theorem dX12_fewest_145 : decode cX12_fewest 145 = .ok (.iconst 0, 1) := by decide +kernel
theorem dX12_fewest_146 : decode cX12_fewest 146 = .ok (.istore 7, 2) := by decide +kernel
theorem dX12_fewest_148 : decode cX12_fewest 148 = .ok (.iload 7, 2) := by decide +kernel
theorem dX12_fewest_150 : decode cX12_fewest 150 = .ok (.iload_n 3, 1) := by decide +kernel
theorem dX12_fewest_151 : decode cX12_fewest 151 = .ok (.if_icmp .ge 24, 3) := by decide +kernel
theorem dX12_fewest_154 : decode cX12_fewest 154 = .ok (.iload 6, 2) := by decide +kernel
theorem dX12_fewest_156 : decode cX12_fewest 156 = .ok (.iload 7, 2) := by decide +kernel
theorem dX12_fewest_158 : decode cX12_fewest 158 = .ok (.iload 5, 2) := by decide +kernel
theorem dX12_fewest_160 : decode cX12_fewest 160 = .ok (.ishr, 1) := by decide +kernel
theorem dX12_fewest_161 : decode cX12_fewest 161 = .ok (.iconst 1, 1) := by decide +kernel
theorem dX12_fewest_162 : decode cX12_fewest 162 = .ok (.iand, 1) := by decide +kernel
theorem dX12_fewest_163 : decode cX12_fewest 163 = .ok (.iload 7, 2) := by decide +kernel
theorem dX12_fewest_165 : decode cX12_fewest 165 = .ok (.ishl, 1) := by decide +kernel
theorem dX12_fewest_166 : decode cX12_fewest 166 = .ok (.ior, 1) := by decide +kernel
theorem dX12_fewest_167 : decode cX12_fewest 167 = .ok (.istore 6, 2) := by decide +kernel
theorem dX12_fewest_169 : decode cX12_fewest 169 = .ok (.iinc 7 1, 3) := by decide +kernel
theorem dX12_fewest_172 : decode cX12_fewest 172 = .ok (.goto (-24), 3) := by decide +kernel
theorem dX12_fewest_175 : decode cX12_fewest 175 = .ok (.aload_n 0, 1) := by decide +kernel
theorem dX12_fewest_176 : decode cX12_fewest 176 = .ok (.iload 6, 2) := by decide +kernel
theorem dX12_fewest_178 : decode cX12_fewest 178 = .ok (.iconst 1, 1) := by decide +kernel
theorem dX12_fewest_179 : decode cX12_fewest 179 = .ok (.invokevirtual 290, 3) := by decide +kernel
theorem dX12_fewest_182 : decode cX12_fewest 182 = .ok (.iinc 5 1, 3) := by decide +kernel
theorem dX12_fewest_185 : decode cX12_fewest 185 = .ok (.goto (-49), 3) := by decide +kernel
theorem dX12_fewest_188 : decode cX12_fewest 188 = .ok (.iconst 2, 1) := by decide +kernel
theorem dX12_fewest_189 : decode cX12_fewest 189 = .ok (.istore 5, 2) := by decide +kernel
theorem dX12_fewest_191 : decode cX12_fewest 191 = .ok (.aload_n 0, 1) := by decide +kernel
theorem dX12_fewest_192 : decode cX12_fewest 192 = .ok (.iload 4, 2) := by decide +kernel
theorem dX12_fewest_194 : decode cX12_fewest 194 = .ok (.invokevirtual 294, 3) := by decide +kernel
theorem dX12_fewest_197 : decode cX12_fewest 197 = .ok (.ifCond .ne 109, 3) := by decide +kernel
theorem dX12_fewest_200 : decode cX12_fewest 200 = .ok (.aload_n 0, 1) := by decide +kernel
theorem dX12_fewest_201 : decode cX12_fewest 201 = .ok (.getfield 284, 3) := by decide +kernel
theorem dX12_fewest_204 : decode cX12_fewest 204 = .ok (.istore 6, 2) := by decide +kernel
theorem dX12_fewest_206 : decode cX12_fewest 206 = .ok (.iconst 0, 1) := by decide +kernel
theorem dX12_fewest_207 : decode cX12_fewest 207 = .ok (.istore 7, 2) := by decide +kernel
theorem dX12_fewest_209 : decode cX12_fewest 209 = .ok (.iload 7, 2) := by decide +kernel
theorem dX12_fewest_211 : decode cX12_fewest 211 = .ok (.iload 6, 2) := by decide +kernel
theorem dX12_fewest_213 : decode cX12_fewest 213 = .ok (.if_icmp .ge 87, 3) := by decide +kernel
theorem dX12_fewest_216 : decode cX12_fewest 216 = .ok (.iconst 0, 1) := by decide +kernel
theorem dX12_fewest_217 : decode cX12_fewest 217 = .ok (.istore 8, 2) := by decide +kernel
theorem dX12_fewest_219 : decode cX12_fewest 219 = .ok (.iload 8, 2) := by decide +kernel
theorem dX12_fewest_221 : decode cX12_fewest 221 = .ok (.iload 7, 2) := by decide +kernel
theorem dX12_fewest_223 : decode cX12_fewest 223 = .ok (.if_icmp .gt 71, 3) := by decide +kernel
theorem dX12_fewest_226 : decode cX12_fewest 226 = .ok (.aload_n 0, 1) := by decide +kernel
theorem dX12_fewest_227 : decode cX12_fewest 227 = .ok (.getfield 47, 3) := by decide +kernel
theorem dX12_fewest_230 : decode cX12_fewest 230 = .ok (.iload 7, 2) := by decide +kernel
theorem dX12_fewest_232 : decode cX12_fewest 232 = .ok (.iaload, 1) := by decide +kernel
theorem dX12_fewest_233 : decode cX12_fewest 233 = .ok (.aload_n 0, 1) := by decide +kernel
theorem dX12_fewest_234 : decode cX12_fewest 234 = .ok (.getfield 47, 3) := by decide +kernel
theorem dX12_fewest_237 : decode cX12_fewest 237 = .ok (.iload 8, 2) := by decide +kernel
theorem dX12_fewest_239 : decode cX12_fewest 239 = .ok (.iaload, 1) := by decide +kernel
theorem dX12_fewest_240 : decode cX12_fewest 240 = .ok (.iadd, 1) := by decide +kernel
theorem dX12_fewest_241 : decode cX12_fewest 241 = .ok (.iload 5, 2) := by decide +kernel
theorem dX12_fewest_243 : decode cX12_fewest 243 = .ok (.if_icmp .ne 45, 3) := by decide +kernel
theorem dX12_fewest_246 : decode cX12_fewest 246 = .ok (.aload_n 0, 1) := by decide +kernel
theorem dX12_fewest_247 : decode cX12_fewest 247 = .ok (.aload_n 0, 1) := by decide +kernel
theorem dX12_fewest_248 : decode cX12_fewest 248 = .ok (.getfield 44, 3) := by decide +kernel
theorem dX12_fewest_251 : decode cX12_fewest 251 = .ok (.iload 7, 2) := by decide +kernel
theorem dX12_fewest_253 : decode cX12_fewest 253 = .ok (.iaload, 1) := by decide +kernel
theorem dX12_fewest_254 : decode cX12_fewest 254 = .ok (.aload_n 0, 1) := by decide +kernel
theorem dX12_fewest_255 : decode cX12_fewest 255 = .ok (.getfield 44, 3) := by decide +kernel
theorem dX12_fewest_258 : decode cX12_fewest 258 = .ok (.iload 8, 2) := by decide +kernel
theorem dX12_fewest_260 : decode cX12_fewest 260 = .ok (.iaload, 1) := by decide +kernel
theorem dX12_fewest_261 : decode cX12_fewest 261 = .ok (.ior, 1) := by decide +kernel
theorem dX12_fewest_262 : decode cX12_fewest 262 = .ok (.iload 5, 2) := by decide +kernel
theorem dX12_fewest_264 : decode cX12_fewest 264 = .ok (.invokevirtual 290, 3) := by decide +kernel
theorem dX12_fewest_267 : decode cX12_fewest 267 = .ok (.aload_n 0, 1) := by decide +kernel
theorem dX12_fewest_268 : decode cX12_fewest 268 = .ok (.aload_n 0, 1) := by decide +kernel
theorem dX12_fewest_269 : decode cX12_fewest 269 = .ok (.getfield 44, 3) := by decide +kernel
theorem dX12_fewest_272 : decode cX12_fewest 272 = .ok (.iload 7, 2) := by decide +kernel
theorem dX12_fewest_274 : decode cX12_fewest 274 = .ok (.iaload, 1) := by decide +kernel
theorem dX12_fewest_275 : decode cX12_fewest 275 = .ok (.aload_n 0, 1) := by decide +kernel
theorem dX12_fewest_276 : decode cX12_fewest 276 = .ok (.getfield 44, 3) := by decide +kernel
theorem dX12_fewest_279 : decode cX12_fewest 279 = .ok (.iload 8, 2) := by decide +kernel
theorem dX12_fewest_281 : decode cX12_fewest 281 = .ok (.iaload, 1) := by decide +kernel
theorem dX12_fewest_282 : decode cX12_fewest 282 = .ok (.iand, 1) := by decide +kernel
theorem dX12_fewest_283 : decode cX12_fewest 283 = .ok (.iload 5, 2) := by decide +kernel
theorem dX12_fewest_285 : decode cX12_fewest 285 = .ok (.invokevirtual 290, 3) := by decide +kernel
theorem dX12_fewest_288 : decode cX12_fewest 288 = .ok (.iinc 8 1, 3) := by decide +kernel
theorem dX12_fewest_291 : decode cX12_fewest 291 = .ok (.goto (-72), 3) := by decide +kernel
theorem dX12_fewest_294 : decode cX12_fewest 294 = .ok (.iinc 7 1, 3) := by decide +kernel
theorem dX12_fewest_297 : decode cX12_fewest 297 = .ok (.goto (-88), 3) := by decide +kernel
theorem dX12_fewest_300 : decode cX12_fewest 300 = .ok (.iinc 5 1, 3) := by decide +kernel
theorem dX12_fewest_303 : decode cX12_fewest 303 = .ok (.goto (-112), 3) := by decide +kernel
theorem dX12_fewest_306 : decode cX12_fewest 306 = .ok (.aload_n 0, 1) := by decide +kernel
theorem dX12_fewest_307 : decode cX12_fewest 307 = .ok (.iload 4, 2) := by decide +kernel
theorem dX12_fewest_309 : decode cX12_fewest 309 = .ok (.invokevirtual 294, 3) := by decide +kernel
theorem dX12_fewest_312 : decode cX12_fewest 312 = .ok (.ireturn, 1) := by decide +kernel
theorem dX12_isSpare_0 : decode cX12_isSpare 0 = .ok (.aload_n 0, 1) := by decide +kernel
theorem dX12_isSpare_1 : decode cX12_isSpare 1 = .ok (.getfield 7, 3) := by decide +kernel
theorem dX12_isSpare_4 : decode cX12_isSpare 4 = .ok (.bipush 30, 2) := by decide +kernel
theorem dX12_isSpare_6 : decode cX12_isSpare 6 = .ok (.iload_n 2, 1) := by decide +kernel
theorem dX12_isSpare_7 : decode cX12_isSpare 7 = .ok (.iadd, 1) := by decide +kernel
theorem dX12_isSpare_8 : decode cX12_isSpare 8 = .ok (.dup2, 1) := by decide +kernel
theorem dX12_isSpare_9 : decode cX12_isSpare 9 = .ok (.iaload, 1) := by decide +kernel
theorem dX12_isSpare_10 : decode cX12_isSpare 10 = .ok (.iconst 1, 1) := by decide +kernel
theorem dX12_isSpare_11 : decode cX12_isSpare 11 = .ok (.iload_n 3, 1) := by decide +kernel
theorem dX12_isSpare_12 : decode cX12_isSpare 12 = .ok (.ishl, 1) := by decide +kernel
theorem dX12_isSpare_13 : decode cX12_isSpare 13 = .ok (.iconst (-1), 1) := by decide +kernel
theorem dX12_isSpare_14 : decode cX12_isSpare 14 = .ok (.ixor, 1) := by decide +kernel
theorem dX12_isSpare_15 : decode cX12_isSpare 15 = .ok (.iand, 1) := by decide +kernel
theorem dX12_isSpare_16 : decode cX12_isSpare 16 = .ok (.iastore, 1) := by decide +kernel
theorem dX12_isSpare_17 : decode cX12_isSpare 17 = .ok (.aload_n 0, 1) := by decide +kernel
theorem dX12_isSpare_18 : decode cX12_isSpare 18 = .ok (.iload_n 1, 1) := by decide +kernel
theorem dX12_isSpare_19 : decode cX12_isSpare 19 = .ok (.invokevirtual 264, 3) := by decide +kernel
theorem dX12_isSpare_22 : decode cX12_isSpare 22 = .ok (.aload_n 0, 1) := by decide +kernel
theorem dX12_isSpare_23 : decode cX12_isSpare 23 = .ok (.invokevirtual 281, 3) := by decide +kernel
theorem dX12_isSpare_26 : decode cX12_isSpare 26 = .ok (.istore 4, 2) := by decide +kernel
theorem dX12_isSpare_28 : decode cX12_isSpare 28 = .ok (.aload_n 0, 1) := by decide +kernel
theorem dX12_isSpare_29 : decode cX12_isSpare 29 = .ok (.getfield 7, 3) := by decide +kernel
theorem dX12_isSpare_32 : decode cX12_isSpare 32 = .ok (.bipush 30, 2) := by decide +kernel
theorem dX12_isSpare_34 : decode cX12_isSpare 34 = .ok (.iload_n 2, 1) := by decide +kernel
theorem dX12_isSpare_35 : decode cX12_isSpare 35 = .ok (.iadd, 1) := by decide +kernel
theorem dX12_isSpare_36 : decode cX12_isSpare 36 = .ok (.dup2, 1) := by decide +kernel
theorem dX12_isSpare_37 : decode cX12_isSpare 37 = .ok (.iaload, 1) := by decide +kernel
theorem dX12_isSpare_38 : decode cX12_isSpare 38 = .ok (.iconst 1, 1) := by decide +kernel
theorem dX12_isSpare_39 : decode cX12_isSpare 39 = .ok (.iload_n 3, 1) := by decide +kernel
theorem dX12_isSpare_40 : decode cX12_isSpare 40 = .ok (.ishl, 1) := by decide +kernel
theorem dX12_isSpare_41 : decode cX12_isSpare 41 = .ok (.ior, 1) := by decide +kernel
theorem dX12_isSpare_42 : decode cX12_isSpare 42 = .ok (.iastore, 1) := by decide +kernel
theorem dX12_isSpare_43 : decode cX12_isSpare 43 = .ok (.iload 4, 2) := by decide +kernel
theorem dX12_isSpare_45 : decode cX12_isSpare 45 = .ok (.ireturn, 1) := by decide +kernel
theorem dX12_spare_0 : decode cX12_spare 0 = .ok (.aload_n 0, 1) := by decide +kernel
theorem dX12_spare_1 : decode cX12_spare 1 = .ok (.iload_n 1, 1) := by decide +kernel
theorem dX12_spare_2 : decode cX12_spare 2 = .ok (.invokevirtual 242, 3) := by decide +kernel
theorem dX12_spare_5 : decode cX12_spare 5 = .ok (.ifCond .eq 18, 3) := by decide +kernel
theorem dX12_spare_8 : decode cX12_spare 8 = .ok (.aload_n 0, 1) := by decide +kernel
theorem dX12_spare_9 : decode cX12_spare 9 = .ok (.iload_n 2, 1) := by decide +kernel
theorem dX12_spare_10 : decode cX12_spare 10 = .ok (.invokevirtual 193, 3) := by decide +kernel
theorem dX12_spare_13 : decode cX12_spare 13 = .ok (.ifCond .eq 10, 3) := by decide +kernel
theorem dX12_spare_16 : decode cX12_spare 16 = .ok (.iload_n 3, 1) := by decide +kernel
theorem dX12_spare_17 : decode cX12_spare 17 = .ok (.invokestatic 235, 3) := by decide +kernel
theorem dX12_spare_20 : decode cX12_spare 20 = .ok (.ifCond .ne 9, 3) := by decide +kernel
theorem dX12_spare_23 : decode cX12_spare 23 = .ok (.aload_n 0, 1) := by decide +kernel
theorem dX12_spare_24 : decode cX12_spare 24 = .ok (.iconst 0, 1) := by decide +kernel
theorem dX12_spare_25 : decode cX12_spare 25 = .ok (.invokevirtual 190, 3) := by decide +kernel
theorem dX12_spare_28 : decode cX12_spare 28 = .ok (.ireturn, 1) := by decide +kernel
theorem dX12_spare_29 : decode cX12_spare 29 = .ok (.aload_n 0, 1) := by decide +kernel
theorem dX12_spare_30 : decode cX12_spare 30 = .ok (.getfield 7, 3) := by decide +kernel
theorem dX12_spare_33 : decode cX12_spare 33 = .ok (.bipush 30, 2) := by decide +kernel
theorem dX12_spare_35 : decode cX12_spare 35 = .ok (.iload_n 2, 1) := by decide +kernel
theorem dX12_spare_36 : decode cX12_spare 36 = .ok (.iadd, 1) := by decide +kernel
theorem dX12_spare_37 : decode cX12_spare 37 = .ok (.iaload, 1) := by decide +kernel
theorem dX12_spare_38 : decode cX12_spare 38 = .ok (.iload_n 3, 1) := by decide +kernel
theorem dX12_spare_39 : decode cX12_spare 39 = .ok (.ishr, 1) := by decide +kernel
theorem dX12_spare_40 : decode cX12_spare 40 = .ok (.iconst 1, 1) := by decide +kernel
theorem dX12_spare_41 : decode cX12_spare 41 = .ok (.iand, 1) := by decide +kernel
theorem dX12_spare_42 : decode cX12_spare 42 = .ok (.ifCond .ne 9, 3) := by decide +kernel
theorem dX12_spare_45 : decode cX12_spare 45 = .ok (.aload_n 0, 1) := by decide +kernel
theorem dX12_spare_46 : decode cX12_spare 46 = .ok (.iconst 3, 1) := by decide +kernel
theorem dX12_spare_47 : decode cX12_spare 47 = .ok (.invokevirtual 190, 3) := by decide +kernel
theorem dX12_spare_50 : decode cX12_spare 50 = .ok (.ireturn, 1) := by decide +kernel
theorem dX12_spare_51 : decode cX12_spare 51 = .ok (.aload_n 0, 1) := by decide +kernel
theorem dX12_spare_52 : decode cX12_spare 52 = .ok (.iload_n 1, 1) := by decide +kernel
theorem dX12_spare_53 : decode cX12_spare 53 = .ok (.invokevirtual 264, 3) := by decide +kernel
theorem dX12_spare_56 : decode cX12_spare 56 = .ok (.aload_n 0, 1) := by decide +kernel
theorem dX12_spare_57 : decode cX12_spare 57 = .ok (.invokevirtual 278, 3) := by decide +kernel
theorem dX12_spare_60 : decode cX12_spare 60 = .ok (.aload_n 0, 1) := by decide +kernel
theorem dX12_spare_61 : decode cX12_spare 61 = .ok (.iload_n 1, 1) := by decide +kernel
theorem dX12_spare_62 : decode cX12_spare 62 = .ok (.iload_n 2, 1) := by decide +kernel
theorem dX12_spare_63 : decode cX12_spare 63 = .ok (.iload_n 3, 1) := by decide +kernel
theorem dX12_spare_64 : decode cX12_spare 64 = .ok (.invokevirtual 297, 3) := by decide +kernel
theorem dX12_spare_67 : decode cX12_spare 67 = .ok (.ifCond .eq 7, 3) := by decide +kernel
theorem dX12_spare_70 : decode cX12_spare 70 = .ok (.iconst 1, 1) := by decide +kernel
theorem dX12_spare_71 : decode cX12_spare 71 = .ok (.goto 4, 3) := by decide +kernel
theorem dX12_spare_74 : decode cX12_spare 74 = .ok (.iconst 0, 1) := by decide +kernel
theorem dX12_spare_75 : decode cX12_spare 75 = .ok (.ireturn, 1) := by decide +kernel
theorem dX12_thin_0 : decode cX12_thin 0 = .ok (.aload_n 0, 1) := by decide +kernel
theorem dX12_thin_1 : decode cX12_thin 1 = .ok (.iload_n 1, 1) := by decide +kernel
theorem dX12_thin_2 : decode cX12_thin 2 = .ok (.invokevirtual 242, 3) := by decide +kernel
theorem dX12_thin_5 : decode cX12_thin 5 = .ok (.ifCond .ne 9, 3) := by decide +kernel
theorem dX12_thin_8 : decode cX12_thin 8 = .ok (.aload_n 0, 1) := by decide +kernel
theorem dX12_thin_9 : decode cX12_thin 9 = .ok (.iconst 0, 1) := by decide +kernel
theorem dX12_thin_10 : decode cX12_thin 10 = .ok (.invokevirtual 190, 3) := by decide +kernel
theorem dX12_thin_13 : decode cX12_thin 13 = .ok (.ireturn, 1) := by decide +kernel
theorem dX12_thin_14 : decode cX12_thin 14 = .ok (.aload_n 0, 1) := by decide +kernel
theorem dX12_thin_15 : decode cX12_thin 15 = .ok (.iload_n 1, 1) := by decide +kernel
theorem dX12_thin_16 : decode cX12_thin 16 = .ok (.invokevirtual 264, 3) := by decide +kernel
theorem dX12_thin_19 : decode cX12_thin 19 = .ok (.aload_n 0, 1) := by decide +kernel
theorem dX12_thin_20 : decode cX12_thin 20 = .ok (.invokevirtual 278, 3) := by decide +kernel
theorem dX12_thin_23 : decode cX12_thin 23 = .ok (.iconst 0, 1) := by decide +kernel
theorem dX12_thin_24 : decode cX12_thin 24 = .ok (.istore_n 2, 1) := by decide +kernel
theorem dX12_thin_25 : decode cX12_thin 25 = .ok (.iconst 0, 1) := by decide +kernel
theorem dX12_thin_26 : decode cX12_thin 26 = .ok (.istore_n 3, 1) := by decide +kernel
theorem dX12_thin_27 : decode cX12_thin 27 = .ok (.iload_n 3, 1) := by decide +kernel
theorem dX12_thin_28 : decode cX12_thin 28 = .ok (.aload_n 0, 1) := by decide +kernel
theorem dX12_thin_29 : decode cX12_thin 29 = .ok (.getfield 7, 3) := by decide +kernel
theorem dX12_thin_32 : decode cX12_thin 32 = .ok (.iconst 0, 1) := by decide +kernel
theorem dX12_thin_33 : decode cX12_thin 33 = .ok (.iaload, 1) := by decide +kernel
theorem dX12_thin_34 : decode cX12_thin 34 = .ok (.if_icmp .ge 75, 3) := by decide +kernel
theorem dX12_thin_37 : decode cX12_thin 37 = .ok (.iconst 0, 1) := by decide +kernel
theorem dX12_thin_38 : decode cX12_thin 38 = .ok (.istore 4, 2) := by decide +kernel
theorem dX12_thin_40 : decode cX12_thin 40 = .ok (.iload 4, 2) := by decide +kernel
theorem dX12_thin_42 : decode cX12_thin 42 = .ok (.bipush 24, 2) := by decide +kernel
theorem dX12_thin_44 : decode cX12_thin 44 = .ok (.if_icmp .ge 59, 3) := by decide +kernel
theorem dX12_thin_47 : decode cX12_thin 47 = .ok (.aload_n 0, 1) := by decide +kernel
theorem dX12_thin_48 : decode cX12_thin 48 = .ok (.getfield 7, 3) := by decide +kernel
theorem dX12_thin_51 : decode cX12_thin 51 = .ok (.bipush 30, 2) := by decide +kernel
theorem dX12_thin_53 : decode cX12_thin 53 = .ok (.iload_n 3, 1) := by decide +kernel
theorem dX12_thin_54 : decode cX12_thin 54 = .ok (.iadd, 1) := by decide +kernel
theorem dX12_thin_55 : decode cX12_thin 55 = .ok (.iaload, 1) := by decide +kernel
theorem dX12_thin_56 : decode cX12_thin 56 = .ok (.iload 4, 2) := by decide +kernel
theorem dX12_thin_58 : decode cX12_thin 58 = .ok (.ishr, 1) := by decide +kernel
theorem dX12_thin_59 : decode cX12_thin 59 = .ok (.iconst 1, 1) := by decide +kernel
theorem dX12_thin_60 : decode cX12_thin 60 = .ok (.iand, 1) := by decide +kernel
theorem dX12_thin_61 : decode cX12_thin 61 = .ok (.iconst 1, 1) := by decide +kernel
theorem dX12_thin_62 : decode cX12_thin 62 = .ok (.if_icmp .ne 35, 3) := by decide +kernel
theorem dX12_thin_65 : decode cX12_thin 65 = .ok (.aload_n 0, 1) := by decide +kernel
theorem dX12_thin_66 : decode cX12_thin 66 = .ok (.iload_n 1, 1) := by decide +kernel
theorem dX12_thin_67 : decode cX12_thin 67 = .ok (.iload_n 3, 1) := by decide +kernel
theorem dX12_thin_68 : decode cX12_thin 68 = .ok (.iload 4, 2) := by decide +kernel
theorem dX12_thin_70 : decode cX12_thin 70 = .ok (.invokevirtual 297, 3) := by decide +kernel
theorem dX12_thin_73 : decode cX12_thin 73 = .ok (.ifCond .eq 24, 3) := by decide +kernel
theorem dX12_thin_76 : decode cX12_thin 76 = .ok (.aload_n 0, 1) := by decide +kernel
theorem dX12_thin_77 : decode cX12_thin 77 = .ok (.getfield 7, 3) := by decide +kernel
theorem dX12_thin_80 : decode cX12_thin 80 = .ok (.bipush 30, 2) := by decide +kernel
theorem dX12_thin_82 : decode cX12_thin 82 = .ok (.iload_n 3, 1) := by decide +kernel
theorem dX12_thin_83 : decode cX12_thin 83 = .ok (.iadd, 1) := by decide +kernel
theorem dX12_thin_84 : decode cX12_thin 84 = .ok (.dup2, 1) := by decide +kernel
theorem dX12_thin_85 : decode cX12_thin 85 = .ok (.iaload, 1) := by decide +kernel
theorem dX12_thin_86 : decode cX12_thin 86 = .ok (.iconst 1, 1) := by decide +kernel
theorem dX12_thin_87 : decode cX12_thin 87 = .ok (.iload 4, 2) := by decide +kernel
theorem dX12_thin_89 : decode cX12_thin 89 = .ok (.ishl, 1) := by decide +kernel
theorem dX12_thin_90 : decode cX12_thin 90 = .ok (.iconst (-1), 1) := by decide +kernel
theorem dX12_thin_91 : decode cX12_thin 91 = .ok (.ixor, 1) := by decide +kernel
theorem dX12_thin_92 : decode cX12_thin 92 = .ok (.iand, 1) := by decide +kernel
theorem dX12_thin_93 : decode cX12_thin 93 = .ok (.iastore, 1) := by decide +kernel
theorem dX12_thin_94 : decode cX12_thin 94 = .ok (.iinc 2 1, 3) := by decide +kernel
theorem dX12_thin_97 : decode cX12_thin 97 = .ok (.iinc 4 1, 3) := by decide +kernel
theorem dX12_thin_100 : decode cX12_thin 100 = .ok (.goto (-60), 3) := by decide +kernel
theorem dX12_thin_103 : decode cX12_thin 103 = .ok (.iinc 3 1, 3) := by decide +kernel
theorem dX12_thin_106 : decode cX12_thin 106 = .ok (.goto (-79), 3) := by decide +kernel
theorem dX12_thin_109 : decode cX12_thin 109 = .ok (.iload_n 2, 1) := by decide +kernel
theorem dX12_thin_110 : decode cX12_thin 110 = .ok (.ireturn, 1) := by decide +kernel
theorem dX12_heavy_0 : decode cX12_heavy 0 = .ok (.iload_n 1, 1) := by decide +kernel
theorem dX12_heavy_1 : decode cX12_heavy 1 = .ok (.iconst 0, 1) := by decide +kernel
theorem dX12_heavy_2 : decode cX12_heavy 2 = .ok (.iconst 2, 1) := by decide +kernel
theorem dX12_heavy_3 : decode cX12_heavy 3 = .ok (.invokestatic 64, 3) := by decide +kernel
theorem dX12_heavy_6 : decode cX12_heavy 6 = .ok (.ifCond .ne 9, 3) := by decide +kernel
theorem dX12_heavy_9 : decode cX12_heavy 9 = .ok (.aload_n 0, 1) := by decide +kernel
theorem dX12_heavy_10 : decode cX12_heavy 10 = .ok (.iconst 0, 1) := by decide +kernel
theorem dX12_heavy_11 : decode cX12_heavy 11 = .ok (.invokevirtual 190, 3) := by decide +kernel
theorem dX12_heavy_14 : decode cX12_heavy 14 = .ok (.ireturn, 1) := by decide +kernel
theorem dX12_heavy_15 : decode cX12_heavy 15 = .ok (.aload_n 0, 1) := by decide +kernel
theorem dX12_heavy_16 : decode cX12_heavy 16 = .ok (.invokevirtual 181, 3) := by decide +kernel
theorem dX12_heavy_19 : decode cX12_heavy 19 = .ok (.ifCond .ne 9, 3) := by decide +kernel
theorem dX12_heavy_22 : decode cX12_heavy 22 = .ok (.aload_n 0, 1) := by decide +kernel
theorem dX12_heavy_23 : decode cX12_heavy 23 = .ok (.iconst 3, 1) := by decide +kernel
theorem dX12_heavy_24 : decode cX12_heavy 24 = .ok (.invokevirtual 190, 3) := by decide +kernel
theorem dX12_heavy_27 : decode cX12_heavy 27 = .ok (.ireturn, 1) := by decide +kernel
theorem dX12_heavy_28 : decode cX12_heavy 28 = .ok (.iconst (-1), 1) := by decide +kernel
theorem dX12_heavy_29 : decode cX12_heavy 29 = .ok (.istore_n 2, 1) := by decide +kernel
theorem dX12_heavy_30 : decode cX12_heavy 30 = .ok (.iconst 0, 1) := by decide +kernel
theorem dX12_heavy_31 : decode cX12_heavy 31 = .ok (.istore_n 3, 1) := by decide +kernel
theorem dX12_heavy_32 : decode cX12_heavy 32 = .ok (.iconst 0, 1) := by decide +kernel
theorem dX12_heavy_33 : decode cX12_heavy 33 = .ok (.istore 4, 2) := by decide +kernel
theorem dX12_heavy_35 : decode cX12_heavy 35 = .ok (.iload 4, 2) := by decide +kernel
theorem dX12_heavy_37 : decode cX12_heavy 37 = .ok (.aload_n 0, 1) := by decide +kernel
theorem dX12_heavy_38 : decode cX12_heavy 38 = .ok (.getfield 7, 3) := by decide +kernel
theorem dX12_heavy_41 : decode cX12_heavy 41 = .ok (.iconst 0, 1) := by decide +kernel
theorem dX12_heavy_42 : decode cX12_heavy 42 = .ok (.iaload, 1) := by decide +kernel
theorem dX12_heavy_43 : decode cX12_heavy 43 = .ok (.if_icmp .ge 77, 3) := by decide +kernel
theorem dX12_heavy_46 : decode cX12_heavy 46 = .ok (.aload_n 0, 1) := by decide +kernel
theorem dX12_heavy_47 : decode cX12_heavy 47 = .ok (.getfield 7, 3) := by decide +kernel
theorem dX12_heavy_50 : decode cX12_heavy 50 = .ok (.bipush 20, 2) := by decide +kernel
theorem dX12_heavy_52 : decode cX12_heavy 52 = .ok (.iload 4, 2) := by decide +kernel
theorem dX12_heavy_54 : decode cX12_heavy 54 = .ok (.iadd, 1) := by decide +kernel
theorem dX12_heavy_55 : decode cX12_heavy 55 = .ok (.iaload, 1) := by decide +kernel
theorem dX12_heavy_56 : decode cX12_heavy 56 = .ok (.ifCond .ne 58, 3) := by decide +kernel
theorem dX12_heavy_59 : decode cX12_heavy 59 = .ok (.iload_n 3, 1) := by decide +kernel
theorem dX12_heavy_60 : decode cX12_heavy 60 = .ok (.aload_n 0, 1) := by decide +kernel
theorem dX12_heavy_61 : decode cX12_heavy 61 = .ok (.getfield 7, 3) := by decide +kernel
theorem dX12_heavy_64 : decode cX12_heavy 64 = .ok (.bipush 30, 2) := by decide +kernel
theorem dX12_heavy_66 : decode cX12_heavy 66 = .ok (.iload 4, 2) := by decide +kernel
theorem dX12_heavy_68 : decode cX12_heavy 68 = .ok (.iadd, 1) := by decide +kernel
theorem dX12_heavy_69 : decode cX12_heavy 69 = .ok (.iaload, 1) := by decide +kernel
theorem dX12_heavy_70 : decode cX12_heavy 70 = .ok (.invokestatic 147, 3) := by decide +kernel
theorem dX12_heavy_73 : decode cX12_heavy 73 = .ok (.iadd, 1) := by decide +kernel
theorem dX12_heavy_74 : decode cX12_heavy 74 = .ok (.istore_n 3, 1) := by decide +kernel
theorem dX12_heavy_75 : decode cX12_heavy 75 = .ok (.iload_n 2, 1) := by decide +kernel
theorem dX12_heavy_76 : decode cX12_heavy 76 = .ok (.ifCond .lt 31, 3) := by decide +kernel
theorem dX12_heavy_79 : decode cX12_heavy 79 = .ok (.aload_n 0, 1) := by decide +kernel
theorem dX12_heavy_80 : decode cX12_heavy 80 = .ok (.getfield 7, 3) := by decide +kernel
theorem dX12_heavy_83 : decode cX12_heavy 83 = .ok (.bipush 30, 2) := by decide +kernel
theorem dX12_heavy_85 : decode cX12_heavy 85 = .ok (.iload 4, 2) := by decide +kernel
theorem dX12_heavy_87 : decode cX12_heavy 87 = .ok (.iadd, 1) := by decide +kernel
theorem dX12_heavy_88 : decode cX12_heavy 88 = .ok (.iaload, 1) := by decide +kernel
theorem dX12_heavy_89 : decode cX12_heavy 89 = .ok (.invokestatic 147, 3) := by decide +kernel
theorem dX12_heavy_92 : decode cX12_heavy 92 = .ok (.aload_n 0, 1) := by decide +kernel
theorem dX12_heavy_93 : decode cX12_heavy 93 = .ok (.getfield 7, 3) := by decide +kernel
theorem dX12_heavy_96 : decode cX12_heavy 96 = .ok (.bipush 30, 2) := by decide +kernel
theorem dX12_heavy_98 : decode cX12_heavy 98 = .ok (.iload_n 2, 1) := by decide +kernel
theorem dX12_heavy_99 : decode cX12_heavy 99 = .ok (.iadd, 1) := by decide +kernel
theorem dX12_heavy_100 : decode cX12_heavy 100 = .ok (.iaload, 1) := by decide +kernel
theorem dX12_heavy_101 : decode cX12_heavy 101 = .ok (.invokestatic 147, 3) := by decide +kernel
theorem dX12_heavy_104 : decode cX12_heavy 104 = .ok (.if_icmp .le 8, 3) := by decide +kernel
theorem dX12_heavy_107 : decode cX12_heavy 107 = .ok (.iload 4, 2) := by decide +kernel
theorem dX12_heavy_109 : decode cX12_heavy 109 = .ok (.goto 4, 3) := by decide +kernel
theorem dX12_heavy_112 : decode cX12_heavy 112 = .ok (.iload_n 2, 1) := by decide +kernel
theorem dX12_heavy_113 : decode cX12_heavy 113 = .ok (.istore_n 2, 1) := by decide +kernel
theorem dX12_heavy_114 : decode cX12_heavy 114 = .ok (.iinc 4 1, 3) := by decide +kernel
theorem dX12_heavy_117 : decode cX12_heavy 117 = .ok (.goto (-82), 3) := by decide +kernel
theorem dX12_heavy_120 : decode cX12_heavy 120 = .ok (.iload_n 1, 1) := by decide +kernel
theorem dX12_heavy_121 : decode cX12_heavy 121 = .ok (.ifCond .ne 18, 3) := by decide +kernel
theorem dX12_heavy_124 : decode cX12_heavy 124 = .ok (.aload_n 0, 1) := by decide +kernel
theorem dX12_heavy_125 : decode cX12_heavy 125 = .ok (.getfield 7, 3) := by decide +kernel
theorem dX12_heavy_128 : decode cX12_heavy 128 = .ok (.bipush 30, 2) := by decide +kernel
theorem dX12_heavy_130 : decode cX12_heavy 130 = .ok (.iload_n 2, 1) := by decide +kernel
theorem dX12_heavy_131 : decode cX12_heavy 131 = .ok (.iadd, 1) := by decide +kernel
theorem dX12_heavy_132 : decode cX12_heavy 132 = .ok (.iaload, 1) := by decide +kernel
theorem dX12_heavy_133 : decode cX12_heavy 133 = .ok (.invokestatic 147, 3) := by decide +kernel
theorem dX12_heavy_136 : decode cX12_heavy 136 = .ok (.goto 13, 3) := by decide +kernel
theorem dX12_heavy_139 : decode cX12_heavy 139 = .ok (.iload_n 1, 1) := by decide +kernel
theorem dX12_heavy_140 : decode cX12_heavy 140 = .ok (.iconst 1, 1) := by decide +kernel
theorem dX12_heavy_141 : decode cX12_heavy 141 = .ok (.if_icmp .ne 7, 3) := by decide +kernel
theorem dX12_heavy_144 : decode cX12_heavy 144 = .ok (.iload_n 2, 1) := by decide +kernel
theorem dX12_heavy_145 : decode cX12_heavy 145 = .ok (.goto 4, 3) := by decide +kernel
theorem dX12_heavy_148 : decode cX12_heavy 148 = .ok (.iload_n 3, 1) := by decide +kernel
theorem dX12_heavy_149 : decode cX12_heavy 149 = .ok (.ireturn, 1) := by decide +kernel
theorem dX12_isSheet_0 : decode cX12_isSheet 0 = .ok (.iload_n 0, 1) := by decide +kernel
theorem dX12_isSheet_1 : decode cX12_isSheet 1 = .ok (.iconst 0, 1) := by decide +kernel
theorem dX12_isSheet_2 : decode cX12_isSheet 2 = .ok (.iconst 3, 1) := by decide +kernel
theorem dX12_isSheet_3 : decode cX12_isSheet 3 = .ok (.invokestatic 64, 3) := by decide +kernel
theorem dX12_isSheet_6 : decode cX12_isSheet 6 = .ok (.ireturn, 1) := by decide +kernel
theorem dX12_judge_0 : decode cX12_judge 0 = .ok (.iload_n 1, 1) := by decide +kernel
theorem dX12_judge_1 : decode cX12_judge 1 = .ok (.invokestatic 300, 3) := by decide +kernel
theorem dX12_judge_4 : decode cX12_judge 4 = .ok (.ifCond .ne 9, 3) := by decide +kernel
theorem dX12_judge_7 : decode cX12_judge 7 = .ok (.aload_n 0, 1) := by decide +kernel
theorem dX12_judge_8 : decode cX12_judge 8 = .ok (.iconst 0, 1) := by decide +kernel
theorem dX12_judge_9 : decode cX12_judge 9 = .ok (.invokevirtual 190, 3) := by decide +kernel
theorem dX12_judge_12 : decode cX12_judge 12 = .ok (.ireturn, 1) := by decide +kernel
theorem dX12_judge_13 : decode cX12_judge 13 = .ok (.aload_n 0, 1) := by decide +kernel
theorem dX12_judge_14 : decode cX12_judge 14 = .ok (.getfield 50, 3) := by decide +kernel
theorem dX12_judge_17 : decode cX12_judge 17 = .ok (.iload_n 1, 1) := by decide +kernel
theorem dX12_judge_18 : decode cX12_judge 18 = .ok (.iaload, 1) := by decide +kernel
theorem dX12_judge_19 : decode cX12_judge 19 = .ok (.ifCond .ne 9, 3) := by decide +kernel
theorem dX12_judge_22 : decode cX12_judge 22 = .ok (.aload_n 0, 1) := by decide +kernel
theorem dX12_judge_23 : decode cX12_judge 23 = .ok (.iconst 5, 1) := by decide +kernel
theorem dX12_judge_24 : decode cX12_judge 24 = .ok (.invokevirtual 190, 3) := by decide +kernel
theorem dX12_judge_27 : decode cX12_judge 27 = .ok (.ireturn, 1) := by decide +kernel
theorem dX12_judge_28 : decode cX12_judge 28 = .ok (.aload_n 0, 1) := by decide +kernel
theorem dX12_judge_29 : decode cX12_judge 29 = .ok (.iload_n 2, 1) := by decide +kernel
theorem dX12_judge_30 : decode cX12_judge 30 = .ok (.invokevirtual 242, 3) := by decide +kernel
theorem dX12_judge_33 : decode cX12_judge 33 = .ok (.ifCond .ne 9, 3) := by decide +kernel
theorem dX12_judge_36 : decode cX12_judge 36 = .ok (.aload_n 0, 1) := by decide +kernel
theorem dX12_judge_37 : decode cX12_judge 37 = .ok (.iconst 0, 1) := by decide +kernel
theorem dX12_judge_38 : decode cX12_judge 38 = .ok (.invokevirtual 190, 3) := by decide +kernel
theorem dX12_judge_41 : decode cX12_judge 41 = .ok (.ireturn, 1) := by decide +kernel
theorem dX12_judge_42 : decode cX12_judge 42 = .ok (.aload_n 0, 1) := by decide +kernel
theorem dX12_judge_43 : decode cX12_judge 43 = .ok (.iload_n 2, 1) := by decide +kernel
theorem dX12_judge_44 : decode cX12_judge 44 = .ok (.invokevirtual 264, 3) := by decide +kernel
theorem dX12_judge_47 : decode cX12_judge 47 = .ok (.aload_n 0, 1) := by decide +kernel
theorem dX12_judge_48 : decode cX12_judge 48 = .ok (.iconst 0, 1) := by decide +kernel
theorem dX12_judge_49 : decode cX12_judge 49 = .ok (.iconst (-1), 1) := by decide +kernel
theorem dX12_judge_50 : decode cX12_judge 50 = .ok (.invokevirtual 225, 3) := by decide +kernel
theorem dX12_judge_53 : decode cX12_judge 53 = .ok (.istore_n 3, 1) := by decide +kernel
theorem dX12_judge_54 : decode cX12_judge 54 = .ok (.iconst 0, 1) := by decide +kernel
theorem dX12_judge_55 : decode cX12_judge 55 = .ok (.istore 4, 2) := by decide +kernel
theorem dX12_judge_57 : decode cX12_judge 57 = .ok (.iload 4, 2) := by decide +kernel
theorem dX12_judge_59 : decode cX12_judge 59 = .ok (.aload_n 0, 1) := by decide +kernel
theorem dX12_judge_60 : decode cX12_judge 60 = .ok (.getfield 53, 3) := by decide +kernel
theorem dX12_judge_63 : decode cX12_judge 63 = .ok (.iload_n 1, 1) := by decide +kernel
theorem dX12_judge_64 : decode cX12_judge 64 = .ok (.iaload, 1) := by decide +kernel
theorem dX12_judge_65 : decode cX12_judge 65 = .ok (.if_icmp .ge 39, 3) := by decide +kernel
theorem dX12_judge_68 : decode cX12_judge 68 = .ok (.iload 4, 2) := by decide +kernel
theorem dX12_judge_70 : decode cX12_judge 70 = .ok (.iload_n 3, 1) := by decide +kernel
theorem dX12_judge_71 : decode cX12_judge 71 = .ok (.if_icmp .ge 33, 3) := by decide +kernel
theorem dX12_judge_74 : decode cX12_judge 74 = .ok (.aload_n 0, 1) := by decide +kernel
theorem dX12_judge_75 : decode cX12_judge 75 = .ok (.getfield 56, 3) := by decide +kernel
theorem dX12_judge_78 : decode cX12_judge 78 = .ok (.bipush 40, 2) := by decide +kernel
theorem dX12_judge_80 : decode cX12_judge 80 = .ok (.iload_n 1, 1) := by decide +kernel
theorem dX12_judge_81 : decode cX12_judge 81 = .ok (.imul, 1) := by decide +kernel
theorem dX12_judge_82 : decode cX12_judge 82 = .ok (.iload 4, 2) := by decide +kernel
theorem dX12_judge_84 : decode cX12_judge 84 = .ok (.iadd, 1) := by decide +kernel
theorem dX12_judge_85 : decode cX12_judge 85 = .ok (.laload, 1) := by decide +kernel
theorem dX12_judge_86 : decode cX12_judge 86 = .ok (.aload_n 0, 1) := by decide +kernel
theorem dX12_judge_87 : decode cX12_judge 87 = .ok (.iconst 0, 1) := by decide +kernel
theorem dX12_judge_88 : decode cX12_judge 88 = .ok (.iload 4, 2) := by decide +kernel
theorem dX12_judge_90 : decode cX12_judge 90 = .ok (.invokevirtual 225, 3) := by decide +kernel
theorem dX12_judge_93 : decode cX12_judge 93 = .ok (.i2l, 1) := by decide +kernel
theorem dX12_judge_94 : decode cX12_judge 94 = .ok (.lcmp, 1) := by decide +kernel
theorem dX12_judge_95 : decode cX12_judge 95 = .ok (.ifCond .ne 9, 3) := by decide +kernel
theorem dX12_judge_98 : decode cX12_judge 98 = .ok (.iinc 4 1, 3) := by decide +kernel
theorem dX12_judge_101 : decode cX12_judge 101 = .ok (.goto (-44), 3) := by decide +kernel
theorem dX12_judge_104 : decode cX12_judge 104 = .ok (.iload 4, 2) := by decide +kernel
theorem dX12_judge_106 : decode cX12_judge 106 = .ok (.iload_n 3, 1) := by decide +kernel
theorem dX12_judge_107 : decode cX12_judge 107 = .ok (.if_icmp .ne 18, 3) := by decide +kernel
theorem dX12_judge_110 : decode cX12_judge 110 = .ok (.iload 4, 2) := by decide +kernel
theorem dX12_judge_112 : decode cX12_judge 112 = .ok (.aload_n 0, 1) := by decide +kernel
theorem dX12_judge_113 : decode cX12_judge 113 = .ok (.getfield 53, 3) := by decide +kernel
theorem dX12_judge_116 : decode cX12_judge 116 = .ok (.iload_n 1, 1) := by decide +kernel
theorem dX12_judge_117 : decode cX12_judge 117 = .ok (.iaload, 1) := by decide +kernel
theorem dX12_judge_118 : decode cX12_judge 118 = .ok (.if_icmp .ne 7, 3) := by decide +kernel
theorem dX12_judge_121 : decode cX12_judge 121 = .ok (.iconst 0, 1) := by decide +kernel
theorem dX12_judge_122 : decode cX12_judge 122 = .ok (.goto 7, 3) := by decide +kernel
theorem dX12_judge_125 : decode cX12_judge 125 = .ok (.iconst 1, 1) := by decide +kernel
theorem dX12_judge_126 : decode cX12_judge 126 = .ok (.iload 4, 2) := by decide +kernel
theorem dX12_judge_128 : decode cX12_judge 128 = .ok (.iadd, 1) := by decide +kernel
theorem dX12_judge_129 : decode cX12_judge 129 = .ok (.ireturn, 1) := by decide +kernel
theorem dX12_sheet_0 : decode cX12_sheet 0 = .ok (.iload_n 1, 1) := by decide +kernel
theorem dX12_sheet_1 : decode cX12_sheet 1 = .ok (.invokestatic 300, 3) := by decide +kernel
theorem dX12_sheet_4 : decode cX12_sheet 4 = .ok (.ifCond .eq 25, 3) := by decide +kernel
theorem dX12_sheet_7 : decode cX12_sheet 7 = .ok (.iload_n 2, 1) := by decide +kernel
theorem dX12_sheet_8 : decode cX12_sheet 8 = .ok (.ifCond .eq 27, 3) := by decide +kernel
theorem dX12_sheet_11 : decode cX12_sheet 11 = .ok (.iload_n 2, 1) := by decide +kernel
theorem dX12_sheet_12 : decode cX12_sheet 12 = .ok (.bipush 8, 2) := by decide +kernel
theorem dX12_sheet_14 : decode cX12_sheet 14 = .ok (.if_icmp .eq 21, 3) := by decide +kernel
theorem dX12_sheet_17 : decode cX12_sheet 17 = .ok (.iload_n 2, 1) := by decide +kernel
theorem dX12_sheet_18 : decode cX12_sheet 18 = .ok (.bipush 16, 2) := by decide +kernel
theorem dX12_sheet_20 : decode cX12_sheet 20 = .ok (.if_icmp .eq 15, 3) := by decide +kernel
theorem dX12_sheet_23 : decode cX12_sheet 23 = .ok (.iload_n 2, 1) := by decide +kernel
theorem dX12_sheet_24 : decode cX12_sheet 24 = .ok (.bipush 64, 2) := by decide +kernel
theorem dX12_sheet_26 : decode cX12_sheet 26 = .ok (.if_icmp .eq 9, 3) := by decide +kernel
theorem dX12_sheet_29 : decode cX12_sheet 29 = .ok (.aload_n 0, 1) := by decide +kernel
theorem dX12_sheet_30 : decode cX12_sheet 30 = .ok (.iconst 0, 1) := by decide +kernel
theorem dX12_sheet_31 : decode cX12_sheet 31 = .ok (.invokevirtual 190, 3) := by decide +kernel
theorem dX12_sheet_34 : decode cX12_sheet 34 = .ok (.ireturn, 1) := by decide +kernel
theorem dX12_sheet_35 : decode cX12_sheet 35 = .ok (.iload_n 3, 1) := by decide +kernel
theorem dX12_sheet_36 : decode cX12_sheet 36 = .ok (.ifCond .ge 10, 3) := by decide +kernel
theorem dX12_sheet_39 : decode cX12_sheet 39 = .ok (.aload_n 0, 1) := by decide +kernel
theorem dX12_sheet_40 : decode cX12_sheet 40 = .ok (.bipush 6, 2) := by decide +kernel
theorem dX12_sheet_42 : decode cX12_sheet 42 = .ok (.invokevirtual 190, 3) := by decide +kernel
theorem dX12_sheet_45 : decode cX12_sheet 45 = .ok (.ireturn, 1) := by decide +kernel
theorem dX12_sheet_46 : decode cX12_sheet 46 = .ok (.iload_n 3, 1) := by decide +kernel
theorem dX12_sheet_47 : decode cX12_sheet 47 = .ok (.bipush 40, 2) := by decide +kernel
theorem dX12_sheet_49 : decode cX12_sheet 49 = .ok (.if_icmp .le 9, 3) := by decide +kernel
theorem dX12_sheet_52 : decode cX12_sheet 52 = .ok (.aload_n 0, 1) := by decide +kernel
theorem dX12_sheet_53 : decode cX12_sheet 53 = .ok (.iconst 0, 1) := by decide +kernel
theorem dX12_sheet_54 : decode cX12_sheet 54 = .ok (.invokevirtual 190, 3) := by decide +kernel
theorem dX12_sheet_57 : decode cX12_sheet 57 = .ok (.ireturn, 1) := by decide +kernel
theorem dX12_sheet_58 : decode cX12_sheet 58 = .ok (.aload_n 0, 1) := by decide +kernel
theorem dX12_sheet_59 : decode cX12_sheet 59 = .ok (.getfield 50, 3) := by decide +kernel
theorem dX12_sheet_62 : decode cX12_sheet 62 = .ok (.iload_n 1, 1) := by decide +kernel
theorem dX12_sheet_63 : decode cX12_sheet 63 = .ok (.iload_n 2, 1) := by decide +kernel
theorem dX12_sheet_64 : decode cX12_sheet 64 = .ok (.iastore, 1) := by decide +kernel
theorem dX12_sheet_65 : decode cX12_sheet 65 = .ok (.aload_n 0, 1) := by decide +kernel
theorem dX12_sheet_66 : decode cX12_sheet 66 = .ok (.getfield 53, 3) := by decide +kernel
theorem dX12_sheet_69 : decode cX12_sheet 69 = .ok (.iload_n 1, 1) := by decide +kernel
theorem dX12_sheet_70 : decode cX12_sheet 70 = .ok (.iload_n 2, 1) := by decide +kernel
theorem dX12_sheet_71 : decode cX12_sheet 71 = .ok (.ifCond .ne 7, 3) := by decide +kernel
theorem dX12_sheet_74 : decode cX12_sheet 74 = .ok (.iconst 0, 1) := by decide +kernel
theorem dX12_sheet_75 : decode cX12_sheet 75 = .ok (.goto 4, 3) := by decide +kernel
theorem dX12_sheet_78 : decode cX12_sheet 78 = .ok (.iload_n 3, 1) := by decide +kernel
theorem dX12_sheet_79 : decode cX12_sheet 79 = .ok (.iastore, 1) := by decide +kernel
theorem dX12_sheet_80 : decode cX12_sheet 80 = .ok (.iconst 0, 1) := by decide +kernel
theorem dX12_sheet_81 : decode cX12_sheet 81 = .ok (.istore 4, 2) := by decide +kernel
theorem dX12_sheet_83 : decode cX12_sheet 83 = .ok (.iload 4, 2) := by decide +kernel
theorem dX12_sheet_85 : decode cX12_sheet 85 = .ok (.bipush 40, 2) := by decide +kernel
theorem dX12_sheet_87 : decode cX12_sheet 87 = .ok (.if_icmp .ge 22, 3) := by decide +kernel
theorem dX12_sheet_90 : decode cX12_sheet 90 = .ok (.aload_n 0, 1) := by decide +kernel
theorem dX12_sheet_91 : decode cX12_sheet 91 = .ok (.getfield 56, 3) := by decide +kernel
theorem dX12_sheet_94 : decode cX12_sheet 94 = .ok (.bipush 40, 2) := by decide +kernel
theorem dX12_sheet_96 : decode cX12_sheet 96 = .ok (.iload_n 1, 1) := by decide +kernel
theorem dX12_sheet_97 : decode cX12_sheet 97 = .ok (.imul, 1) := by decide +kernel
theorem dX12_sheet_98 : decode cX12_sheet 98 = .ok (.iload 4, 2) := by decide +kernel
theorem dX12_sheet_100 : decode cX12_sheet 100 = .ok (.iadd, 1) := by decide +kernel
theorem dX12_sheet_101 : decode cX12_sheet 101 = .ok (.lconst 0, 1) := by decide +kernel
theorem dX12_sheet_102 : decode cX12_sheet 102 = .ok (.lastore, 1) := by decide +kernel
theorem dX12_sheet_103 : decode cX12_sheet 103 = .ok (.iinc 4 1, 3) := by decide +kernel
theorem dX12_sheet_106 : decode cX12_sheet 106 = .ok (.goto (-23), 3) := by decide +kernel
theorem dX12_sheet_109 : decode cX12_sheet 109 = .ok (.aload_n 0, 1) := by decide +kernel
theorem dX12_sheet_110 : decode cX12_sheet 110 = .ok (.getfield 53, 3) := by decide +kernel
theorem dX12_sheet_113 : decode cX12_sheet 113 = .ok (.iload_n 1, 1) := by decide +kernel
theorem dX12_sheet_114 : decode cX12_sheet 114 = .ok (.iaload, 1) := by decide +kernel
theorem dX12_sheet_115 : decode cX12_sheet 115 = .ok (.ireturn, 1) := by decide +kernel
theorem dX12_write_0 : decode cX12_write 0 = .ok (.iload_n 1, 1) := by decide +kernel
theorem dX12_write_1 : decode cX12_write 1 = .ok (.invokestatic 300, 3) := by decide +kernel
theorem dX12_write_4 : decode cX12_write 4 = .ok (.ifCond .ne 10, 3) := by decide +kernel
theorem dX12_write_7 : decode cX12_write 7 = .ok (.aload_n 0, 1) := by decide +kernel
theorem dX12_write_8 : decode cX12_write 8 = .ok (.iconst 0, 1) := by decide +kernel
theorem dX12_write_9 : decode cX12_write 9 = .ok (.invokevirtual 190, 3) := by decide +kernel
theorem dX12_write_12 : decode cX12_write 12 = .ok (.i2l, 1) := by decide +kernel
theorem dX12_write_13 : decode cX12_write 13 = .ok (.lreturn, 1) := by decide +kernel
theorem dX12_write_14 : decode cX12_write 14 = .ok (.aload_n 0, 1) := by decide +kernel
theorem dX12_write_15 : decode cX12_write 15 = .ok (.getfield 50, 3) := by decide +kernel
theorem dX12_write_18 : decode cX12_write 18 = .ok (.iload_n 1, 1) := by decide +kernel
theorem dX12_write_19 : decode cX12_write 19 = .ok (.iaload, 1) := by decide +kernel
theorem dX12_write_20 : decode cX12_write 20 = .ok (.ifCond .ne 10, 3) := by decide +kernel
theorem dX12_write_23 : decode cX12_write 23 = .ok (.aload_n 0, 1) := by decide +kernel
theorem dX12_write_24 : decode cX12_write 24 = .ok (.iconst 5, 1) := by decide +kernel
theorem dX12_write_25 : decode cX12_write 25 = .ok (.invokevirtual 190, 3) := by decide +kernel
theorem dX12_write_28 : decode cX12_write 28 = .ok (.i2l, 1) := by decide +kernel
theorem dX12_write_29 : decode cX12_write 29 = .ok (.lreturn, 1) := by decide +kernel
theorem dX12_write_30 : decode cX12_write 30 = .ok (.iload_n 2, 1) := by decide +kernel
theorem dX12_write_31 : decode cX12_write 31 = .ok (.iconst 0, 1) := by decide +kernel
theorem dX12_write_32 : decode cX12_write 32 = .ok (.aload_n 0, 1) := by decide +kernel
theorem dX12_write_33 : decode cX12_write 33 = .ok (.getfield 53, 3) := by decide +kernel
theorem dX12_write_36 : decode cX12_write 36 = .ok (.iload_n 1, 1) := by decide +kernel
theorem dX12_write_37 : decode cX12_write 37 = .ok (.iaload, 1) := by decide +kernel
theorem dX12_write_38 : decode cX12_write 38 = .ok (.iconst 1, 1) := by decide +kernel
theorem dX12_write_39 : decode cX12_write 39 = .ok (.isub, 1) := by decide +kernel
theorem dX12_write_40 : decode cX12_write 40 = .ok (.invokestatic 64, 3) := by decide +kernel
theorem dX12_write_43 : decode cX12_write 43 = .ok (.ifCond .ne 10, 3) := by decide +kernel
theorem dX12_write_46 : decode cX12_write 46 = .ok (.aload_n 0, 1) := by decide +kernel
theorem dX12_write_47 : decode cX12_write 47 = .ok (.iconst 0, 1) := by decide +kernel
theorem dX12_write_48 : decode cX12_write 48 = .ok (.invokevirtual 190, 3) := by decide +kernel
theorem dX12_write_51 : decode cX12_write 51 = .ok (.i2l, 1) := by decide +kernel
theorem dX12_write_52 : decode cX12_write 52 = .ok (.lreturn, 1) := by decide +kernel
theorem dX12_write_53 : decode cX12_write 53 = .ok (.aload_n 0, 1) := by decide +kernel
theorem dX12_write_54 : decode cX12_write 54 = .ok (.getfield 56, 3) := by decide +kernel
theorem dX12_write_57 : decode cX12_write 57 = .ok (.bipush 40, 2) := by decide +kernel
theorem dX12_write_59 : decode cX12_write 59 = .ok (.iload_n 1, 1) := by decide +kernel
theorem dX12_write_60 : decode cX12_write 60 = .ok (.imul, 1) := by decide +kernel
theorem dX12_write_61 : decode cX12_write 61 = .ok (.iload_n 2, 1) := by decide +kernel
theorem dX12_write_62 : decode cX12_write 62 = .ok (.iadd, 1) := by decide +kernel
theorem dX12_write_63 : decode cX12_write 63 = .ok (.laload, 1) := by decide +kernel
theorem dX12_write_64 : decode cX12_write 64 = .ok (.lstore 5, 2) := by decide +kernel
theorem dX12_write_66 : decode cX12_write 66 = .ok (.aload_n 0, 1) := by decide +kernel
theorem dX12_write_67 : decode cX12_write 67 = .ok (.getfield 56, 3) := by decide +kernel
theorem dX12_write_70 : decode cX12_write 70 = .ok (.bipush 40, 2) := by decide +kernel
theorem dX12_write_72 : decode cX12_write 72 = .ok (.iload_n 1, 1) := by decide +kernel
theorem dX12_write_73 : decode cX12_write 73 = .ok (.imul, 1) := by decide +kernel
theorem dX12_write_74 : decode cX12_write 74 = .ok (.iload_n 2, 1) := by decide +kernel
theorem dX12_write_75 : decode cX12_write 75 = .ok (.iadd, 1) := by decide +kernel
theorem dX12_write_76 : decode cX12_write 76 = .ok (.aload_n 0, 1) := by decide +kernel
theorem dX12_write_77 : decode cX12_write 77 = .ok (.getfield 50, 3) := by decide +kernel
theorem dX12_write_80 : decode cX12_write 80 = .ok (.iload_n 1, 1) := by decide +kernel
theorem dX12_write_81 : decode cX12_write 81 = .ok (.iaload, 1) := by decide +kernel
theorem dX12_write_82 : decode cX12_write 82 = .ok (.bipush 8, 2) := by decide +kernel
theorem dX12_write_84 : decode cX12_write 84 = .ok (.if_icmp .ne 10, 3) := by decide +kernel
theorem dX12_write_87 : decode cX12_write 87 = .ok (.lload_n 3, 1) := by decide +kernel
theorem dX12_write_88 : decode cX12_write 88 = .ok (.l2i, 1) := by decide +kernel
theorem dX12_write_89 : decode cX12_write 89 = .ok (.i2b, 1) := by decide +kernel
theorem dX12_write_90 : decode cX12_write 90 = .ok (.i2l, 1) := by decide +kernel
theorem dX12_write_91 : decode cX12_write 91 = .ok (.goto 22, 3) := by decide +kernel
theorem dX12_write_94 : decode cX12_write 94 = .ok (.aload_n 0, 1) := by decide +kernel
theorem dX12_write_95 : decode cX12_write 95 = .ok (.getfield 50, 3) := by decide +kernel
theorem dX12_write_98 : decode cX12_write 98 = .ok (.iload_n 1, 1) := by decide +kernel
theorem dX12_write_99 : decode cX12_write 99 = .ok (.iaload, 1) := by decide +kernel
theorem dX12_write_100 : decode cX12_write 100 = .ok (.bipush 16, 2) := by decide +kernel
theorem dX12_write_102 : decode cX12_write 102 = .ok (.if_icmp .ne 10, 3) := by decide +kernel
theorem dX12_write_105 : decode cX12_write 105 = .ok (.lload_n 3, 1) := by decide +kernel
theorem dX12_write_106 : decode cX12_write 106 = .ok (.l2i, 1) := by decide +kernel
theorem dX12_write_107 : decode cX12_write 107 = .ok (.i2s, 1) := by decide +kernel
theorem dX12_write_108 : decode cX12_write 108 = .ok (.i2l, 1) := by decide +kernel
theorem dX12_write_109 : decode cX12_write 109 = .ok (.goto 4, 3) := by decide +kernel
theorem dX12_write_112 : decode cX12_write 112 = .ok (.lload_n 3, 1) := by decide +kernel
theorem dX12_write_113 : decode cX12_write 113 = .ok (.lastore, 1) := by decide +kernel
theorem dX12_write_114 : decode cX12_write 114 = .ok (.lload 5, 2) := by decide +kernel
theorem dX12_write_116 : decode cX12_write 116 = .ok (.lreturn, 1) := by decide +kernel
theorem dX12_has_0 : decode cX12_has 0 = .ok (.iload_n 2, 1) := by decide +kernel
theorem dX12_has_1 : decode cX12_has 1 = .ok (.ifCond .lt 33, 3) := by decide +kernel
theorem dX12_has_4 : decode cX12_has 4 = .ok (.iload_n 3, 1) := by decide +kernel
theorem dX12_has_5 : decode cX12_has 5 = .ok (.ifCond .lt 29, 3) := by decide +kernel
theorem dX12_has_8 : decode cX12_has 8 = .ok (.iload_n 3, 1) := by decide +kernel
theorem dX12_has_9 : decode cX12_has 9 = .ok (.aload_n 0, 1) := by decide +kernel
theorem dX12_has_10 : decode cX12_has 10 = .ok (.getfield 53, 3) := by decide +kernel
theorem dX12_has_13 : decode cX12_has 13 = .ok (.iload_n 1, 1) := by decide +kernel
theorem dX12_has_14 : decode cX12_has 14 = .ok (.iaload, 1) := by decide +kernel
theorem dX12_has_15 : decode cX12_has 15 = .ok (.if_icmp .gt 19, 3) := by decide +kernel
theorem dX12_has_18 : decode cX12_has 18 = .ok (.iload_n 2, 1) := by decide +kernel
theorem dX12_has_19 : decode cX12_has 19 = .ok (.aload_n 0, 1) := by decide +kernel
theorem dX12_has_20 : decode cX12_has 20 = .ok (.getfield 53, 3) := by decide +kernel
theorem dX12_has_23 : decode cX12_has 23 = .ok (.iload_n 1, 1) := by decide +kernel
theorem dX12_has_24 : decode cX12_has 24 = .ok (.iaload, 1) := by decide +kernel
theorem dX12_has_25 : decode cX12_has 25 = .ok (.iload_n 3, 1) := by decide +kernel
theorem dX12_has_26 : decode cX12_has 26 = .ok (.isub, 1) := by decide +kernel
theorem dX12_has_27 : decode cX12_has 27 = .ok (.if_icmp .gt 7, 3) := by decide +kernel
theorem dX12_has_30 : decode cX12_has 30 = .ok (.iconst 1, 1) := by decide +kernel
theorem dX12_has_31 : decode cX12_has 31 = .ok (.goto 4, 3) := by decide +kernel
theorem dX12_has_34 : decode cX12_has 34 = .ok (.iconst 0, 1) := by decide +kernel
theorem dX12_has_35 : decode cX12_has 35 = .ok (.ireturn, 1) := by decide +kernel
theorem dX12_copy_0 : decode cX12_copy 0 = .ok (.iload_n 1, 1) := by decide +kernel
theorem dX12_copy_1 : decode cX12_copy 1 = .ok (.invokestatic 300, 3) := by decide +kernel
theorem dX12_copy_4 : decode cX12_copy 4 = .ok (.ifCond .eq 10, 3) := by decide +kernel
theorem dX12_copy_7 : decode cX12_copy 7 = .ok (.iload_n 3, 1) := by decide +kernel
theorem dX12_copy_8 : decode cX12_copy 8 = .ok (.invokestatic 300, 3) := by decide +kernel
theorem dX12_copy_11 : decode cX12_copy 11 = .ok (.ifCond .ne 9, 3) := by decide +kernel
theorem dX12_copy_14 : decode cX12_copy 14 = .ok (.aload_n 0, 1) := by decide +kernel
theorem dX12_copy_15 : decode cX12_copy 15 = .ok (.iconst 0, 1) := by decide +kernel
theorem dX12_copy_16 : decode cX12_copy 16 = .ok (.invokevirtual 190, 3) := by decide +kernel
theorem dX12_copy_19 : decode cX12_copy 19 = .ok (.ireturn, 1) := by decide +kernel
theorem dX12_copy_20 : decode cX12_copy 20 = .ok (.aload_n 0, 1) := by decide +kernel
theorem dX12_copy_21 : decode cX12_copy 21 = .ok (.getfield 50, 3) := by decide +kernel
theorem dX12_copy_24 : decode cX12_copy 24 = .ok (.iload_n 1, 1) := by decide +kernel
theorem dX12_copy_25 : decode cX12_copy 25 = .ok (.iaload, 1) := by decide +kernel
theorem dX12_copy_26 : decode cX12_copy 26 = .ok (.ifCond .eq 12, 3) := by decide +kernel
theorem dX12_copy_29 : decode cX12_copy 29 = .ok (.aload_n 0, 1) := by decide +kernel
theorem dX12_copy_30 : decode cX12_copy 30 = .ok (.getfield 50, 3) := by decide +kernel
theorem dX12_copy_33 : decode cX12_copy 33 = .ok (.iload_n 3, 1) := by decide +kernel
theorem dX12_copy_34 : decode cX12_copy 34 = .ok (.iaload, 1) := by decide +kernel
theorem dX12_copy_35 : decode cX12_copy 35 = .ok (.ifCond .ne 9, 3) := by decide +kernel
theorem dX12_copy_38 : decode cX12_copy 38 = .ok (.aload_n 0, 1) := by decide +kernel
theorem dX12_copy_39 : decode cX12_copy 39 = .ok (.iconst 5, 1) := by decide +kernel
theorem dX12_copy_40 : decode cX12_copy 40 = .ok (.invokevirtual 190, 3) := by decide +kernel
theorem dX12_copy_43 : decode cX12_copy 43 = .ok (.ireturn, 1) := by decide +kernel
theorem dX12_copy_44 : decode cX12_copy 44 = .ok (.aload_n 0, 1) := by decide +kernel
theorem dX12_copy_45 : decode cX12_copy 45 = .ok (.getfield 50, 3) := by decide +kernel
theorem dX12_copy_48 : decode cX12_copy 48 = .ok (.iload_n 1, 1) := by decide +kernel
theorem dX12_copy_49 : decode cX12_copy 49 = .ok (.iaload, 1) := by decide +kernel
theorem dX12_copy_50 : decode cX12_copy 50 = .ok (.aload_n 0, 1) := by decide +kernel
theorem dX12_copy_51 : decode cX12_copy 51 = .ok (.getfield 50, 3) := by decide +kernel
theorem dX12_copy_54 : decode cX12_copy 54 = .ok (.iload_n 3, 1) := by decide +kernel
theorem dX12_copy_55 : decode cX12_copy 55 = .ok (.iaload, 1) := by decide +kernel
theorem dX12_copy_56 : decode cX12_copy 56 = .ok (.if_icmp .eq 9, 3) := by decide +kernel
theorem dX12_copy_59 : decode cX12_copy 59 = .ok (.aload_n 0, 1) := by decide +kernel
theorem dX12_copy_60 : decode cX12_copy 60 = .ok (.iconst 2, 1) := by decide +kernel
theorem dX12_copy_61 : decode cX12_copy 61 = .ok (.invokevirtual 190, 3) := by decide +kernel
theorem dX12_copy_64 : decode cX12_copy 64 = .ok (.ireturn, 1) := by decide +kernel
theorem dX12_copy_65 : decode cX12_copy 65 = .ok (.aload_n 0, 1) := by decide +kernel
theorem dX12_copy_66 : decode cX12_copy 66 = .ok (.iload_n 1, 1) := by decide +kernel
theorem dX12_copy_67 : decode cX12_copy 67 = .ok (.iload_n 2, 1) := by decide +kernel
theorem dX12_copy_68 : decode cX12_copy 68 = .ok (.iload 5, 2) := by decide +kernel
theorem dX12_copy_70 : decode cX12_copy 70 = .ok (.invokevirtual 303, 3) := by decide +kernel
theorem dX12_copy_73 : decode cX12_copy 73 = .ok (.ifCond .eq 15, 3) := by decide +kernel
theorem dX12_copy_76 : decode cX12_copy 76 = .ok (.aload_n 0, 1) := by decide +kernel
theorem dX12_copy_77 : decode cX12_copy 77 = .ok (.iload_n 3, 1) := by decide +kernel
theorem dX12_copy_78 : decode cX12_copy 78 = .ok (.iload 4, 2) := by decide +kernel
theorem dX12_copy_80 : decode cX12_copy 80 = .ok (.iload 5, 2) := by decide +kernel
theorem dX12_copy_82 : decode cX12_copy 82 = .ok (.invokevirtual 303, 3) := by decide +kernel
theorem dX12_copy_85 : decode cX12_copy 85 = .ok (.ifCond .ne 9, 3) := by decide +kernel
theorem dX12_copy_88 : decode cX12_copy 88 = .ok (.aload_n 0, 1) := by decide +kernel
theorem dX12_copy_89 : decode cX12_copy 89 = .ok (.iconst 0, 1) := by decide +kernel
theorem dX12_copy_90 : decode cX12_copy 90 = .ok (.invokevirtual 190, 3) := by decide +kernel
theorem dX12_copy_93 : decode cX12_copy 93 = .ok (.ireturn, 1) := by decide +kernel
theorem dX12_copy_94 : decode cX12_copy 94 = .ok (.iconst 0, 1) := by decide +kernel
theorem dX12_copy_95 : decode cX12_copy 95 = .ok (.istore 6, 2) := by decide +kernel
theorem dX12_copy_97 : decode cX12_copy 97 = .ok (.iload 6, 2) := by decide +kernel
theorem dX12_copy_99 : decode cX12_copy 99 = .ok (.iload 5, 2) := by decide +kernel
theorem dX12_copy_101 : decode cX12_copy 101 = .ok (.if_icmp .ge 30, 3) := by decide +kernel
theorem dX12_copy_104 : decode cX12_copy 104 = .ok (.aload_n 0, 1) := by decide +kernel
theorem dX12_copy_105 : decode cX12_copy 105 = .ok (.getfield 60, 3) := by decide +kernel
theorem dX12_copy_108 : decode cX12_copy 108 = .ok (.iload 6, 2) := by decide +kernel
theorem dX12_copy_110 : decode cX12_copy 110 = .ok (.aload_n 0, 1) := by decide +kernel
theorem dX12_copy_111 : decode cX12_copy 111 = .ok (.getfield 56, 3) := by decide +kernel
theorem dX12_copy_114 : decode cX12_copy 114 = .ok (.bipush 40, 2) := by decide +kernel
theorem dX12_copy_116 : decode cX12_copy 116 = .ok (.iload_n 1, 1) := by decide +kernel
theorem dX12_copy_117 : decode cX12_copy 117 = .ok (.imul, 1) := by decide +kernel
theorem dX12_copy_118 : decode cX12_copy 118 = .ok (.iload_n 2, 1) := by decide +kernel
theorem dX12_copy_119 : decode cX12_copy 119 = .ok (.iadd, 1) := by decide +kernel
theorem dX12_copy_120 : decode cX12_copy 120 = .ok (.iload 6, 2) := by decide +kernel
theorem dX12_copy_122 : decode cX12_copy 122 = .ok (.iadd, 1) := by decide +kernel
theorem dX12_copy_123 : decode cX12_copy 123 = .ok (.laload, 1) := by decide +kernel
theorem dX12_copy_124 : decode cX12_copy 124 = .ok (.lastore, 1) := by decide +kernel
theorem dX12_copy_125 : decode cX12_copy 125 = .ok (.iinc 6 1, 3) := by decide +kernel
theorem dX12_copy_128 : decode cX12_copy 128 = .ok (.goto (-31), 3) := by decide +kernel
theorem dX12_copy_131 : decode cX12_copy 131 = .ok (.iconst 0, 1) := by decide +kernel
theorem dX12_copy_132 : decode cX12_copy 132 = .ok (.istore 6, 2) := by decide +kernel
theorem dX12_copy_134 : decode cX12_copy 134 = .ok (.iload 6, 2) := by decide +kernel
theorem dX12_copy_136 : decode cX12_copy 136 = .ok (.iload 5, 2) := by decide +kernel
theorem dX12_copy_138 : decode cX12_copy 138 = .ok (.if_icmp .ge 31, 3) := by decide +kernel
theorem dX12_copy_141 : decode cX12_copy 141 = .ok (.aload_n 0, 1) := by decide +kernel
theorem dX12_copy_142 : decode cX12_copy 142 = .ok (.getfield 56, 3) := by decide +kernel
theorem dX12_copy_145 : decode cX12_copy 145 = .ok (.bipush 40, 2) := by decide +kernel
theorem dX12_copy_147 : decode cX12_copy 147 = .ok (.iload_n 3, 1) := by decide +kernel
theorem dX12_copy_148 : decode cX12_copy 148 = .ok (.imul, 1) := by decide +kernel
theorem dX12_copy_149 : decode cX12_copy 149 = .ok (.iload 4, 2) := by decide +kernel
theorem dX12_copy_151 : decode cX12_copy 151 = .ok (.iadd, 1) := by decide +kernel
theorem dX12_copy_152 : decode cX12_copy 152 = .ok (.iload 6, 2) := by decide +kernel
theorem dX12_copy_154 : decode cX12_copy 154 = .ok (.iadd, 1) := by decide +kernel
theorem dX12_copy_155 : decode cX12_copy 155 = .ok (.aload_n 0, 1) := by decide +kernel
theorem dX12_copy_156 : decode cX12_copy 156 = .ok (.getfield 60, 3) := by decide +kernel
theorem dX12_copy_159 : decode cX12_copy 159 = .ok (.iload 6, 2) := by decide +kernel
theorem dX12_copy_161 : decode cX12_copy 161 = .ok (.laload, 1) := by decide +kernel
theorem dX12_copy_162 : decode cX12_copy 162 = .ok (.lastore, 1) := by decide +kernel
theorem dX12_copy_163 : decode cX12_copy 163 = .ok (.iinc 6 1, 3) := by decide +kernel
theorem dX12_copy_166 : decode cX12_copy 166 = .ok (.goto (-32), 3) := by decide +kernel
theorem dX12_copy_169 : decode cX12_copy 169 = .ok (.iload 5, 2) := by decide +kernel
theorem dX12_copy_171 : decode cX12_copy 171 = .ok (.ireturn, 1) := by decide +kernel
theorem dX12_image_0 : decode cX12_image 0 = .ok (.iconst 0, 1) := by decide +kernel
theorem dX12_image_1 : decode cX12_image 1 = .ok (.istore_n 1, 1) := by decide +kernel
theorem dX12_image_2 : decode cX12_image 2 = .ok (.iload_n 1, 1) := by decide +kernel
theorem dX12_image_3 : decode cX12_image 3 = .ok (.sipush 1208, 3) := by decide +kernel
theorem dX12_image_6 : decode cX12_image 6 = .ok (.if_icmp .ge 21, 3) := by decide +kernel
theorem dX12_image_9 : decode cX12_image 9 = .ok (.aload_n 0, 1) := by decide +kernel
theorem dX12_image_10 : decode cX12_image 10 = .ok (.getfield 13, 3) := by decide +kernel
theorem dX12_image_13 : decode cX12_image 13 = .ok (.iload_n 1, 1) := by decide +kernel
theorem dX12_image_14 : decode cX12_image 14 = .ok (.aload_n 0, 1) := by decide +kernel
theorem dX12_image_15 : decode cX12_image 15 = .ok (.getfield 7, 3) := by decide +kernel
theorem dX12_image_18 : decode cX12_image 18 = .ok (.iload_n 1, 1) := by decide +kernel
theorem dX12_image_19 : decode cX12_image 19 = .ok (.iaload, 1) := by decide +kernel
theorem dX12_image_20 : decode cX12_image 20 = .ok (.iastore, 1) := by decide +kernel
theorem dX12_image_21 : decode cX12_image 21 = .ok (.iinc 1 1, 3) := by decide +kernel
theorem dX12_image_24 : decode cX12_image 24 = .ok (.goto (-22), 3) := by decide +kernel
theorem dX12_image_27 : decode cX12_image 27 = .ok (.aload_n 0, 1) := by decide +kernel
theorem dX12_image_28 : decode cX12_image 28 = .ok (.iconst 1, 1) := by decide +kernel
theorem dX12_image_29 : decode cX12_image 29 = .ok (.putfield 306, 3) := by decide +kernel
theorem dX12_image_32 : decode cX12_image 32 = .ok (.iconst 1, 1) := by decide +kernel
theorem dX12_image_33 : decode cX12_image 33 = .ok (.ireturn, 1) := by decide +kernel
theorem dX12_undo_0 : decode cX12_undo 0 = .ok (.aload_n 0, 1) := by decide +kernel
theorem dX12_undo_1 : decode cX12_undo 1 = .ok (.getfield 306, 3) := by decide +kernel
theorem dX12_undo_4 : decode cX12_undo 4 = .ok (.ifCond .ne 9, 3) := by decide +kernel
theorem dX12_undo_7 : decode cX12_undo 7 = .ok (.aload_n 0, 1) := by decide +kernel
theorem dX12_undo_8 : decode cX12_undo 8 = .ok (.iconst 3, 1) := by decide +kernel
theorem dX12_undo_9 : decode cX12_undo 9 = .ok (.invokevirtual 190, 3) := by decide +kernel
theorem dX12_undo_12 : decode cX12_undo 12 = .ok (.ireturn, 1) := by decide +kernel
theorem dX12_undo_13 : decode cX12_undo 13 = .ok (.iconst 0, 1) := by decide +kernel
theorem dX12_undo_14 : decode cX12_undo 14 = .ok (.istore_n 1, 1) := by decide +kernel
theorem dX12_undo_15 : decode cX12_undo 15 = .ok (.iload_n 1, 1) := by decide +kernel
theorem dX12_undo_16 : decode cX12_undo 16 = .ok (.sipush 1208, 3) := by decide +kernel
theorem dX12_undo_19 : decode cX12_undo 19 = .ok (.if_icmp .ge 21, 3) := by decide +kernel
theorem dX12_undo_22 : decode cX12_undo 22 = .ok (.aload_n 0, 1) := by decide +kernel
theorem dX12_undo_23 : decode cX12_undo 23 = .ok (.getfield 7, 3) := by decide +kernel
theorem dX12_undo_26 : decode cX12_undo 26 = .ok (.iload_n 1, 1) := by decide +kernel
theorem dX12_undo_27 : decode cX12_undo 27 = .ok (.aload_n 0, 1) := by decide +kernel
theorem dX12_undo_28 : decode cX12_undo 28 = .ok (.getfield 13, 3) := by decide +kernel
theorem dX12_undo_31 : decode cX12_undo 31 = .ok (.iload_n 1, 1) := by decide +kernel
theorem dX12_undo_32 : decode cX12_undo 32 = .ok (.iaload, 1) := by decide +kernel
theorem dX12_undo_33 : decode cX12_undo 33 = .ok (.iastore, 1) := by decide +kernel
theorem dX12_undo_34 : decode cX12_undo 34 = .ok (.iinc 1 1, 3) := by decide +kernel
theorem dX12_undo_37 : decode cX12_undo 37 = .ok (.goto (-22), 3) := by decide +kernel
theorem dX12_undo_40 : decode cX12_undo 40 = .ok (.aload_n 0, 1) := by decide +kernel
theorem dX12_undo_41 : decode cX12_undo 41 = .ok (.getfield 7, 3) := by decide +kernel
theorem dX12_undo_44 : decode cX12_undo 44 = .ok (.iconst 3, 1) := by decide +kernel
theorem dX12_undo_45 : decode cX12_undo 45 = .ok (.iaload, 1) := by decide +kernel
theorem dX12_undo_46 : decode cX12_undo 46 = .ok (.ireturn, 1) := by decide +kernel
theorem dX12_tear_0 : decode cX12_tear 0 = .ok (.aload_n 0, 1) := by decide +kernel
theorem dX12_tear_1 : decode cX12_tear 1 = .ok (.getfield 306, 3) := by decide +kernel
theorem dX12_tear_4 : decode cX12_tear 4 = .ok (.ifCond .eq 7, 3) := by decide +kernel
theorem dX12_tear_7 : decode cX12_tear 7 = .ok (.iconst 1, 1) := by decide +kernel
theorem dX12_tear_8 : decode cX12_tear 8 = .ok (.goto 4, 3) := by decide +kernel
theorem dX12_tear_11 : decode cX12_tear 11 = .ok (.iconst 0, 1) := by decide +kernel
theorem dX12_tear_12 : decode cX12_tear 12 = .ok (.istore_n 1, 1) := by decide +kernel
theorem dX12_tear_13 : decode cX12_tear 13 = .ok (.aload_n 0, 1) := by decide +kernel
theorem dX12_tear_14 : decode cX12_tear 14 = .ok (.iconst 0, 1) := by decide +kernel
theorem dX12_tear_15 : decode cX12_tear 15 = .ok (.putfield 306, 3) := by decide +kernel
theorem dX12_tear_18 : decode cX12_tear 18 = .ok (.iload_n 1, 1) := by decide +kernel
theorem dX12_tear_19 : decode cX12_tear 19 = .ok (.ireturn, 1) := by decide +kernel
theorem dX12_look_0 : decode cX12_look 0 = .ok (.iload_n 1, 1) := by decide +kernel
theorem dX12_look_1 : decode cX12_look 1 = .ok (.tableswitch 91 0 6 #[43, 50, 58, 65, 72, 79, 86], 43) := by decide +kernel
theorem dX12_look_44 : decode cX12_look 44 = .ok (.aload_n 0, 1) := by decide +kernel
theorem dX12_look_45 : decode cX12_look 45 = .ok (.getfield 7, 3) := by decide +kernel
theorem dX12_look_48 : decode cX12_look 48 = .ok (.iconst 0, 1) := by decide +kernel
theorem dX12_look_49 : decode cX12_look 49 = .ok (.iaload, 1) := by decide +kernel
theorem dX12_look_50 : decode cX12_look 50 = .ok (.ireturn, 1) := by decide +kernel
theorem dX12_look_51 : decode cX12_look 51 = .ok (.aload_n 0, 1) := by decide +kernel
theorem dX12_look_52 : decode cX12_look 52 = .ok (.invokevirtual 181, 3) := by decide +kernel
theorem dX12_look_55 : decode cX12_look 55 = .ok (.invokestatic 147, 3) := by decide +kernel
theorem dX12_look_58 : decode cX12_look 58 = .ok (.ireturn, 1) := by decide +kernel
theorem dX12_look_59 : decode cX12_look 59 = .ok (.aload_n 0, 1) := by decide +kernel
theorem dX12_look_60 : decode cX12_look 60 = .ok (.getfield 7, 3) := by decide +kernel
theorem dX12_look_63 : decode cX12_look 63 = .ok (.iconst 1, 1) := by decide +kernel
theorem dX12_look_64 : decode cX12_look 64 = .ok (.iaload, 1) := by decide +kernel
theorem dX12_look_65 : decode cX12_look 65 = .ok (.ireturn, 1) := by decide +kernel
theorem dX12_look_66 : decode cX12_look 66 = .ok (.aload_n 0, 1) := by decide +kernel
theorem dX12_look_67 : decode cX12_look 67 = .ok (.getfield 7, 3) := by decide +kernel
theorem dX12_look_70 : decode cX12_look 70 = .ok (.iconst 2, 1) := by decide +kernel
theorem dX12_look_71 : decode cX12_look 71 = .ok (.iaload, 1) := by decide +kernel
theorem dX12_look_72 : decode cX12_look 72 = .ok (.ireturn, 1) := by decide +kernel
theorem dX12_look_73 : decode cX12_look 73 = .ok (.aload_n 0, 1) := by decide +kernel
theorem dX12_look_74 : decode cX12_look 74 = .ok (.getfield 7, 3) := by decide +kernel
theorem dX12_look_77 : decode cX12_look 77 = .ok (.iconst 3, 1) := by decide +kernel
theorem dX12_look_78 : decode cX12_look 78 = .ok (.iaload, 1) := by decide +kernel
theorem dX12_look_79 : decode cX12_look 79 = .ok (.ireturn, 1) := by decide +kernel
theorem dX12_look_80 : decode cX12_look 80 = .ok (.aload_n 0, 1) := by decide +kernel
theorem dX12_look_81 : decode cX12_look 81 = .ok (.getfield 7, 3) := by decide +kernel
theorem dX12_look_84 : decode cX12_look 84 = .ok (.iconst 4, 1) := by decide +kernel
theorem dX12_look_85 : decode cX12_look 85 = .ok (.iaload, 1) := by decide +kernel
theorem dX12_look_86 : decode cX12_look 86 = .ok (.ireturn, 1) := by decide +kernel
theorem dX12_look_87 : decode cX12_look 87 = .ok (.aload_n 0, 1) := by decide +kernel
theorem dX12_look_88 : decode cX12_look 88 = .ok (.getfield 199, 3) := by decide +kernel
theorem dX12_look_91 : decode cX12_look 91 = .ok (.ireturn, 1) := by decide +kernel
theorem dX12_look_92 : decode cX12_look 92 = .ok (.aload_n 0, 1) := by decide +kernel
theorem dX12_look_93 : decode cX12_look 93 = .ok (.iconst 0, 1) := by decide +kernel
theorem dX12_look_94 : decode cX12_look 94 = .ok (.invokevirtual 190, 3) := by decide +kernel
theorem dX12_look_97 : decode cX12_look 97 = .ok (.ireturn, 1) := by decide +kernel
theorem dX12_status_0 : decode cX12_status 0 = .ok (.iload_n 1, 1) := by decide +kernel
theorem dX12_status_1 : decode cX12_status 1 = .ok (.iconst (-1), 1) := by decide +kernel
theorem dX12_status_2 : decode cX12_status 2 = .ok (.bipush 6, 2) := by decide +kernel
theorem dX12_status_4 : decode cX12_status 4 = .ok (.invokestatic 64, 3) := by decide +kernel
theorem dX12_status_7 : decode cX12_status 7 = .ok (.ifCond .ne 9, 3) := by decide +kernel
theorem dX12_status_10 : decode cX12_status 10 = .ok (.aload_n 0, 1) := by decide +kernel
theorem dX12_status_11 : decode cX12_status 11 = .ok (.iconst 0, 1) := by decide +kernel
theorem dX12_status_12 : decode cX12_status 12 = .ok (.invokevirtual 190, 3) := by decide +kernel
theorem dX12_status_15 : decode cX12_status 15 = .ok (.ireturn, 1) := by decide +kernel
theorem dX12_status_16 : decode cX12_status 16 = .ok (.iconst 0, 1) := by decide +kernel
theorem dX12_status_17 : decode cX12_status 17 = .ok (.istore_n 2, 1) := by decide +kernel
theorem dX12_status_18 : decode cX12_status 18 = .ok (.iconst 0, 1) := by decide +kernel
theorem dX12_status_19 : decode cX12_status 19 = .ok (.istore_n 3, 1) := by decide +kernel
theorem dX12_status_20 : decode cX12_status 20 = .ok (.iload_n 3, 1) := by decide +kernel
theorem dX12_status_21 : decode cX12_status 21 = .ok (.bipush 7, 2) := by decide +kernel
theorem dX12_status_23 : decode cX12_status 23 = .ok (.if_icmp .ge 32, 3) := by decide +kernel
theorem dX12_status_26 : decode cX12_status 26 = .ok (.iload_n 2, 1) := by decide +kernel
theorem dX12_status_27 : decode cX12_status 27 = .ok (.iload_n 1, 1) := by decide +kernel
theorem dX12_status_28 : decode cX12_status 28 = .ok (.iconst (-1), 1) := by decide +kernel
theorem dX12_status_29 : decode cX12_status 29 = .ok (.if_icmp .eq 8, 3) := by decide +kernel
theorem dX12_status_32 : decode cX12_status 32 = .ok (.iload_n 1, 1) := by decide +kernel
theorem dX12_status_33 : decode cX12_status 33 = .ok (.iload_n 3, 1) := by decide +kernel
theorem dX12_status_34 : decode cX12_status 34 = .ok (.if_icmp .ne 12, 3) := by decide +kernel
theorem dX12_status_37 : decode cX12_status 37 = .ok (.aload_n 0, 1) := by decide +kernel
theorem dX12_status_38 : decode cX12_status 38 = .ok (.getfield 19, 3) := by decide +kernel
theorem dX12_status_41 : decode cX12_status 41 = .ok (.iload_n 3, 1) := by decide +kernel
theorem dX12_status_42 : decode cX12_status 42 = .ok (.iaload, 1) := by decide +kernel
theorem dX12_status_43 : decode cX12_status 43 = .ok (.goto 4, 3) := by decide +kernel
theorem dX12_status_46 : decode cX12_status 46 = .ok (.iconst 0, 1) := by decide +kernel
theorem dX12_status_47 : decode cX12_status 47 = .ok (.iadd, 1) := by decide +kernel
theorem dX12_status_48 : decode cX12_status 48 = .ok (.istore_n 2, 1) := by decide +kernel
theorem dX12_status_49 : decode cX12_status 49 = .ok (.iinc 3 1, 3) := by decide +kernel
theorem dX12_status_52 : decode cX12_status 52 = .ok (.goto (-32), 3) := by decide +kernel
theorem dX12_status_55 : decode cX12_status 55 = .ok (.iload_n 2, 1) := by decide +kernel
theorem dX12_status_56 : decode cX12_status 56 = .ok (.ireturn, 1) := by decide +kernel
