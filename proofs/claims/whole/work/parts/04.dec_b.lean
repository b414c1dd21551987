theorem dX11_init_0 : decode cX11_init 0 = .ok (.aload_n 0, 1) := by decide +kernel
theorem dX11_init_1 : decode cX11_init 1 = .ok (.invokespecial 3, 3) := by decide +kernel
theorem dX11_init_4 : decode cX11_init 4 = .ok (.aload_n 0, 1) := by decide +kernel
theorem dX11_init_5 : decode cX11_init 5 = .ok (.new 9, 3) := by decide +kernel
theorem dX11_init_8 : decode cX11_init 8 = .ok (.dup, 1) := by decide +kernel
theorem dX11_init_9 : decode cX11_init 9 = .ok (.invokespecial 11, 3) := by decide +kernel
theorem dX11_init_12 : decode cX11_init 12 = .ok (.putfield 12, 3) := by decide +kernel
theorem dX11_init_15 : decode cX11_init 15 = .ok (.aload_n 0, 1) := by decide +kernel
theorem dX11_init_16 : decode cX11_init 16 = .ok (.new 16, 3) := by decide +kernel
theorem dX11_init_19 : decode cX11_init 19 = .ok (.dup, 1) := by decide +kernel
theorem dX11_init_20 : decode cX11_init 20 = .ok (.invokespecial 18, 3) := by decide +kernel
theorem dX11_init_23 : decode cX11_init 23 = .ok (.putfield 19, 3) := by decide +kernel
theorem dX11_init_26 : decode cX11_init 26 = .ok (.aload_n 0, 1) := by decide +kernel
theorem dX11_init_27 : decode cX11_init 27 = .ok (.new 23, 3) := by decide +kernel
theorem dX11_init_30 : decode cX11_init 30 = .ok (.dup, 1) := by decide +kernel
theorem dX11_init_31 : decode cX11_init 31 = .ok (.invokespecial 25, 3) := by decide +kernel
theorem dX11_init_34 : decode cX11_init 34 = .ok (.putfield 26, 3) := by decide +kernel
theorem dX11_init_37 : decode cX11_init 37 = .ok (.aload_n 0, 1) := by decide +kernel
theorem dX11_init_38 : decode cX11_init 38 = .ok (.new 30, 3) := by decide +kernel
theorem dX11_init_41 : decode cX11_init 41 = .ok (.dup, 1) := by decide +kernel
theorem dX11_init_42 : decode cX11_init 42 = .ok (.invokespecial 32, 3) := by decide +kernel
theorem dX11_init_45 : decode cX11_init 45 = .ok (.putfield 33, 3) := by decide +kernel
theorem dX11_init_48 : decode cX11_init 48 = .ok (.aload_n 0, 1) := by decide +kernel
theorem dX11_init_49 : decode cX11_init 49 = .ok (.new 16, 3) := by decide +kernel
theorem dX11_init_52 : decode cX11_init 52 = .ok (.dup, 1) := by decide +kernel
theorem dX11_init_53 : decode cX11_init 53 = .ok (.invokespecial 18, 3) := by decide +kernel
theorem dX11_init_56 : decode cX11_init 56 = .ok (.putfield 37, 3) := by decide +kernel
theorem dX11_init_59 : decode cX11_init 59 = .ok (.aload_n 0, 1) := by decide +kernel
theorem dX11_init_60 : decode cX11_init 60 = .ok (.new 40, 3) := by decide +kernel
theorem dX11_init_63 : decode cX11_init 63 = .ok (.dup, 1) := by decide +kernel
theorem dX11_init_64 : decode cX11_init 64 = .ok (.invokespecial 42, 3) := by decide +kernel
theorem dX11_init_67 : decode cX11_init 67 = .ok (.putfield 43, 3) := by decide +kernel
theorem dX11_init_70 : decode cX11_init 70 = .ok (.aload_n 0, 1) := by decide +kernel
theorem dX11_init_71 : decode cX11_init 71 = .ok (.aload_n 0, 1) := by decide +kernel
theorem dX11_init_72 : decode cX11_init 72 = .ok (.getfield 43, 3) := by decide +kernel
theorem dX11_init_75 : decode cX11_init 75 = .ok (.getfield 47, 3) := by decide +kernel
theorem dX11_init_78 : decode cX11_init 78 = .ok (.putfield 51, 3) := by decide +kernel
theorem dX11_init_81 : decode cX11_init 81 = .ok (.aload_n 0, 1) := by decide +kernel
theorem dX11_init_82 : decode cX11_init 82 = .ok (.new 52, 3) := by decide +kernel
theorem dX11_init_85 : decode cX11_init 85 = .ok (.dup, 1) := by decide +kernel
theorem dX11_init_86 : decode cX11_init 86 = .ok (.invokespecial 54, 3) := by decide +kernel
theorem dX11_init_89 : decode cX11_init 89 = .ok (.putfield 55, 3) := by decide +kernel
theorem dX11_init_92 : decode cX11_init 92 = .ok (.aload_n 0, 1) := by decide +kernel
theorem dX11_init_93 : decode cX11_init 93 = .ok (.new 59, 3) := by decide +kernel
theorem dX11_init_96 : decode cX11_init 96 = .ok (.dup, 1) := by decide +kernel
theorem dX11_init_97 : decode cX11_init 97 = .ok (.invokespecial 61, 3) := by decide +kernel
theorem dX11_init_100 : decode cX11_init 100 = .ok (.putfield 62, 3) := by decide +kernel
theorem dX11_init_103 : decode cX11_init 103 = .ok (.aload_n 0, 1) := by decide +kernel
theorem dX11_init_104 : decode cX11_init 104 = .ok (.new 59, 3) := by decide +kernel
theorem dX11_init_107 : decode cX11_init 107 = .ok (.dup, 1) := by decide +kernel
theorem dX11_init_108 : decode cX11_init 108 = .ok (.invokespecial 61, 3) := by decide +kernel
theorem dX11_init_111 : decode cX11_init 111 = .ok (.putfield 66, 3) := by decide +kernel
theorem dX11_init_114 : decode cX11_init 114 = .ok (.aload_n 0, 1) := by decide +kernel
theorem dX11_init_115 : decode cX11_init 115 = .ok (.new 69, 3) := by decide +kernel
theorem dX11_init_118 : decode cX11_init 118 = .ok (.dup, 1) := by decide +kernel
theorem dX11_init_119 : decode cX11_init 119 = .ok (.invokespecial 71, 3) := by decide +kernel
theorem dX11_init_122 : decode cX11_init 122 = .ok (.putfield 72, 3) := by decide +kernel
theorem dX11_init_125 : decode cX11_init 125 = .ok (.aload_n 0, 1) := by decide +kernel
theorem dX11_init_126 : decode cX11_init 126 = .ok (.new 76, 3) := by decide +kernel
theorem dX11_init_129 : decode cX11_init 129 = .ok (.dup, 1) := by decide +kernel
theorem dX11_init_130 : decode cX11_init 130 = .ok (.invokespecial 78, 3) := by decide +kernel
theorem dX11_init_133 : decode cX11_init 133 = .ok (.putfield 79, 3) := by decide +kernel
theorem dX11_init_136 : decode cX11_init 136 = .ok (.aload_n 0, 1) := by decide +kernel
theorem dX11_init_137 : decode cX11_init 137 = .ok (.iconst 4, 1) := by decide +kernel
theorem dX11_init_138 : decode cX11_init 138 = .ok (.anewarray 83, 3) := by decide +kernel
theorem dX11_init_141 : decode cX11_init 141 = .ok (.putfield 85, 3) := by decide +kernel
theorem dX11_init_144 : decode cX11_init 144 = .ok (.iconst 0, 1) := by decide +kernel
theorem dX11_init_145 : decode cX11_init 145 = .ok (.istore_n 1, 1) := by decide +kernel
theorem dX11_init_146 : decode cX11_init 146 = .ok (.iload_n 1, 1) := by decide +kernel
theorem dX11_init_147 : decode cX11_init 147 = .ok (.iconst 4, 1) := by decide +kernel
theorem dX11_init_148 : decode cX11_init 148 = .ok (.if_icmp .ge 22, 3) := by decide +kernel
theorem dX11_init_151 : decode cX11_init 151 = .ok (.aload_n 0, 1) := by decide +kernel
theorem dX11_init_152 : decode cX11_init 152 = .ok (.getfield 85, 3) := by decide +kernel
theorem dX11_init_155 : decode cX11_init 155 = .ok (.iload_n 1, 1) := by decide +kernel
theorem dX11_init_156 : decode cX11_init 156 = .ok (.new 83, 3) := by decide +kernel
theorem dX11_init_159 : decode cX11_init 159 = .ok (.dup, 1) := by decide +kernel
theorem dX11_init_160 : decode cX11_init 160 = .ok (.invokespecial 89, 3) := by decide +kernel
theorem dX11_init_163 : decode cX11_init 163 = .ok (.aastore, 1) := by decide +kernel
theorem dX11_init_164 : decode cX11_init 164 = .ok (.iinc 1 1, 3) := by decide +kernel
theorem dX11_init_167 : decode cX11_init 167 = .ok (.goto (-21), 3) := by decide +kernel
theorem dX11_init_170 : decode cX11_init 170 = .ok (.return_, 1) := by decide +kernel
theorem dX11_elder_0 : decode cX11_elder 0 = .ok (.iload_n 1, 1) := by decide +kernel
theorem dX11_elder_1 : decode cX11_elder 1 = .ok (.ifCond .lt 9, 3) := by decide +kernel
theorem dX11_elder_4 : decode cX11_elder 4 = .ok (.iload_n 1, 1) := by decide +kernel
theorem dX11_elder_5 : decode cX11_elder 5 = .ok (.bipush 9, 2) := by decide +kernel
theorem dX11_elder_7 : decode cX11_elder 7 = .ok (.if_icmp .le 13, 3) := by decide +kernel
theorem dX11_elder_10 : decode cX11_elder 10 = .ok (.aload_n 0, 1) := by decide +kernel
theorem dX11_elder_11 : decode cX11_elder 11 = .ok (.getfield 12, 3) := by decide +kernel
theorem dX11_elder_14 : decode cX11_elder 14 = .ok (.ldc 90, 2) := by decide +kernel
theorem dX11_elder_16 : decode cX11_elder 16 = .ok (.invokevirtual 91, 3) := by decide +kernel
theorem dX11_elder_19 : decode cX11_elder 19 = .ok (.ireturn, 1) := by decide +kernel
theorem dX11_elder_20 : decode cX11_elder 20 = .ok (.aload_n 0, 1) := by decide +kernel
theorem dX11_elder_21 : decode cX11_elder 21 = .ok (.getfield 19, 3) := by decide +kernel
theorem dX11_elder_24 : decode cX11_elder 24 = .ok (.getfield 95, 3) := by decide +kernel
theorem dX11_elder_27 : decode cX11_elder 27 = .ok (.bipush 10, 2) := by decide +kernel
theorem dX11_elder_29 : decode cX11_elder 29 = .ok (.if_icmp .lt 13, 3) := by decide +kernel
theorem dX11_elder_32 : decode cX11_elder 32 = .ok (.aload_n 0, 1) := by decide +kernel
theorem dX11_elder_33 : decode cX11_elder 33 = .ok (.getfield 12, 3) := by decide +kernel
theorem dX11_elder_36 : decode cX11_elder 36 = .ok (.ldc 99, 2) := by decide +kernel
theorem dX11_elder_38 : decode cX11_elder 38 = .ok (.invokevirtual 91, 3) := by decide +kernel
theorem dX11_elder_41 : decode cX11_elder 41 = .ok (.ireturn, 1) := by decide +kernel
theorem dX11_elder_42 : decode cX11_elder 42 = .ok (.aload_n 0, 1) := by decide +kernel
theorem dX11_elder_43 : decode cX11_elder 43 = .ok (.getfield 19, 3) := by decide +kernel
theorem dX11_elder_46 : decode cX11_elder 46 = .ok (.iload_n 1, 1) := by decide +kernel
theorem dX11_elder_47 : decode cX11_elder 47 = .ok (.invokevirtual 100, 3) := by decide +kernel
theorem dX11_elder_50 : decode cX11_elder 50 = .ok (.ireturn, 1) := by decide +kernel
theorem dX11_of_0 : decode cX11_of 0 = .ok (.aload_n 0, 1) := by decide +kernel
theorem dX11_of_1 : decode cX11_of 1 = .ok (.getfield 19, 3) := by decide +kernel
theorem dX11_of_4 : decode cX11_of 4 = .ok (.iload_n 1, 1) := by decide +kernel
theorem dX11_of_5 : decode cX11_of 5 = .ok (.invokevirtual 103, 3) := by decide +kernel
theorem dX11_of_8 : decode cX11_of 8 = .ok (.ifCond .ne 13, 3) := by decide +kernel
theorem dX11_of_11 : decode cX11_of 11 = .ok (.aload_n 0, 1) := by decide +kernel
theorem dX11_of_12 : decode cX11_of 12 = .ok (.getfield 12, 3) := by decide +kernel
theorem dX11_of_15 : decode cX11_of 15 = .ok (.ldc 90, 2) := by decide +kernel
theorem dX11_of_17 : decode cX11_of 17 = .ok (.invokevirtual 91, 3) := by decide +kernel
theorem dX11_of_20 : decode cX11_of 20 = .ok (.ireturn, 1) := by decide +kernel
theorem dX11_of_21 : decode cX11_of 21 = .ok (.iload_n 2, 1) := by decide +kernel
theorem dX11_of_22 : decode cX11_of 22 = .ok (.tableswitch 89 0 4 #[34, 44, 56, 66, 79], 34) := by decide +kernel
theorem dX11_of_56 : decode cX11_of 56 = .ok (.aload_n 0, 1) := by decide +kernel
theorem dX11_of_57 : decode cX11_of 57 = .ok (.getfield 19, 3) := by decide +kernel
theorem dX11_of_60 : decode cX11_of 60 = .ok (.getfield 107, 3) := by decide +kernel
theorem dX11_of_63 : decode cX11_of 63 = .ok (.iload_n 1, 1) := by decide +kernel
theorem dX11_of_64 : decode cX11_of 64 = .ok (.iaload, 1) := by decide +kernel
theorem dX11_of_65 : decode cX11_of 65 = .ok (.ireturn, 1) := by decide +kernel
theorem dX11_of_66 : decode cX11_of 66 = .ok (.aload_n 0, 1) := by decide +kernel
theorem dX11_of_67 : decode cX11_of 67 = .ok (.getfield 19, 3) := by decide +kernel
theorem dX11_of_70 : decode cX11_of 70 = .ok (.getfield 111, 3) := by decide +kernel
theorem dX11_of_73 : decode cX11_of 73 = .ok (.iload_n 1, 1) := by decide +kernel
theorem dX11_of_74 : decode cX11_of 74 = .ok (.ishr, 1) := by decide +kernel
theorem dX11_of_75 : decode cX11_of 75 = .ok (.iconst 1, 1) := by decide +kernel
theorem dX11_of_76 : decode cX11_of 76 = .ok (.iand, 1) := by decide +kernel
theorem dX11_of_77 : decode cX11_of 77 = .ok (.ireturn, 1) := by decide +kernel
theorem dX11_of_78 : decode cX11_of 78 = .ok (.aload_n 0, 1) := by decide +kernel
theorem dX11_of_79 : decode cX11_of 79 = .ok (.getfield 19, 3) := by decide +kernel
theorem dX11_of_82 : decode cX11_of 82 = .ok (.getfield 114, 3) := by decide +kernel
theorem dX11_of_85 : decode cX11_of 85 = .ok (.iload_n 1, 1) := by decide +kernel
theorem dX11_of_86 : decode cX11_of 86 = .ok (.iaload, 1) := by decide +kernel
theorem dX11_of_87 : decode cX11_of 87 = .ok (.ireturn, 1) := by decide +kernel
theorem dX11_of_88 : decode cX11_of 88 = .ok (.aload_n 0, 1) := by decide +kernel
theorem dX11_of_89 : decode cX11_of 89 = .ok (.getfield 19, 3) := by decide +kernel
theorem dX11_of_92 : decode cX11_of 92 = .ok (.getfield 114, 3) := by decide +kernel
theorem dX11_of_95 : decode cX11_of 95 = .ok (.iload_n 1, 1) := by decide +kernel
theorem dX11_of_96 : decode cX11_of 96 = .ok (.iaload, 1) := by decide +kernel
theorem dX11_of_97 : decode cX11_of 97 = .ok (.invokestatic 117, 3) := by decide +kernel
theorem dX11_of_100 : decode cX11_of 100 = .ok (.ireturn, 1) := by decide +kernel
theorem dX11_of_101 : decode cX11_of 101 = .ok (.aload_n 0, 1) := by decide +kernel
theorem dX11_of_102 : decode cX11_of 102 = .ok (.getfield 19, 3) := by decide +kernel
theorem dX11_of_105 : decode cX11_of 105 = .ok (.getfield 122, 3) := by decide +kernel
theorem dX11_of_108 : decode cX11_of 108 = .ok (.iload_n 1, 1) := by decide +kernel
theorem dX11_of_109 : decode cX11_of 109 = .ok (.iaload, 1) := by decide +kernel
theorem dX11_of_110 : decode cX11_of 110 = .ok (.ireturn, 1) := by decide +kernel
theorem dX11_of_111 : decode cX11_of 111 = .ok (.aload_n 0, 1) := by decide +kernel
theorem dX11_of_112 : decode cX11_of 112 = .ok (.getfield 12, 3) := by decide +kernel
theorem dX11_of_115 : decode cX11_of 115 = .ok (.ldc 90, 2) := by decide +kernel
theorem dX11_of_117 : decode cX11_of 117 = .ok (.invokevirtual 91, 3) := by decide +kernel
theorem dX11_of_120 : decode cX11_of 120 = .ok (.ireturn, 1) := by decide +kernel
theorem dX11_gone_0 : decode cX11_gone 0 = .ok (.aload_n 0, 1) := by decide +kernel
theorem dX11_gone_1 : decode cX11_gone 1 = .ok (.getfield 19, 3) := by decide +kernel
theorem dX11_gone_4 : decode cX11_gone 4 = .ok (.iload_n 1, 1) := by decide +kernel
theorem dX11_gone_5 : decode cX11_gone 5 = .ok (.invokevirtual 103, 3) := by decide +kernel
theorem dX11_gone_8 : decode cX11_gone 8 = .ok (.ifCond .ne 13, 3) := by decide +kernel
theorem dX11_gone_11 : decode cX11_gone 11 = .ok (.aload_n 0, 1) := by decide +kernel
theorem dX11_gone_12 : decode cX11_gone 12 = .ok (.getfield 12, 3) := by decide +kernel
theorem dX11_gone_15 : decode cX11_gone 15 = .ok (.ldc 90, 2) := by decide +kernel
theorem dX11_gone_17 : decode cX11_gone 17 = .ok (.invokevirtual 91, 3) := by decide +kernel
theorem dX11_gone_20 : decode cX11_gone 20 = .ok (.ireturn, 1) := by decide +kernel
theorem dX11_gone_21 : decode cX11_gone 21 = .ok (.aload_n 0, 1) := by decide +kernel
theorem dX11_gone_22 : decode cX11_gone 22 = .ok (.getfield 19, 3) := by decide +kernel
theorem dX11_gone_25 : decode cX11_gone 25 = .ok (.iload_n 1, 1) := by decide +kernel
theorem dX11_gone_26 : decode cX11_gone 26 = .ok (.iload_n 2, 1) := by decide +kernel
theorem dX11_gone_27 : decode cX11_gone 27 = .ok (.invokevirtual 125, 3) := by decide +kernel
theorem dX11_gone_30 : decode cX11_gone 30 = .ok (.ifCond .eq 7, 3) := by decide +kernel
theorem dX11_gone_33 : decode cX11_gone 33 = .ok (.iconst 1, 1) := by decide +kernel
theorem dX11_gone_34 : decode cX11_gone 34 = .ok (.goto 4, 3) := by decide +kernel
theorem dX11_gone_37 : decode cX11_gone 37 = .ok (.iconst 0, 1) := by decide +kernel
theorem dX11_gone_38 : decode cX11_gone 38 = .ok (.ireturn, 1) := by decide +kernel
theorem dX11_feed_0 : decode cX11_feed 0 = .ok (.iload_n 2, 1) := by decide +kernel
theorem dX11_feed_1 : decode cX11_feed 1 = .ok (.iconst 1, 1) := by decide +kernel
theorem dX11_feed_2 : decode cX11_feed 2 = .ok (.if_icmp .lt 8, 3) := by decide +kernel
theorem dX11_feed_5 : decode cX11_feed 5 = .ok (.iload_n 2, 1) := by decide +kernel
theorem dX11_feed_6 : decode cX11_feed 6 = .ok (.iconst 4, 1) := by decide +kernel
theorem dX11_feed_7 : decode cX11_feed 7 = .ok (.if_icmp .le 13, 3) := by decide +kernel
theorem dX11_feed_10 : decode cX11_feed 10 = .ok (.aload_n 0, 1) := by decide +kernel
theorem dX11_feed_11 : decode cX11_feed 11 = .ok (.getfield 12, 3) := by decide +kernel
theorem dX11_feed_14 : decode cX11_feed 14 = .ok (.ldc 90, 2) := by decide +kernel
theorem dX11_feed_16 : decode cX11_feed 16 = .ok (.invokevirtual 91, 3) := by decide +kernel
theorem dX11_feed_19 : decode cX11_feed 19 = .ok (.ireturn, 1) := by decide +kernel
theorem dX11_feed_20 : decode cX11_feed 20 = .ok (.aload_n 0, 1) := by decide +kernel
theorem dX11_feed_21 : decode cX11_feed 21 = .ok (.getfield 51, 3) := by decide +kernel
theorem dX11_feed_24 : decode cX11_feed 24 = .ok (.getfield 129, 3) := by decide +kernel
theorem dX11_feed_27 : decode cX11_feed 27 = .ok (.iload_n 2, 1) := by decide +kernel
theorem dX11_feed_28 : decode cX11_feed 28 = .ok (.iadd, 1) := by decide +kernel
theorem dX11_feed_29 : decode cX11_feed 29 = .ok (.bipush 120, 2) := by decide +kernel
theorem dX11_feed_31 : decode cX11_feed 31 = .ok (.if_icmp .le 13, 3) := by decide +kernel
theorem dX11_feed_34 : decode cX11_feed 34 = .ok (.aload_n 0, 1) := by decide +kernel
theorem dX11_feed_35 : decode cX11_feed 35 = .ok (.getfield 12, 3) := by decide +kernel
theorem dX11_feed_38 : decode cX11_feed 38 = .ok (.ldc 99, 2) := by decide +kernel
theorem dX11_feed_40 : decode cX11_feed 40 = .ok (.invokevirtual 91, 3) := by decide +kernel
theorem dX11_feed_43 : decode cX11_feed 43 = .ok (.ireturn, 1) := by decide +kernel
theorem dX11_feed_44 : decode cX11_feed 44 = .ok (.aload_n 0, 1) := by decide +kernel
theorem dX11_feed_45 : decode cX11_feed 45 = .ok (.getfield 51, 3) := by decide +kernel
theorem dX11_feed_48 : decode cX11_feed 48 = .ok (.iload_n 1, 1) := by decide +kernel
theorem dX11_feed_49 : decode cX11_feed 49 = .ok (.iload_n 2, 1) := by decide +kernel
theorem dX11_feed_50 : decode cX11_feed 50 = .ok (.invokevirtual 134, 3) := by decide +kernel
theorem dX11_feed_53 : decode cX11_feed 53 = .ok (.ireturn, 1) := by decide +kernel
theorem dX11_wipe_0 : decode cX11_wipe 0 = .ok (.aload_n 0, 1) := by decide +kernel
theorem dX11_wipe_1 : decode cX11_wipe 1 = .ok (.getfield 51, 3) := by decide +kernel
theorem dX11_wipe_4 : decode cX11_wipe 4 = .ok (.invokevirtual 137, 3) := by decide +kernel
theorem dX11_wipe_7 : decode cX11_wipe 7 = .ok (.ireturn, 1) := by decide +kernel
theorem dX11_text_0 : decode cX11_text 0 = .ok (.aload_n 0, 1) := by decide +kernel
theorem dX11_text_1 : decode cX11_text 1 = .ok (.getfield 26, 3) := by decide +kernel
theorem dX11_text_4 : decode cX11_text 4 = .ok (.getfield 141, 3) := by decide +kernel
theorem dX11_text_7 : decode cX11_text 7 = .ok (.bipush 8, 2) := by decide +kernel
theorem dX11_text_9 : decode cX11_text 9 = .ok (.if_icmp .lt 13, 3) := by decide +kernel
theorem dX11_text_12 : decode cX11_text 12 = .ok (.aload_n 0, 1) := by decide +kernel
theorem dX11_text_13 : decode cX11_text 13 = .ok (.getfield 12, 3) := by decide +kernel
theorem dX11_text_16 : decode cX11_text 16 = .ok (.ldc 99, 2) := by decide +kernel
theorem dX11_text_18 : decode cX11_text 18 = .ok (.invokevirtual 91, 3) := by decide +kernel
theorem dX11_text_21 : decode cX11_text 21 = .ok (.ireturn, 1) := by decide +kernel
theorem dX11_text_22 : decode cX11_text 22 = .ok (.aload_n 0, 1) := by decide +kernel
theorem dX11_text_23 : decode cX11_text 23 = .ok (.getfield 43, 3) := by decide +kernel
theorem dX11_text_26 : decode cX11_text 26 = .ok (.invokevirtual 142, 3) := by decide +kernel
theorem dX11_text_29 : decode cX11_text 29 = .ok (.istore_n 1, 1) := by decide +kernel
theorem dX11_text_30 : decode cX11_text 30 = .ok (.iload_n 1, 1) := by decide +kernel
theorem dX11_text_31 : decode cX11_text 31 = .ok (.ifCond .lt 7, 3) := by decide +kernel
theorem dX11_text_34 : decode cX11_text 34 = .ok (.iconst (-1), 1) := by decide +kernel
theorem dX11_text_35 : decode cX11_text 35 = .ok (.iload_n 1, 1) := by decide +kernel
theorem dX11_text_36 : decode cX11_text 36 = .ok (.isub, 1) := by decide +kernel
theorem dX11_text_37 : decode cX11_text 37 = .ok (.ireturn, 1) := by decide +kernel
theorem dX11_text_38 : decode cX11_text 38 = .ok (.aload_n 0, 1) := by decide +kernel
theorem dX11_text_39 : decode cX11_text 39 = .ok (.getfield 51, 3) := by decide +kernel
theorem dX11_text_42 : decode cX11_text 42 = .ok (.invokevirtual 137, 3) := by decide +kernel
theorem dX11_text_45 : decode cX11_text 45 = .ok (.pop, 1) := by decide +kernel
theorem dX11_text_46 : decode cX11_text 46 = .ok (.aload_n 0, 1) := by decide +kernel
theorem dX11_text_47 : decode cX11_text 47 = .ok (.getfield 26, 3) := by decide +kernel
theorem dX11_text_50 : decode cX11_text 50 = .ok (.aload_n 0, 1) := by decide +kernel
theorem dX11_text_51 : decode cX11_text 51 = .ok (.getfield 43, 3) := by decide +kernel
theorem dX11_text_54 : decode cX11_text 54 = .ok (.getfield 145, 3) := by decide +kernel
theorem dX11_text_57 : decode cX11_text 57 = .ok (.aload_n 0, 1) := by decide +kernel
theorem dX11_text_58 : decode cX11_text 58 = .ok (.getfield 43, 3) := by decide +kernel
theorem dX11_text_61 : decode cX11_text 61 = .ok (.getfield 148, 3) := by decide +kernel
theorem dX11_text_64 : decode cX11_text 64 = .ok (.invokevirtual 149, 3) := by decide +kernel
theorem dX11_text_67 : decode cX11_text 67 = .ok (.ireturn, 1) := by decide +kernel
theorem dX11_use_0 : decode cX11_use 0 = .ok (.aload_n 0, 1) := by decide +kernel
theorem dX11_use_1 : decode cX11_use 1 = .ok (.getfield 26, 3) := by decide +kernel
theorem dX11_use_4 : decode cX11_use 4 = .ok (.iload_n 1, 1) := by decide +kernel
theorem dX11_use_5 : decode cX11_use 5 = .ok (.invokevirtual 152, 3) := by decide +kernel
theorem dX11_use_8 : decode cX11_use 8 = .ok (.ifCond .ne 13, 3) := by decide +kernel
theorem dX11_use_11 : decode cX11_use 11 = .ok (.aload_n 0, 1) := by decide +kernel
theorem dX11_use_12 : decode cX11_use 12 = .ok (.getfield 12, 3) := by decide +kernel
theorem dX11_use_15 : decode cX11_use 15 = .ok (.ldc 90, 2) := by decide +kernel
theorem dX11_use_17 : decode cX11_use 17 = .ok (.invokevirtual 91, 3) := by decide +kernel
theorem dX11_use_20 : decode cX11_use 20 = .ok (.ireturn, 1) := by decide +kernel
theorem dX11_use_21 : decode cX11_use 21 = .ok (.aload_n 0, 1) := by decide +kernel
theorem dX11_use_22 : decode cX11_use 22 = .ok (.getfield 26, 3) := by decide +kernel
theorem dX11_use_25 : decode cX11_use 25 = .ok (.iload_n 1, 1) := by decide +kernel
theorem dX11_use_26 : decode cX11_use 26 = .ok (.invokevirtual 153, 3) := by decide +kernel
theorem dX11_use_29 : decode cX11_use 29 = .ok (.ireturn, 1) := by decide +kernel
theorem dX11_may_0 : decode cX11_may 0 = .ok (.aload_n 0, 1) := by decide +kernel
theorem dX11_may_1 : decode cX11_may 1 = .ok (.getfield 26, 3) := by decide +kernel
theorem dX11_may_4 : decode cX11_may 4 = .ok (.iload_n 1, 1) := by decide +kernel
theorem dX11_may_5 : decode cX11_may 5 = .ok (.invokevirtual 152, 3) := by decide +kernel
theorem dX11_may_8 : decode cX11_may 8 = .ok (.ifCond .eq 14, 3) := by decide +kernel
theorem dX11_may_11 : decode cX11_may 11 = .ok (.aload_n 0, 1) := by decide +kernel
theorem dX11_may_12 : decode cX11_may 12 = .ok (.getfield 19, 3) := by decide +kernel
theorem dX11_may_15 : decode cX11_may 15 = .ok (.iload_n 2, 1) := by decide +kernel
theorem dX11_may_16 : decode cX11_may 16 = .ok (.invokevirtual 156, 3) := by decide +kernel
theorem dX11_may_19 : decode cX11_may 19 = .ok (.ifCond .ne 13, 3) := by decide +kernel
theorem dX11_may_22 : decode cX11_may 22 = .ok (.aload_n 0, 1) := by decide +kernel
theorem dX11_may_23 : decode cX11_may 23 = .ok (.getfield 12, 3) := by decide +kernel
theorem dX11_may_26 : decode cX11_may 26 = .ok (.ldc 90, 2) := by decide +kernel
theorem dX11_may_28 : decode cX11_may 28 = .ok (.invokevirtual 91, 3) := by decide +kernel
theorem dX11_may_31 : decode cX11_may 31 = .ok (.ireturn, 1) := by decide +kernel
theorem dX11_may_32 : decode cX11_may 32 = .ok (.aload_n 0, 1) := by decide +kernel
theorem dX11_may_33 : decode cX11_may 33 = .ok (.getfield 26, 3) := by decide +kernel
theorem dX11_may_36 : decode cX11_may 36 = .ok (.iload_n 1, 1) := by decide +kernel
theorem dX11_may_37 : decode cX11_may 37 = .ok (.iload_n 2, 1) := by decide +kernel
theorem dX11_may_38 : decode cX11_may 38 = .ok (.aload_n 0, 1) := by decide +kernel
theorem dX11_may_39 : decode cX11_may 39 = .ok (.getfield 19, 3) := by decide +kernel
theorem dX11_may_42 : decode cX11_may 42 = .ok (.invokevirtual 159, 3) := by decide +kernel
theorem dX11_may_45 : decode cX11_may 45 = .ok (.iand, 1) := by decide +kernel
theorem dX11_may_46 : decode cX11_may 46 = .ok (.aload_n 0, 1) := by decide +kernel
theorem dX11_may_47 : decode cX11_may 47 = .ok (.getfield 19, 3) := by decide +kernel
theorem dX11_may_50 : decode cX11_may 50 = .ok (.invokevirtual 162, 3) := by decide +kernel
theorem dX11_may_53 : decode cX11_may 53 = .ok (.ifCond .eq 7, 3) := by decide +kernel
theorem dX11_may_56 : decode cX11_may 56 = .ok (.iconst 1, 1) := by decide +kernel
theorem dX11_may_57 : decode cX11_may 57 = .ok (.goto 4, 3) := by decide +kernel
theorem dX11_may_60 : decode cX11_may 60 = .ok (.iconst 0, 1) := by decide +kernel
theorem dX11_may_61 : decode cX11_may 61 = .ok (.ireturn, 1) := by decide +kernel
theorem dX11_more_0 : decode cX11_more 0 = .ok (.aload_n 0, 1) := by decide +kernel
theorem dX11_more_1 : decode cX11_more 1 = .ok (.getfield 26, 3) := by decide +kernel
theorem dX11_more_4 : decode cX11_more 4 = .ok (.getfield 166, 3) := by decide +kernel
theorem dX11_more_7 : decode cX11_more 7 = .ok (.ifCond .ge 13, 3) := by decide +kernel
theorem dX11_more_10 : decode cX11_more 10 = .ok (.aload_n 0, 1) := by decide +kernel
theorem dX11_more_11 : decode cX11_more 11 = .ok (.getfield 12, 3) := by decide +kernel
theorem dX11_more_14 : decode cX11_more 14 = .ok (.ldc 169, 2) := by decide +kernel
theorem dX11_more_16 : decode cX11_more 16 = .ok (.invokevirtual 91, 3) := by decide +kernel
theorem dX11_more_19 : decode cX11_more 19 = .ok (.ireturn, 1) := by decide +kernel
theorem dX11_more_20 : decode cX11_more 20 = .ok (.aload_n 0, 1) := by decide +kernel
theorem dX11_more_21 : decode cX11_more 21 = .ok (.invokevirtual 170, 3) := by decide +kernel
theorem dX11_more_24 : decode cX11_more 24 = .ok (.invokevirtual 174, 3) := by decide +kernel
theorem dX11_more_27 : decode cX11_more 27 = .ok (.istore_n 1, 1) := by decide +kernel
theorem dX11_more_28 : decode cX11_more 28 = .ok (.iload_n 1, 1) := by decide +kernel
theorem dX11_more_29 : decode cX11_more 29 = .ok (.ifCond .ge 15, 3) := by decide +kernel
theorem dX11_more_32 : decode cX11_more 32 = .ok (.aload_n 0, 1) := by decide +kernel
theorem dX11_more_33 : decode cX11_more 33 = .ok (.getfield 12, 3) := by decide +kernel
theorem dX11_more_36 : decode cX11_more 36 = .ok (.ldc 177, 2) := by decide +kernel
theorem dX11_more_38 : decode cX11_more 38 = .ok (.invokevirtual 91, 3) := by decide +kernel
theorem dX11_more_41 : decode cX11_more 41 = .ok (.goto 4, 3) := by decide +kernel
theorem dX11_more_44 : decode cX11_more 44 = .ok (.iload_n 1, 1) := by decide +kernel
theorem dX11_more_45 : decode cX11_more 45 = .ok (.ireturn, 1) := by decide +kernel
theorem dX11_least_0 : decode cX11_least 0 = .ok (.aload_n 0, 1) := by decide +kernel
theorem dX11_least_1 : decode cX11_least 1 = .ok (.iload_n 1, 1) := by decide +kernel
theorem dX11_least_2 : decode cX11_least 2 = .ok (.iconst 0, 1) := by decide +kernel
theorem dX11_least_3 : decode cX11_least 3 = .ok (.invokevirtual 178, 3) := by decide +kernel
theorem dX11_least_6 : decode cX11_least 6 = .ok (.ireturn, 1) := by decide +kernel
theorem dX11_most_0 : decode cX11_most 0 = .ok (.aload_n 0, 1) := by decide +kernel
theorem dX11_most_1 : decode cX11_most 1 = .ok (.iload_n 1, 1) := by decide +kernel
theorem dX11_most_2 : decode cX11_most 2 = .ok (.iconst 1, 1) := by decide +kernel
theorem dX11_most_3 : decode cX11_most 3 = .ok (.invokevirtual 178, 3) := by decide +kernel
theorem dX11_most_6 : decode cX11_most 6 = .ok (.ireturn, 1) := by decide +kernel
theorem dX11_lock_0 : decode cX11_lock 0 = .ok (.iload_n 1, 1) := by decide +kernel
theorem dX11_lock_1 : decode cX11_lock 1 = .ok (.invokestatic 182, 3) := by decide +kernel
theorem dX11_lock_4 : decode cX11_lock 4 = .ok (.ifCond .ne 13, 3) := by decide +kernel
theorem dX11_lock_7 : decode cX11_lock 7 = .ok (.aload_n 0, 1) := by decide +kernel
theorem dX11_lock_8 : decode cX11_lock 8 = .ok (.getfield 12, 3) := by decide +kernel
theorem dX11_lock_11 : decode cX11_lock 11 = .ok (.ldc 90, 2) := by decide +kernel
theorem dX11_lock_13 : decode cX11_lock 13 = .ok (.invokevirtual 91, 3) := by decide +kernel
theorem dX11_lock_16 : decode cX11_lock 16 = .ok (.ireturn, 1) := by decide +kernel
theorem dX11_lock_17 : decode cX11_lock 17 = .ok (.aload_n 0, 1) := by decide +kernel
theorem dX11_lock_18 : decode cX11_lock 18 = .ok (.getfield 33, 3) := by decide +kernel
theorem dX11_lock_21 : decode cX11_lock 21 = .ok (.iconst 1, 1) := by decide +kernel
theorem dX11_lock_22 : decode cX11_lock 22 = .ok (.invokevirtual 185, 3) := by decide +kernel
theorem dX11_lock_25 : decode cX11_lock 25 = .ok (.ifCond .ne 13, 3) := by decide +kernel
theorem dX11_lock_28 : decode cX11_lock 28 = .ok (.aload_n 0, 1) := by decide +kernel
theorem dX11_lock_29 : decode cX11_lock 29 = .ok (.getfield 12, 3) := by decide +kernel
theorem dX11_lock_32 : decode cX11_lock 32 = .ok (.ldc 99, 2) := by decide +kernel
theorem dX11_lock_34 : decode cX11_lock 34 = .ok (.invokevirtual 91, 3) := by decide +kernel
theorem dX11_lock_37 : decode cX11_lock 37 = .ok (.ireturn, 1) := by decide +kernel
theorem dX11_lock_38 : decode cX11_lock 38 = .ok (.aload_n 0, 1) := by decide +kernel
theorem dX11_lock_39 : decode cX11_lock 39 = .ok (.getfield 33, 3) := by decide +kernel
theorem dX11_lock_42 : decode cX11_lock 42 = .ok (.iload_n 1, 1) := by decide +kernel
theorem dX11_lock_43 : decode cX11_lock 43 = .ok (.iload_n 2, 1) := by decide +kernel
theorem dX11_lock_44 : decode cX11_lock 44 = .ok (.invokevirtual 188, 3) := by decide +kernel
theorem dX11_lock_47 : decode cX11_lock 47 = .ok (.ireturn, 1) := by decide +kernel
theorem dX11_chain_0 : decode cX11_chain 0 = .ok (.aload_n 0, 1) := by decide +kernel
theorem dX11_chain_1 : decode cX11_chain 1 = .ok (.getfield 33, 3) := by decide +kernel
theorem dX11_chain_4 : decode cX11_chain 4 = .ok (.iload_n 1, 1) := by decide +kernel
theorem dX11_chain_5 : decode cX11_chain 5 = .ok (.invokevirtual 191, 3) := by decide +kernel
theorem dX11_chain_8 : decode cX11_chain 8 = .ok (.ifCond .eq 14, 3) := by decide +kernel
theorem dX11_chain_11 : decode cX11_chain 11 = .ok (.aload_n 0, 1) := by decide +kernel
theorem dX11_chain_12 : decode cX11_chain 12 = .ok (.getfield 33, 3) := by decide +kernel
theorem dX11_chain_15 : decode cX11_chain 15 = .ok (.iload_n 2, 1) := by decide +kernel
theorem dX11_chain_16 : decode cX11_chain 16 = .ok (.invokevirtual 191, 3) := by decide +kernel
theorem dX11_chain_19 : decode cX11_chain 19 = .ok (.ifCond .ne 13, 3) := by decide +kernel
theorem dX11_chain_22 : decode cX11_chain 22 = .ok (.aload_n 0, 1) := by decide +kernel
theorem dX11_chain_23 : decode cX11_chain 23 = .ok (.getfield 12, 3) := by decide +kernel
theorem dX11_chain_26 : decode cX11_chain 26 = .ok (.ldc 90, 2) := by decide +kernel
theorem dX11_chain_28 : decode cX11_chain 28 = .ok (.invokevirtual 91, 3) := by decide +kernel
theorem dX11_chain_31 : decode cX11_chain 31 = .ok (.ireturn, 1) := by decide +kernel
theorem dX11_chain_32 : decode cX11_chain 32 = .ok (.aload_n 0, 1) := by decide +kernel
theorem dX11_chain_33 : decode cX11_chain 33 = .ok (.getfield 33, 3) := by decide +kernel
theorem dX11_chain_36 : decode cX11_chain 36 = .ok (.iconst 1, 1) := by decide +kernel
theorem dX11_chain_37 : decode cX11_chain 37 = .ok (.invokevirtual 185, 3) := by decide +kernel
theorem dX11_chain_40 : decode cX11_chain 40 = .ok (.ifCond .ne 13, 3) := by decide +kernel
theorem dX11_chain_43 : decode cX11_chain 43 = .ok (.aload_n 0, 1) := by decide +kernel
theorem dX11_chain_44 : decode cX11_chain 44 = .ok (.getfield 12, 3) := by decide +kernel
theorem dX11_chain_47 : decode cX11_chain 47 = .ok (.ldc 99, 2) := by decide +kernel
theorem dX11_chain_49 : decode cX11_chain 49 = .ok (.invokevirtual 91, 3) := by decide +kernel
theorem dX11_chain_52 : decode cX11_chain 52 = .ok (.ireturn, 1) := by decide +kernel
theorem dX11_chain_53 : decode cX11_chain 53 = .ok (.aload_n 0, 1) := by decide +kernel
theorem dX11_chain_54 : decode cX11_chain 54 = .ok (.getfield 33, 3) := by decide +kernel
theorem dX11_chain_57 : decode cX11_chain 57 = .ok (.iload_n 1, 1) := by decide +kernel
theorem dX11_chain_58 : decode cX11_chain 58 = .ok (.iload_n 2, 1) := by decide +kernel
theorem dX11_chain_59 : decode cX11_chain 59 = .ok (.iload_n 3, 1) := by decide +kernel
theorem dX11_chain_60 : decode cX11_chain 60 = .ok (.invokevirtual 192, 3) := by decide +kernel
theorem dX11_chain_63 : decode cX11_chain 63 = .ok (.ireturn, 1) := by decide +kernel
theorem dX11_box_0 : decode cX11_box 0 = .ok (.aload_n 0, 1) := by decide +kernel
theorem dX11_box_1 : decode cX11_box 1 = .ok (.getfield 33, 3) := by decide +kernel
theorem dX11_box_4 : decode cX11_box 4 = .ok (.iload_n 1, 1) := by decide +kernel
theorem dX11_box_5 : decode cX11_box 5 = .ok (.invokevirtual 191, 3) := by decide +kernel
theorem dX11_box_8 : decode cX11_box 8 = .ok (.ifCond .eq 10, 3) := by decide +kernel
theorem dX11_box_11 : decode cX11_box 11 = .ok (.iload_n 2, 1) := by decide +kernel
theorem dX11_box_12 : decode cX11_box 12 = .ok (.invokestatic 182, 3) := by decide +kernel
theorem dX11_box_15 : decode cX11_box 15 = .ok (.ifCond .ne 13, 3) := by decide +kernel
theorem dX11_box_18 : decode cX11_box 18 = .ok (.aload_n 0, 1) := by decide +kernel
theorem dX11_box_19 : decode cX11_box 19 = .ok (.getfield 12, 3) := by decide +kernel
theorem dX11_box_22 : decode cX11_box 22 = .ok (.ldc 90, 2) := by decide +kernel
theorem dX11_box_24 : decode cX11_box 24 = .ok (.invokevirtual 91, 3) := by decide +kernel
theorem dX11_box_27 : decode cX11_box 27 = .ok (.ireturn, 1) := by decide +kernel
theorem dX11_box_28 : decode cX11_box 28 = .ok (.aload_n 0, 1) := by decide +kernel
theorem dX11_box_29 : decode cX11_box 29 = .ok (.getfield 33, 3) := by decide +kernel
theorem dX11_box_32 : decode cX11_box 32 = .ok (.iconst 1, 1) := by decide +kernel
theorem dX11_box_33 : decode cX11_box 33 = .ok (.invokevirtual 185, 3) := by decide +kernel
theorem dX11_box_36 : decode cX11_box 36 = .ok (.ifCond .ne 13, 3) := by decide +kernel
theorem dX11_box_39 : decode cX11_box 39 = .ok (.aload_n 0, 1) := by decide +kernel
theorem dX11_box_40 : decode cX11_box 40 = .ok (.getfield 12, 3) := by decide +kernel
theorem dX11_box_43 : decode cX11_box 43 = .ok (.ldc 99, 2) := by decide +kernel
theorem dX11_box_45 : decode cX11_box 45 = .ok (.invokevirtual 91, 3) := by decide +kernel
theorem dX11_box_48 : decode cX11_box 48 = .ok (.ireturn, 1) := by decide +kernel
theorem dX11_box_49 : decode cX11_box 49 = .ok (.aload_n 0, 1) := by decide +kernel
theorem dX11_box_50 : decode cX11_box 50 = .ok (.getfield 33, 3) := by decide +kernel
theorem dX11_box_53 : decode cX11_box 53 = .ok (.iload_n 1, 1) := by decide +kernel
theorem dX11_box_54 : decode cX11_box 54 = .ok (.iload_n 2, 1) := by decide +kernel
theorem dX11_box_55 : decode cX11_box 55 = .ok (.invokevirtual 196, 3) := by decide +kernel
theorem dX11_box_58 : decode cX11_box 58 = .ok (.ireturn, 1) := by decide +kernel
theorem dX11_hanging_0 : decode cX11_hanging 0 = .ok (.aload_n 0, 1) := by decide +kernel
theorem dX11_hanging_1 : decode cX11_hanging 1 = .ok (.getfield 33, 3) := by decide +kernel
theorem dX11_hanging_4 : decode cX11_hanging 4 = .ok (.iload_n 1, 1) := by decide +kernel
theorem dX11_hanging_5 : decode cX11_hanging 5 = .ok (.invokevirtual 191, 3) := by decide +kernel
theorem dX11_hanging_8 : decode cX11_hanging 8 = .ok (.ifCond .ne 13, 3) := by decide +kernel
theorem dX11_hanging_11 : decode cX11_hanging 11 = .ok (.aload_n 0, 1) := by decide +kernel
theorem dX11_hanging_12 : decode cX11_hanging 12 = .ok (.getfield 12, 3) := by decide +kernel
theorem dX11_hanging_15 : decode cX11_hanging 15 = .ok (.ldc 90, 2) := by decide +kernel
theorem dX11_hanging_17 : decode cX11_hanging 17 = .ok (.invokevirtual 91, 3) := by decide +kernel
theorem dX11_hanging_20 : decode cX11_hanging 20 = .ok (.ireturn, 1) := by decide +kernel
theorem dX11_hanging_21 : decode cX11_hanging 21 = .ok (.iload_n 2, 1) := by decide +kernel
theorem dX11_hanging_22 : decode cX11_hanging 22 = .ok (.tableswitch 170 0 5 #[38, 48, 82, 116, 150, 160], 38) := by decide +kernel
theorem dX11_hanging_60 : decode cX11_hanging 60 = .ok (.aload_n 0, 1) := by decide +kernel
theorem dX11_hanging_61 : decode cX11_hanging 61 = .ok (.getfield 33, 3) := by decide +kernel
theorem dX11_hanging_64 : decode cX11_hanging 64 = .ok (.getfield 199, 3) := by decide +kernel
theorem dX11_hanging_67 : decode cX11_hanging 67 = .ok (.iload_n 1, 1) := by decide +kernel
theorem dX11_hanging_68 : decode cX11_hanging 68 = .ok (.iaload, 1) := by decide +kernel
theorem dX11_hanging_69 : decode cX11_hanging 69 = .ok (.ireturn, 1) := by decide +kernel
theorem dX11_hanging_70 : decode cX11_hanging 70 = .ok (.aload_n 0, 1) := by decide +kernel
theorem dX11_hanging_71 : decode cX11_hanging 71 = .ok (.getfield 33, 3) := by decide +kernel
theorem dX11_hanging_74 : decode cX11_hanging 74 = .ok (.iload_n 1, 1) := by decide +kernel
theorem dX11_hanging_75 : decode cX11_hanging 75 = .ok (.iconst 2, 1) := by decide +kernel
theorem dX11_hanging_76 : decode cX11_hanging 76 = .ok (.invokevirtual 202, 3) := by decide +kernel
theorem dX11_hanging_79 : decode cX11_hanging 79 = .ok (.ifCond .eq 15, 3) := by decide +kernel
theorem dX11_hanging_82 : decode cX11_hanging 82 = .ok (.aload_n 0, 1) := by decide +kernel
theorem dX11_hanging_83 : decode cX11_hanging 83 = .ok (.getfield 12, 3) := by decide +kernel
theorem dX11_hanging_86 : decode cX11_hanging 86 = .ok (.ldc 206, 2) := by decide +kernel
theorem dX11_hanging_88 : decode cX11_hanging 88 = .ok (.invokevirtual 91, 3) := by decide +kernel
theorem dX11_hanging_91 : decode cX11_hanging 91 = .ok (.goto 12, 3) := by decide +kernel
theorem dX11_hanging_94 : decode cX11_hanging 94 = .ok (.aload_n 0, 1) := by decide +kernel
theorem dX11_hanging_95 : decode cX11_hanging 95 = .ok (.getfield 33, 3) := by decide +kernel
theorem dX11_hanging_98 : decode cX11_hanging 98 = .ok (.getfield 207, 3) := by decide +kernel
theorem dX11_hanging_101 : decode cX11_hanging 101 = .ok (.iload_n 1, 1) := by decide +kernel
theorem dX11_hanging_102 : decode cX11_hanging 102 = .ok (.iaload, 1) := by decide +kernel
theorem dX11_hanging_103 : decode cX11_hanging 103 = .ok (.ireturn, 1) := by decide +kernel
theorem dX11_hanging_104 : decode cX11_hanging 104 = .ok (.aload_n 0, 1) := by decide +kernel
theorem dX11_hanging_105 : decode cX11_hanging 105 = .ok (.getfield 33, 3) := by decide +kernel
theorem dX11_hanging_108 : decode cX11_hanging 108 = .ok (.iload_n 1, 1) := by decide +kernel
theorem dX11_hanging_109 : decode cX11_hanging 109 = .ok (.iconst 1, 1) := by decide +kernel
theorem dX11_hanging_110 : decode cX11_hanging 110 = .ok (.invokevirtual 202, 3) := by decide +kernel
theorem dX11_hanging_113 : decode cX11_hanging 113 = .ok (.ifCond .eq 15, 3) := by decide +kernel
theorem dX11_hanging_116 : decode cX11_hanging 116 = .ok (.aload_n 0, 1) := by decide +kernel
theorem dX11_hanging_117 : decode cX11_hanging 117 = .ok (.getfield 12, 3) := by decide +kernel
theorem dX11_hanging_120 : decode cX11_hanging 120 = .ok (.ldc 206, 2) := by decide +kernel
theorem dX11_hanging_122 : decode cX11_hanging 122 = .ok (.invokevirtual 91, 3) := by decide +kernel
theorem dX11_hanging_125 : decode cX11_hanging 125 = .ok (.goto 12, 3) := by decide +kernel
theorem dX11_hanging_128 : decode cX11_hanging 128 = .ok (.aload_n 0, 1) := by decide +kernel
theorem dX11_hanging_129 : decode cX11_hanging 129 = .ok (.getfield 33, 3) := by decide +kernel
theorem dX11_hanging_132 : decode cX11_hanging 132 = .ok (.getfield 210, 3) := by decide +kernel
theorem dX11_hanging_135 : decode cX11_hanging 135 = .ok (.iload_n 1, 1) := by decide +kernel
theorem dX11_hanging_136 : decode cX11_hanging 136 = .ok (.iaload, 1) := by decide +kernel
theorem dX11_hanging_137 : decode cX11_hanging 137 = .ok (.ireturn, 1) := by decide +kernel
theorem dX11_hanging_138 : decode cX11_hanging 138 = .ok (.aload_n 0, 1) := by decide +kernel
theorem dX11_hanging_139 : decode cX11_hanging 139 = .ok (.getfield 33, 3) := by decide +kernel
theorem dX11_hanging_142 : decode cX11_hanging 142 = .ok (.iload_n 1, 1) := by decide +kernel
theorem dX11_hanging_143 : decode cX11_hanging 143 = .ok (.iconst 2, 1) := by decide +kernel
theorem dX11_hanging_144 : decode cX11_hanging 144 = .ok (.invokevirtual 202, 3) := by decide +kernel
theorem dX11_hanging_147 : decode cX11_hanging 147 = .ok (.ifCond .eq 15, 3) := by decide +kernel
theorem dX11_hanging_150 : decode cX11_hanging 150 = .ok (.aload_n 0, 1) := by decide +kernel
theorem dX11_hanging_151 : decode cX11_hanging 151 = .ok (.getfield 33, 3) := by decide +kernel
theorem dX11_hanging_154 : decode cX11_hanging 154 = .ok (.getfield 213, 3) := by decide +kernel
theorem dX11_hanging_157 : decode cX11_hanging 157 = .ok (.iload_n 1, 1) := by decide +kernel
theorem dX11_hanging_158 : decode cX11_hanging 158 = .ok (.iaload, 1) := by decide +kernel
theorem dX11_hanging_159 : decode cX11_hanging 159 = .ok (.goto 12, 3) := by decide +kernel
theorem dX11_hanging_162 : decode cX11_hanging 162 = .ok (.aload_n 0, 1) := by decide +kernel
theorem dX11_hanging_163 : decode cX11_hanging 163 = .ok (.getfield 12, 3) := by decide +kernel
theorem dX11_hanging_166 : decode cX11_hanging 166 = .ok (.ldc 206, 2) := by decide +kernel
theorem dX11_hanging_168 : decode cX11_hanging 168 = .ok (.invokevirtual 91, 3) := by decide +kernel
theorem dX11_hanging_171 : decode cX11_hanging 171 = .ok (.ireturn, 1) := by decide +kernel
theorem dX11_hanging_172 : decode cX11_hanging 172 = .ok (.aload_n 0, 1) := by decide +kernel
theorem dX11_hanging_173 : decode cX11_hanging 173 = .ok (.getfield 33, 3) := by decide +kernel
theorem dX11_hanging_176 : decode cX11_hanging 176 = .ok (.getfield 216, 3) := by decide +kernel
theorem dX11_hanging_179 : decode cX11_hanging 179 = .ok (.iload_n 1, 1) := by decide +kernel
theorem dX11_hanging_180 : decode cX11_hanging 180 = .ok (.iaload, 1) := by decide +kernel
theorem dX11_hanging_181 : decode cX11_hanging 181 = .ok (.ireturn, 1) := by decide +kernel
theorem dX11_hanging_182 : decode cX11_hanging 182 = .ok (.aload_n 0, 1) := by decide +kernel
theorem dX11_hanging_183 : decode cX11_hanging 183 = .ok (.getfield 33, 3) := by decide +kernel
theorem dX11_hanging_186 : decode cX11_hanging 186 = .ok (.getfield 219, 3) := by decide +kernel
theorem dX11_hanging_189 : decode cX11_hanging 189 = .ok (.iload_n 1, 1) := by decide +kernel
theorem dX11_hanging_190 : decode cX11_hanging 190 = .ok (.iaload, 1) := by decide +kernel
theorem dX11_hanging_191 : decode cX11_hanging 191 = .ok (.ireturn, 1) := by decide +kernel
theorem dX11_hanging_192 : decode cX11_hanging 192 = .ok (.aload_n 0, 1) := by decide +kernel
theorem dX11_hanging_193 : decode cX11_hanging 193 = .ok (.getfield 12, 3) := by decide +kernel
theorem dX11_hanging_196 : decode cX11_hanging 196 = .ok (.ldc 90, 2) := by decide +kernel
theorem dX11_hanging_198 : decode cX11_hanging 198 = .ok (.invokevirtual 91, 3) := by decide +kernel
theorem dX11_hanging_201 : decode cX11_hanging 201 = .ok (.ireturn, 1) := by decide +kernel
theorem dX11_as_0 : decode cX11_as 0 = .ok (.aload_n 0, 1) := by decide +kernel
theorem dX11_as_1 : decode cX11_as 1 = .ok (.getfield 33, 3) := by decide +kernel
theorem dX11_as_4 : decode cX11_as 4 = .ok (.iload_n 1, 1) := by decide +kernel
theorem dX11_as_5 : decode cX11_as 5 = .ok (.invokevirtual 191, 3) := by decide +kernel
theorem dX11_as_8 : decode cX11_as 8 = .ok (.ifCond .eq 12, 3) := by decide +kernel
theorem dX11_as_11 : decode cX11_as 11 = .ok (.iload_n 2, 1) := by decide +kernel
theorem dX11_as_12 : decode cX11_as 12 = .ok (.ifCond .lt 8, 3) := by decide +kernel
theorem dX11_as_15 : decode cX11_as 15 = .ok (.iload_n 2, 1) := by decide +kernel
theorem dX11_as_16 : decode cX11_as 16 = .ok (.iconst 5, 1) := by decide +kernel
theorem dX11_as_17 : decode cX11_as 17 = .ok (.if_icmp .le 13, 3) := by decide +kernel
theorem dX11_as_20 : decode cX11_as 20 = .ok (.aload_n 0, 1) := by decide +kernel
theorem dX11_as_21 : decode cX11_as 21 = .ok (.getfield 12, 3) := by decide +kernel
theorem dX11_as_24 : decode cX11_as 24 = .ok (.ldc 90, 2) := by decide +kernel
theorem dX11_as_26 : decode cX11_as 26 = .ok (.invokevirtual 91, 3) := by decide +kernel
theorem dX11_as_29 : decode cX11_as 29 = .ok (.ireturn, 1) := by decide +kernel
theorem dX11_as_30 : decode cX11_as 30 = .ok (.aload_n 0, 1) := by decide +kernel
theorem dX11_as_31 : decode cX11_as 31 = .ok (.getfield 33, 3) := by decide +kernel
theorem dX11_as_34 : decode cX11_as 34 = .ok (.iload_n 1, 1) := by decide +kernel
theorem dX11_as_35 : decode cX11_as 35 = .ok (.iload_n 2, 1) := by decide +kernel
theorem dX11_as_36 : decode cX11_as 36 = .ok (.invokevirtual 202, 3) := by decide +kernel
theorem dX11_as_39 : decode cX11_as 39 = .ok (.ifCond .eq 7, 3) := by decide +kernel
theorem dX11_as_42 : decode cX11_as 42 = .ok (.iload_n 1, 1) := by decide +kernel
theorem dX11_as_43 : decode cX11_as 43 = .ok (.goto 12, 3) := by decide +kernel
theorem dX11_as_46 : decode cX11_as 46 = .ok (.aload_n 0, 1) := by decide +kernel
theorem dX11_as_47 : decode cX11_as 47 = .ok (.getfield 12, 3) := by decide +kernel
theorem dX11_as_50 : decode cX11_as 50 = .ok (.ldc 206, 2) := by decide +kernel
theorem dX11_as_52 : decode cX11_as 52 = .ok (.invokevirtual 91, 3) := by decide +kernel
theorem dX11_as_55 : decode cX11_as 55 = .ok (.ireturn, 1) := by decide +kernel
theorem dX11_key_0 : decode cX11_key 0 = .ok (.aload_n 0, 1) := by decide +kernel
theorem dX11_key_1 : decode cX11_key 1 = .ok (.getfield 19, 3) := by decide +kernel
theorem dX11_key_4 : decode cX11_key 4 = .ok (.iload_n 1, 1) := by decide +kernel
theorem dX11_key_5 : decode cX11_key 5 = .ok (.invokevirtual 103, 3) := by decide +kernel
theorem dX11_key_8 : decode cX11_key 8 = .ok (.ifCond .eq 10, 3) := by decide +kernel
theorem dX11_key_11 : decode cX11_key 11 = .ok (.iload_n 2, 1) := by decide +kernel
theorem dX11_key_12 : decode cX11_key 12 = .ok (.invokestatic 182, 3) := by decide +kernel
theorem dX11_key_15 : decode cX11_key 15 = .ok (.ifCond .ne 13, 3) := by decide +kernel
theorem dX11_key_18 : decode cX11_key 18 = .ok (.aload_n 0, 1) := by decide +kernel
theorem dX11_key_19 : decode cX11_key 19 = .ok (.getfield 12, 3) := by decide +kernel
theorem dX11_key_22 : decode cX11_key 22 = .ok (.ldc 90, 2) := by decide +kernel
theorem dX11_key_24 : decode cX11_key 24 = .ok (.invokevirtual 91, 3) := by decide +kernel
theorem dX11_key_27 : decode cX11_key 27 = .ok (.ireturn, 1) := by decide +kernel
theorem dX11_key_28 : decode cX11_key 28 = .ok (.aload_n 0, 1) := by decide +kernel
theorem dX11_key_29 : decode cX11_key 29 = .ok (.getfield 19, 3) := by decide +kernel
theorem dX11_key_32 : decode cX11_key 32 = .ok (.iload_n 1, 1) := by decide +kernel
theorem dX11_key_33 : decode cX11_key 33 = .ok (.iload_n 2, 1) := by decide +kernel
theorem dX11_key_34 : decode cX11_key 34 = .ok (.iload_n 3, 1) := by decide +kernel
theorem dX11_key_35 : decode cX11_key 35 = .ok (.invokevirtual 222, 3) := by decide +kernel
theorem dX11_key_38 : decode cX11_key 38 = .ok (.ifCond .eq 7, 3) := by decide +kernel
theorem dX11_key_41 : decode cX11_key 41 = .ok (.iconst 1, 1) := by decide +kernel
theorem dX11_key_42 : decode cX11_key 42 = .ok (.goto 4, 3) := by decide +kernel
theorem dX11_key_45 : decode cX11_key 45 = .ok (.iconst 0, 1) := by decide +kernel
theorem dX11_key_46 : decode cX11_key 46 = .ok (.ireturn, 1) := by decide +kernel
theorem dX11_lend_0 : decode cX11_lend 0 = .ok (.aload_n 0, 1) := by decide +kernel
theorem dX11_lend_1 : decode cX11_lend 1 = .ok (.getfield 19, 3) := by decide +kernel
theorem dX11_lend_4 : decode cX11_lend 4 = .ok (.iload_n 1, 1) := by decide +kernel
theorem dX11_lend_5 : decode cX11_lend 5 = .ok (.invokevirtual 103, 3) := by decide +kernel
theorem dX11_lend_8 : decode cX11_lend 8 = .ok (.ifCond .eq 26, 3) := by decide +kernel
theorem dX11_lend_11 : decode cX11_lend 11 = .ok (.aload_n 0, 1) := by decide +kernel
theorem dX11_lend_12 : decode cX11_lend 12 = .ok (.getfield 19, 3) := by decide +kernel
theorem dX11_lend_15 : decode cX11_lend 15 = .ok (.iload_n 2, 1) := by decide +kernel
theorem dX11_lend_16 : decode cX11_lend 16 = .ok (.invokevirtual 103, 3) := by decide +kernel
theorem dX11_lend_19 : decode cX11_lend 19 = .ok (.ifCond .eq 15, 3) := by decide +kernel
theorem dX11_lend_22 : decode cX11_lend 22 = .ok (.iload_n 1, 1) := by decide +kernel
theorem dX11_lend_23 : decode cX11_lend 23 = .ok (.iload_n 2, 1) := by decide +kernel
theorem dX11_lend_24 : decode cX11_lend 24 = .ok (.if_icmp .eq 10, 3) := by decide +kernel
theorem dX11_lend_27 : decode cX11_lend 27 = .ok (.iload_n 3, 1) := by decide +kernel
theorem dX11_lend_28 : decode cX11_lend 28 = .ok (.invokestatic 182, 3) := by decide +kernel
theorem dX11_lend_31 : decode cX11_lend 31 = .ok (.ifCond .ne 13, 3) := by decide +kernel
theorem dX11_lend_34 : decode cX11_lend 34 = .ok (.aload_n 0, 1) := by decide +kernel
theorem dX11_lend_35 : decode cX11_lend 35 = .ok (.getfield 12, 3) := by decide +kernel
theorem dX11_lend_38 : decode cX11_lend 38 = .ok (.ldc 90, 2) := by decide +kernel
theorem dX11_lend_40 : decode cX11_lend 40 = .ok (.invokevirtual 91, 3) := by decide +kernel
theorem dX11_lend_43 : decode cX11_lend 43 = .ok (.ireturn, 1) := by decide +kernel
theorem dX11_lend_44 : decode cX11_lend 44 = .ok (.aload_n 0, 1) := by decide +kernel
theorem dX11_lend_45 : decode cX11_lend 45 = .ok (.getfield 19, 3) := by decide +kernel
theorem dX11_lend_48 : decode cX11_lend 48 = .ok (.iload_n 1, 1) := by decide +kernel
theorem dX11_lend_49 : decode cX11_lend 49 = .ok (.iload_n 3, 1) := by decide +kernel
theorem dX11_lend_50 : decode cX11_lend 50 = .ok (.invokevirtual 226, 3) := by decide +kernel
theorem dX11_lend_53 : decode cX11_lend 53 = .ok (.ifCond .ne 13, 3) := by decide +kernel
theorem dX11_lend_56 : decode cX11_lend 56 = .ok (.aload_n 0, 1) := by decide +kernel
theorem dX11_lend_57 : decode cX11_lend 57 = .ok (.getfield 12, 3) := by decide +kernel
theorem dX11_lend_60 : decode cX11_lend 60 = .ok (.ldc 177, 2) := by decide +kernel
theorem dX11_lend_62 : decode cX11_lend 62 = .ok (.invokevirtual 91, 3) := by decide +kernel
theorem dX11_lend_65 : decode cX11_lend 65 = .ok (.ireturn, 1) := by decide +kernel
theorem dX11_lend_66 : decode cX11_lend 66 = .ok (.aload_n 0, 1) := by decide +kernel
theorem dX11_lend_67 : decode cX11_lend 67 = .ok (.getfield 19, 3) := by decide +kernel
theorem dX11_lend_70 : decode cX11_lend 70 = .ok (.getfield 229, 3) := by decide +kernel
theorem dX11_lend_73 : decode cX11_lend 73 = .ok (.bipush 20, 2) := by decide +kernel
theorem dX11_lend_75 : decode cX11_lend 75 = .ok (.if_icmp .lt 13, 3) := by decide +kernel
theorem dX11_lend_78 : decode cX11_lend 78 = .ok (.aload_n 0, 1) := by decide +kernel
theorem dX11_lend_79 : decode cX11_lend 79 = .ok (.getfield 12, 3) := by decide +kernel
theorem dX11_lend_82 : decode cX11_lend 82 = .ok (.ldc 99, 2) := by decide +kernel
theorem dX11_lend_84 : decode cX11_lend 84 = .ok (.invokevirtual 91, 3) := by decide +kernel
theorem dX11_lend_87 : decode cX11_lend 87 = .ok (.ireturn, 1) := by decide +kernel
theorem dX11_lend_88 : decode cX11_lend 88 = .ok (.aload_n 0, 1) := by decide +kernel
theorem dX11_lend_89 : decode cX11_lend 89 = .ok (.getfield 19, 3) := by decide +kernel
theorem dX11_lend_92 : decode cX11_lend 92 = .ok (.iload_n 2, 1) := by decide +kernel
theorem dX11_lend_93 : decode cX11_lend 93 = .ok (.iload_n 3, 1) := by decide +kernel
theorem dX11_lend_94 : decode cX11_lend 94 = .ok (.invokevirtual 232, 3) := by decide +kernel
theorem dX11_lend_97 : decode cX11_lend 97 = .ok (.ireturn, 1) := by decide +kernel
theorem dX11_opens_0 : decode cX11_opens 0 = .ok (.aload_n 0, 1) := by decide +kernel
theorem dX11_opens_1 : decode cX11_opens 1 = .ok (.getfield 33, 3) := by decide +kernel
theorem dX11_opens_4 : decode cX11_opens 4 = .ok (.iload_n 1, 1) := by decide +kernel
theorem dX11_opens_5 : decode cX11_opens 5 = .ok (.invokevirtual 191, 3) := by decide +kernel
theorem dX11_opens_8 : decode cX11_opens 8 = .ok (.ifCond .eq 14, 3) := by decide +kernel
theorem dX11_opens_11 : decode cX11_opens 11 = .ok (.aload_n 0, 1) := by decide +kernel
theorem dX11_opens_12 : decode cX11_opens 12 = .ok (.getfield 19, 3) := by decide +kernel
theorem dX11_opens_15 : decode cX11_opens 15 = .ok (.iload_n 2, 1) := by decide +kernel
theorem dX11_opens_16 : decode cX11_opens 16 = .ok (.invokevirtual 156, 3) := by decide +kernel
theorem dX11_opens_19 : decode cX11_opens 19 = .ok (.ifCond .ne 13, 3) := by decide +kernel
theorem dX11_opens_22 : decode cX11_opens 22 = .ok (.aload_n 0, 1) := by decide +kernel
theorem dX11_opens_23 : decode cX11_opens 23 = .ok (.getfield 12, 3) := by decide +kernel
theorem dX11_opens_26 : decode cX11_opens 26 = .ok (.ldc 90, 2) := by decide +kernel
theorem dX11_opens_28 : decode cX11_opens 28 = .ok (.invokevirtual 91, 3) := by decide +kernel
theorem dX11_opens_31 : decode cX11_opens 31 = .ok (.ireturn, 1) := by decide +kernel
theorem dX11_opens_32 : decode cX11_opens 32 = .ok (.aload_n 0, 1) := by decide +kernel
theorem dX11_opens_33 : decode cX11_opens 33 = .ok (.getfield 33, 3) := by decide +kernel
theorem dX11_opens_36 : decode cX11_opens 36 = .ok (.iload_n 1, 1) := by decide +kernel
theorem dX11_opens_37 : decode cX11_opens 37 = .ok (.aload_n 0, 1) := by decide +kernel
theorem dX11_opens_38 : decode cX11_opens 38 = .ok (.getfield 19, 3) := by decide +kernel
theorem dX11_opens_41 : decode cX11_opens 41 = .ok (.iload_n 2, 1) := by decide +kernel
theorem dX11_opens_42 : decode cX11_opens 42 = .ok (.invokevirtual 235, 3) := by decide +kernel
theorem dX11_opens_45 : decode cX11_opens 45 = .ok (.invokevirtual 238, 3) := by decide +kernel
theorem dX11_opens_48 : decode cX11_opens 48 = .ok (.ifCond .eq 7, 3) := by decide +kernel
theorem dX11_opens_51 : decode cX11_opens 51 = .ok (.iconst 1, 1) := by decide +kernel
theorem dX11_opens_52 : decode cX11_opens 52 = .ok (.goto 4, 3) := by decide +kernel
theorem dX11_opens_55 : decode cX11_opens 55 = .ok (.iconst 0, 1) := by decide +kernel
theorem dX11_opens_56 : decode cX11_opens 56 = .ok (.ireturn, 1) := by decide +kernel
theorem dX11_had_0 : decode cX11_had 0 = .ok (.aload_n 0, 1) := by decide +kernel
theorem dX11_had_1 : decode cX11_had 1 = .ok (.getfield 19, 3) := by decide +kernel
theorem dX11_had_4 : decode cX11_had 4 = .ok (.iload_n 1, 1) := by decide +kernel
theorem dX11_had_5 : decode cX11_had 5 = .ok (.invokevirtual 156, 3) := by decide +kernel
theorem dX11_had_8 : decode cX11_had 8 = .ok (.ifCond .ne 13, 3) := by decide +kernel
theorem dX11_had_11 : decode cX11_had 11 = .ok (.aload_n 0, 1) := by decide +kernel
theorem dX11_had_12 : decode cX11_had 12 = .ok (.getfield 12, 3) := by decide +kernel
theorem dX11_had_15 : decode cX11_had 15 = .ok (.ldc 90, 2) := by decide +kernel
theorem dX11_had_17 : decode cX11_had 17 = .ok (.invokevirtual 91, 3) := by decide +kernel
theorem dX11_had_20 : decode cX11_had 20 = .ok (.ireturn, 1) := by decide +kernel
theorem dX11_had_21 : decode cX11_had 21 = .ok (.aload_n 0, 1) := by decide +kernel
theorem dX11_had_22 : decode cX11_had 22 = .ok (.getfield 33, 3) := by decide +kernel
theorem dX11_had_25 : decode cX11_had 25 = .ok (.aload_n 0, 1) := by decide +kernel
theorem dX11_had_26 : decode cX11_had 26 = .ok (.getfield 19, 3) := by decide +kernel
theorem dX11_had_29 : decode cX11_had 29 = .ok (.iload_n 1, 1) := by decide +kernel
theorem dX11_had_30 : decode cX11_had 30 = .ok (.invokevirtual 235, 3) := by decide +kernel
theorem dX11_had_33 : decode cX11_had 33 = .ok (.invokevirtual 241, 3) := by decide +kernel
theorem dX11_had_36 : decode cX11_had 36 = .ok (.ireturn, 1) := by decide +kernel
theorem dX11_round_0 : decode cX11_round 0 = .ok (.aload_n 0, 1) := by decide +kernel
theorem dX11_round_1 : decode cX11_round 1 = .ok (.getfield 33, 3) := by decide +kernel
theorem dX11_round_4 : decode cX11_round 4 = .ok (.iload_n 1, 1) := by decide +kernel
theorem dX11_round_5 : decode cX11_round 5 = .ok (.invokevirtual 191, 3) := by decide +kernel
theorem dX11_round_8 : decode cX11_round 8 = .ok (.ifCond .eq 14, 3) := by decide +kernel
theorem dX11_round_11 : decode cX11_round 11 = .ok (.aload_n 0, 1) := by decide +kernel
theorem dX11_round_12 : decode cX11_round 12 = .ok (.getfield 19, 3) := by decide +kernel
theorem dX11_round_15 : decode cX11_round 15 = .ok (.iload_n 2, 1) := by decide +kernel
theorem dX11_round_16 : decode cX11_round 16 = .ok (.invokevirtual 156, 3) := by decide +kernel
theorem dX11_round_19 : decode cX11_round 19 = .ok (.ifCond .ne 13, 3) := by decide +kernel
theorem dX11_round_22 : decode cX11_round 22 = .ok (.aload_n 0, 1) := by decide +kernel
theorem dX11_round_23 : decode cX11_round 23 = .ok (.getfield 12, 3) := by decide +kernel
theorem dX11_round_26 : decode cX11_round 26 = .ok (.ldc 90, 2) := by decide +kernel
theorem dX11_round_28 : decode cX11_round 28 = .ok (.invokevirtual 91, 3) := by decide +kernel
theorem dX11_round_31 : decode cX11_round 31 = .ok (.ireturn, 1) := by decide +kernel
theorem dX11_round_32 : decode cX11_round 32 = .ok (.aload_n 0, 1) := by decide +kernel
theorem dX11_round_33 : decode cX11_round 33 = .ok (.getfield 33, 3) := by decide +kernel
theorem dX11_round_36 : decode cX11_round 36 = .ok (.iload_n 1, 1) := by decide +kernel
theorem dX11_round_37 : decode cX11_round 37 = .ok (.iconst 4, 1) := by decide +kernel
theorem dX11_round_38 : decode cX11_round 38 = .ok (.invokevirtual 202, 3) := by decide +kernel
theorem dX11_round_41 : decode cX11_round 41 = .ok (.ifCond .ne 13, 3) := by decide +kernel
theorem dX11_round_44 : decode cX11_round 44 = .ok (.aload_n 0, 1) := by decide +kernel
theorem dX11_round_45 : decode cX11_round 45 = .ok (.getfield 12, 3) := by decide +kernel
theorem dX11_round_48 : decode cX11_round 48 = .ok (.ldc 206, 2) := by decide +kernel
theorem dX11_round_50 : decode cX11_round 50 = .ok (.invokevirtual 91, 3) := by decide +kernel
theorem dX11_round_53 : decode cX11_round 53 = .ok (.ireturn, 1) := by decide +kernel
theorem dX11_round_54 : decode cX11_round 54 = .ok (.aload_n 0, 1) := by decide +kernel
theorem dX11_round_55 : decode cX11_round 55 = .ok (.getfield 33, 3) := by decide +kernel
theorem dX11_round_58 : decode cX11_round 58 = .ok (.iload_n 1, 1) := by decide +kernel
theorem dX11_round_59 : decode cX11_round 59 = .ok (.aload_n 0, 1) := by decide +kernel
theorem dX11_round_60 : decode cX11_round 60 = .ok (.getfield 19, 3) := by decide +kernel
theorem dX11_round_63 : decode cX11_round 63 = .ok (.iload_n 2, 1) := by decide +kernel
theorem dX11_round_64 : decode cX11_round 64 = .ok (.invokevirtual 235, 3) := by decide +kernel
theorem dX11_round_67 : decode cX11_round 67 = .ok (.invokevirtual 244, 3) := by decide +kernel
theorem dX11_round_70 : decode cX11_round 70 = .ok (.ireturn, 1) := by decide +kernel
theorem dX11_lets_0 : decode cX11_lets 0 = .ok (.aload_n 0, 1) := by decide +kernel
theorem dX11_lets_1 : decode cX11_lets 1 = .ok (.iload_n 1, 1) := by decide +kernel
theorem dX11_lets_2 : decode cX11_lets 2 = .ok (.iload_n 2, 1) := by decide +kernel
theorem dX11_lets_3 : decode cX11_lets 3 = .ok (.iconst 0, 1) := by decide +kernel
theorem dX11_lets_4 : decode cX11_lets 4 = .ok (.invokevirtual 247, 3) := by decide +kernel
theorem dX11_lets_7 : decode cX11_lets 7 = .ok (.ireturn, 1) := by decide +kernel
theorem dX11_shut_0 : decode cX11_shut 0 = .ok (.aload_n 0, 1) := by decide +kernel
theorem dX11_shut_1 : decode cX11_shut 1 = .ok (.iload_n 1, 1) := by decide +kernel
theorem dX11_shut_2 : decode cX11_shut 2 = .ok (.iload_n 2, 1) := by decide +kernel
theorem dX11_shut_3 : decode cX11_shut 3 = .ok (.iconst 1, 1) := by decide +kernel
theorem dX11_shut_4 : decode cX11_shut 4 = .ok (.invokevirtual 247, 3) := by decide +kernel
theorem dX11_shut_7 : decode cX11_shut 7 = .ok (.ireturn, 1) := by decide +kernel
theorem dX11_wrongly_0 : decode cX11_wrongly 0 = .ok (.aload_n 0, 1) := by decide +kernel
theorem dX11_wrongly_1 : decode cX11_wrongly 1 = .ok (.iload_n 1, 1) := by decide +kernel
theorem dX11_wrongly_2 : decode cX11_wrongly 2 = .ok (.iconst 1, 1) := by decide +kernel
theorem dX11_wrongly_3 : decode cX11_wrongly 3 = .ok (.invokevirtual 250, 3) := by decide +kernel
theorem dX11_wrongly_6 : decode cX11_wrongly 6 = .ok (.ireturn, 1) := by decide +kernel
theorem dX11_lacks_0 : decode cX11_lacks 0 = .ok (.aload_n 0, 1) := by decide +kernel
theorem dX11_lacks_1 : decode cX11_lacks 1 = .ok (.iload_n 1, 1) := by decide +kernel
theorem dX11_lacks_2 : decode cX11_lacks 2 = .ok (.iconst 0, 1) := by decide +kernel
theorem dX11_lacks_3 : decode cX11_lacks 3 = .ok (.invokevirtual 250, 3) := by decide +kernel
theorem dX11_lacks_6 : decode cX11_lacks 6 = .ok (.ireturn, 1) := by decide +kernel
theorem dX11_same_0 : decode cX11_same 0 = .ok (.aload_n 0, 1) := by decide +kernel
theorem dX11_same_1 : decode cX11_same 1 = .ok (.getfield 33, 3) := by decide +kernel
theorem dX11_same_4 : decode cX11_same 4 = .ok (.iload_n 1, 1) := by decide +kernel
theorem dX11_same_5 : decode cX11_same 5 = .ok (.invokevirtual 191, 3) := by decide +kernel
theorem dX11_same_8 : decode cX11_same 8 = .ok (.ifCond .eq 14, 3) := by decide +kernel
theorem dX11_same_11 : decode cX11_same 11 = .ok (.aload_n 0, 1) := by decide +kernel
theorem dX11_same_12 : decode cX11_same 12 = .ok (.getfield 33, 3) := by decide +kernel
theorem dX11_same_15 : decode cX11_same 15 = .ok (.iload_n 2, 1) := by decide +kernel
theorem dX11_same_16 : decode cX11_same 16 = .ok (.invokevirtual 191, 3) := by decide +kernel
theorem dX11_same_19 : decode cX11_same 19 = .ok (.ifCond .ne 13, 3) := by decide +kernel
theorem dX11_same_22 : decode cX11_same 22 = .ok (.aload_n 0, 1) := by decide +kernel
theorem dX11_same_23 : decode cX11_same 23 = .ok (.getfield 12, 3) := by decide +kernel
theorem dX11_same_26 : decode cX11_same 26 = .ok (.ldc 90, 2) := by decide +kernel
theorem dX11_same_28 : decode cX11_same 28 = .ok (.invokevirtual 91, 3) := by decide +kernel
theorem dX11_same_31 : decode cX11_same 31 = .ok (.ireturn, 1) := by decide +kernel
theorem dX11_same_32 : decode cX11_same 32 = .ok (.aload_n 0, 1) := by decide +kernel
theorem dX11_same_33 : decode cX11_same 33 = .ok (.getfield 55, 3) := by decide +kernel
theorem dX11_same_36 : decode cX11_same 36 = .ok (.aload_n 0, 1) := by decide +kernel
theorem dX11_same_37 : decode cX11_same 37 = .ok (.getfield 19, 3) := by decide +kernel
theorem dX11_same_40 : decode cX11_same 40 = .ok (.aload_n 0, 1) := by decide +kernel
theorem dX11_same_41 : decode cX11_same 41 = .ok (.getfield 33, 3) := by decide +kernel
theorem dX11_same_44 : decode cX11_same 44 = .ok (.invokevirtual 253, 3) := by decide +kernel
theorem dX11_same_47 : decode cX11_same 47 = .ok (.aload_n 0, 1) := by decide +kernel
theorem dX11_same_48 : decode cX11_same 48 = .ok (.getfield 19, 3) := by decide +kernel
theorem dX11_same_51 : decode cX11_same 51 = .ok (.invokevirtual 159, 3) := by decide +kernel
theorem dX11_same_54 : decode cX11_same 54 = .ok (.istore_n 3, 1) := by decide +kernel
theorem dX11_same_55 : decode cX11_same 55 = .ok (.iconst 0, 1) := by decide +kernel
theorem dX11_same_56 : decode cX11_same 56 = .ok (.istore 4, 2) := by decide +kernel
theorem dX11_same_58 : decode cX11_same 58 = .ok (.iload 4, 2) := by decide +kernel
theorem dX11_same_60 : decode cX11_same 60 = .ok (.iload_n 3, 1) := by decide +kernel
theorem dX11_same_61 : decode cX11_same 61 = .ok (.if_icmp .gt 43, 3) := by decide +kernel
theorem dX11_same_64 : decode cX11_same 64 = .ok (.iload 4, 2) := by decide +kernel
theorem dX11_same_66 : decode cX11_same 66 = .ok (.iload_n 3, 1) := by decide +kernel
theorem dX11_same_67 : decode cX11_same 67 = .ok (.iconst (-1), 1) := by decide +kernel
theorem dX11_same_68 : decode cX11_same 68 = .ok (.ixor, 1) := by decide +kernel
theorem dX11_same_69 : decode cX11_same 69 = .ok (.iand, 1) := by decide +kernel
theorem dX11_same_70 : decode cX11_same 70 = .ok (.ifCond .ne 28, 3) := by decide +kernel
theorem dX11_same_73 : decode cX11_same 73 = .ok (.aload_n 0, 1) := by decide +kernel
theorem dX11_same_74 : decode cX11_same 74 = .ok (.getfield 55, 3) := by decide +kernel
theorem dX11_same_77 : decode cX11_same 77 = .ok (.iload_n 1, 1) := by decide +kernel
theorem dX11_same_78 : decode cX11_same 78 = .ok (.iload 4, 2) := by decide +kernel
theorem dX11_same_80 : decode cX11_same 80 = .ok (.invokevirtual 257, 3) := by decide +kernel
theorem dX11_same_83 : decode cX11_same 83 = .ok (.aload_n 0, 1) := by decide +kernel
theorem dX11_same_84 : decode cX11_same 84 = .ok (.getfield 55, 3) := by decide +kernel
theorem dX11_same_87 : decode cX11_same 87 = .ok (.iload_n 2, 1) := by decide +kernel
theorem dX11_same_88 : decode cX11_same 88 = .ok (.iload 4, 2) := by decide +kernel
theorem dX11_same_90 : decode cX11_same 90 = .ok (.invokevirtual 257, 3) := by decide +kernel
theorem dX11_same_93 : decode cX11_same 93 = .ok (.if_icmp .eq 5, 3) := by decide +kernel
theorem dX11_same_96 : decode cX11_same 96 = .ok (.iconst 0, 1) := by decide +kernel
theorem dX11_same_97 : decode cX11_same 97 = .ok (.ireturn, 1) := by decide +kernel
theorem dX11_same_98 : decode cX11_same 98 = .ok (.iinc 4 1, 3) := by decide +kernel
theorem dX11_same_101 : decode cX11_same 101 = .ok (.goto (-43), 3) := by decide +kernel
theorem dX11_same_104 : decode cX11_same 104 = .ok (.iconst 1, 1) := by decide +kernel
theorem dX11_same_105 : decode cX11_same 105 = .ok (.ireturn, 1) := by decide +kernel
theorem dX11_bears_0 : decode cX11_bears 0 = .ok (.aload_n 0, 1) := by decide +kernel
theorem dX11_bears_1 : decode cX11_bears 1 = .ok (.getfield 19, 3) := by decide +kernel
theorem dX11_bears_4 : decode cX11_bears 4 = .ok (.invokevirtual 159, 3) := by decide +kernel
theorem dX11_bears_7 : decode cX11_bears 7 = .ok (.istore_n 3, 1) := by decide +kernel
theorem dX11_bears_8 : decode cX11_bears 8 = .ok (.iload_n 3, 1) := by decide +kernel
theorem dX11_bears_9 : decode cX11_bears 9 = .ok (.invokestatic 117, 3) := by decide +kernel
theorem dX11_bears_12 : decode cX11_bears 12 = .ok (.iload_n 2, 1) := by decide +kernel
theorem dX11_bears_13 : decode cX11_bears 13 = .ok (.isub, 1) := by decide +kernel
theorem dX11_bears_14 : decode cX11_bears 14 = .ok (.istore 4, 2) := by decide +kernel
theorem dX11_bears_16 : decode cX11_bears 16 = .ok (.aload_n 0, 1) := by decide +kernel
theorem dX11_bears_17 : decode cX11_bears 17 = .ok (.getfield 33, 3) := by decide +kernel
theorem dX11_bears_20 : decode cX11_bears 20 = .ok (.iload_n 1, 1) := by decide +kernel
theorem dX11_bears_21 : decode cX11_bears 21 = .ok (.invokevirtual 191, 3) := by decide +kernel
theorem dX11_bears_24 : decode cX11_bears 24 = .ok (.ifCond .eq 12, 3) := by decide +kernel
theorem dX11_bears_27 : decode cX11_bears 27 = .ok (.iload_n 2, 1) := by decide +kernel
theorem dX11_bears_28 : decode cX11_bears 28 = .ok (.ifCond .lt 8, 3) := by decide +kernel
theorem dX11_bears_31 : decode cX11_bears 31 = .ok (.iload 4, 2) := by decide +kernel
theorem dX11_bears_33 : decode cX11_bears 33 = .ok (.ifCond .ge 13, 3) := by decide +kernel
theorem dX11_bears_36 : decode cX11_bears 36 = .ok (.aload_n 0, 1) := by decide +kernel
theorem dX11_bears_37 : decode cX11_bears 37 = .ok (.getfield 12, 3) := by decide +kernel
theorem dX11_bears_40 : decode cX11_bears 40 = .ok (.ldc 90, 2) := by decide +kernel
theorem dX11_bears_42 : decode cX11_bears 42 = .ok (.invokevirtual 91, 3) := by decide +kernel
theorem dX11_bears_45 : decode cX11_bears 45 = .ok (.ireturn, 1) := by decide +kernel
theorem dX11_bears_46 : decode cX11_bears 46 = .ok (.aload_n 0, 1) := by decide +kernel
theorem dX11_bears_47 : decode cX11_bears 47 = .ok (.getfield 55, 3) := by decide +kernel
theorem dX11_bears_50 : decode cX11_bears 50 = .ok (.aload_n 0, 1) := by decide +kernel
theorem dX11_bears_51 : decode cX11_bears 51 = .ok (.getfield 19, 3) := by decide +kernel
theorem dX11_bears_54 : decode cX11_bears 54 = .ok (.aload_n 0, 1) := by decide +kernel
theorem dX11_bears_55 : decode cX11_bears 55 = .ok (.getfield 33, 3) := by decide +kernel
theorem dX11_bears_58 : decode cX11_bears 58 = .ok (.invokevirtual 253, 3) := by decide +kernel
theorem dX11_bears_61 : decode cX11_bears 61 = .ok (.iconst 0, 1) := by decide +kernel
theorem dX11_bears_62 : decode cX11_bears 62 = .ok (.istore 5, 2) := by decide +kernel
theorem dX11_bears_64 : decode cX11_bears 64 = .ok (.iload 5, 2) := by decide +kernel
theorem dX11_bears_66 : decode cX11_bears 66 = .ok (.iload_n 3, 1) := by decide +kernel
theorem dX11_bears_67 : decode cX11_bears 67 = .ok (.if_icmp .gt 55, 3) := by decide +kernel
theorem dX11_bears_70 : decode cX11_bears 70 = .ok (.iload 5, 2) := by decide +kernel
theorem dX11_bears_72 : decode cX11_bears 72 = .ok (.iload_n 3, 1) := by decide +kernel
theorem dX11_bears_73 : decode cX11_bears 73 = .ok (.iconst (-1), 1) := by decide +kernel
theorem dX11_bears_74 : decode cX11_bears 74 = .ok (.ixor, 1) := by decide +kernel
theorem dX11_bears_75 : decode cX11_bears 75 = .ok (.iand, 1) := by decide +kernel
theorem dX11_bears_76 : decode cX11_bears 76 = .ok (.ifCond .ne 17, 3) := by decide +kernel
theorem dX11_bears_79 : decode cX11_bears 79 = .ok (.iload 5, 2) := by decide +kernel
theorem dX11_bears_81 : decode cX11_bears 81 = .ok (.invokestatic 117, 3) := by decide +kernel
theorem dX11_bears_84 : decode cX11_bears 84 = .ok (.iload 4, 2) := by decide +kernel
theorem dX11_bears_86 : decode cX11_bears 86 = .ok (.if_icmp .ne 7, 3) := by decide +kernel
theorem dX11_bears_89 : decode cX11_bears 89 = .ok (.iconst 1, 1) := by decide +kernel
theorem dX11_bears_90 : decode cX11_bears 90 = .ok (.goto 4, 3) := by decide +kernel
theorem dX11_bears_93 : decode cX11_bears 93 = .ok (.iconst 0, 1) := by decide +kernel
theorem dX11_bears_94 : decode cX11_bears 94 = .ok (.istore 6, 2) := by decide +kernel
theorem dX11_bears_96 : decode cX11_bears 96 = .ok (.iload 6, 2) := by decide +kernel
theorem dX11_bears_98 : decode cX11_bears 98 = .ok (.ifCond .eq 18, 3) := by decide +kernel
theorem dX11_bears_101 : decode cX11_bears 101 = .ok (.aload_n 0, 1) := by decide +kernel
theorem dX11_bears_102 : decode cX11_bears 102 = .ok (.getfield 55, 3) := by decide +kernel
theorem dX11_bears_105 : decode cX11_bears 105 = .ok (.iload_n 1, 1) := by decide +kernel
theorem dX11_bears_106 : decode cX11_bears 106 = .ok (.iload 5, 2) := by decide +kernel
theorem dX11_bears_108 : decode cX11_bears 108 = .ok (.invokevirtual 257, 3) := by decide +kernel
theorem dX11_bears_111 : decode cX11_bears 111 = .ok (.ifCond .ne 5, 3) := by decide +kernel
theorem dX11_bears_114 : decode cX11_bears 114 = .ok (.iconst 0, 1) := by decide +kernel
theorem dX11_bears_115 : decode cX11_bears 115 = .ok (.ireturn, 1) := by decide +kernel
theorem dX11_bears_116 : decode cX11_bears 116 = .ok (.iinc 5 1, 3) := by decide +kernel
theorem dX11_bears_119 : decode cX11_bears 119 = .ok (.goto (-55), 3) := by decide +kernel
theorem dX11_bears_122 : decode cX11_bears 122 = .ok (.iconst 1, 1) := by decide +kernel
theorem dX11_bears_123 : decode cX11_bears 123 = .ok (.ireturn, 1) := by decide +kernel
theorem dX11_need_0 : decode cX11_need 0 = .ok (.aload_n 0, 1) := by decide +kernel
theorem dX11_need_1 : decode cX11_need 1 = .ok (.getfield 33, 3) := by decide +kernel
theorem dX11_need_4 : decode cX11_need 4 = .ok (.iload_n 1, 1) := by decide +kernel
theorem dX11_need_5 : decode cX11_need 5 = .ok (.invokevirtual 191, 3) := by decide +kernel
theorem dX11_need_8 : decode cX11_need 8 = .ok (.ifCond .eq 14, 3) := by decide +kernel
theorem dX11_need_11 : decode cX11_need 11 = .ok (.aload_n 0, 1) := by decide +kernel
theorem dX11_need_12 : decode cX11_need 12 = .ok (.getfield 19, 3) := by decide +kernel
theorem dX11_need_15 : decode cX11_need 15 = .ok (.iload_n 2, 1) := by decide +kernel
theorem dX11_need_16 : decode cX11_need 16 = .ok (.invokevirtual 156, 3) := by decide +kernel
theorem dX11_need_19 : decode cX11_need 19 = .ok (.ifCond .ne 13, 3) := by decide +kernel
theorem dX11_need_22 : decode cX11_need 22 = .ok (.aload_n 0, 1) := by decide +kernel
theorem dX11_need_23 : decode cX11_need 23 = .ok (.getfield 12, 3) := by decide +kernel
theorem dX11_need_26 : decode cX11_need 26 = .ok (.ldc 90, 2) := by decide +kernel
theorem dX11_need_28 : decode cX11_need 28 = .ok (.invokevirtual 91, 3) := by decide +kernel
theorem dX11_need_31 : decode cX11_need 31 = .ok (.ireturn, 1) := by decide +kernel
theorem dX11_need_32 : decode cX11_need 32 = .ok (.aload_n 0, 1) := by decide +kernel
theorem dX11_need_33 : decode cX11_need 33 = .ok (.getfield 33, 3) := by decide +kernel
theorem dX11_need_36 : decode cX11_need 36 = .ok (.aload_n 0, 1) := by decide +kernel
theorem dX11_need_37 : decode cX11_need 37 = .ok (.getfield 19, 3) := by decide +kernel
theorem dX11_need_40 : decode cX11_need 40 = .ok (.iload_n 2, 1) := by decide +kernel
theorem dX11_need_41 : decode cX11_need 41 = .ok (.invokevirtual 235, 3) := by decide +kernel
theorem dX11_need_44 : decode cX11_need 44 = .ok (.invokevirtual 241, 3) := by decide +kernel
theorem dX11_need_47 : decode cX11_need 47 = .ok (.istore_n 3, 1) := by decide +kernel
theorem dX11_need_48 : decode cX11_need 48 = .ok (.iconst 0, 1) := by decide +kernel
theorem dX11_need_49 : decode cX11_need 49 = .ok (.istore 4, 2) := by decide +kernel
theorem dX11_need_51 : decode cX11_need 51 = .ok (.iload 4, 2) := by decide +kernel
theorem dX11_need_53 : decode cX11_need 53 = .ok (.iconst 3, 1) := by decide +kernel
theorem dX11_need_54 : decode cX11_need 54 = .ok (.if_icmp .gt 29, 3) := by decide +kernel
theorem dX11_need_57 : decode cX11_need 57 = .ok (.aload_n 0, 1) := by decide +kernel
theorem dX11_need_58 : decode cX11_need 58 = .ok (.iload_n 1, 1) := by decide +kernel
theorem dX11_need_59 : decode cX11_need 59 = .ok (.iload_n 3, 1) := by decide +kernel
theorem dX11_need_60 : decode cX11_need 60 = .ok (.iload 4, 2) := by decide +kernel
theorem dX11_need_62 : decode cX11_need 62 = .ok (.bipush 24, 2) := by decide +kernel
theorem dX11_need_64 : decode cX11_need 64 = .ok (.invokevirtual 260, 3) := by decide +kernel
theorem dX11_need_67 : decode cX11_need 67 = .ok (.istore 5, 2) := by decide +kernel
theorem dX11_need_69 : decode cX11_need 69 = .ok (.iload 5, 2) := by decide +kernel
theorem dX11_need_71 : decode cX11_need 71 = .ok (.ifCond .lt 6, 3) := by decide +kernel
theorem dX11_need_74 : decode cX11_need 74 = .ok (.iload 5, 2) := by decide +kernel
theorem dX11_need_76 : decode cX11_need 76 = .ok (.ireturn, 1) := by decide +kernel
theorem dX11_need_77 : decode cX11_need 77 = .ok (.iinc 4 1, 3) := by decide +kernel
theorem dX11_need_80 : decode cX11_need 80 = .ok (.goto (-29), 3) := by decide +kernel
theorem dX11_need_83 : decode cX11_need 83 = .ok (.aload_n 0, 1) := by decide +kernel
theorem dX11_need_84 : decode cX11_need 84 = .ok (.getfield 12, 3) := by decide +kernel
theorem dX11_need_87 : decode cX11_need 87 = .ok (.ldc 177, 2) := by decide +kernel
theorem dX11_need_89 : decode cX11_need 89 = .ok (.invokevirtual 91, 3) := by decide +kernel
theorem dX11_need_92 : decode cX11_need 92 = .ok (.ireturn, 1) := by decide +kernel
theorem dX11_could_0 : decode cX11_could 0 = .ok (.aload_n 0, 1) := by decide +kernel
theorem dX11_could_1 : decode cX11_could 1 = .ok (.getfield 33, 3) := by decide +kernel
theorem dX11_could_4 : decode cX11_could 4 = .ok (.iload_n 1, 1) := by decide +kernel
theorem dX11_could_5 : decode cX11_could 5 = .ok (.invokevirtual 191, 3) := by decide +kernel
theorem dX11_could_8 : decode cX11_could 8 = .ok (.ifCond .ne 13, 3) := by decide +kernel
theorem dX11_could_11 : decode cX11_could 11 = .ok (.aload_n 0, 1) := by decide +kernel
theorem dX11_could_12 : decode cX11_could 12 = .ok (.getfield 12, 3) := by decide +kernel
theorem dX11_could_15 : decode cX11_could 15 = .ok (.ldc 90, 2) := by decide +kernel
theorem dX11_could_17 : decode cX11_could 17 = .ok (.invokevirtual 91, 3) := by decide +kernel
theorem dX11_could_20 : decode cX11_could 20 = .ok (.ireturn, 1) := by decide +kernel
theorem dX11_could_21 : decode cX11_could 21 = .ok (.aload_n 0, 1) := by decide +kernel
theorem dX11_could_22 : decode cX11_could 22 = .ok (.getfield 19, 3) := by decide +kernel
theorem dX11_could_25 : decode cX11_could 25 = .ok (.invokevirtual 159, 3) := by decide +kernel
theorem dX11_could_28 : decode cX11_could 28 = .ok (.istore_n 2, 1) := by decide +kernel
theorem dX11_could_29 : decode cX11_could 29 = .ok (.iconst 0, 1) := by decide +kernel
theorem dX11_could_30 : decode cX11_could 30 = .ok (.istore_n 3, 1) := by decide +kernel
theorem dX11_could_31 : decode cX11_could 31 = .ok (.iconst 0, 1) := by decide +kernel
theorem dX11_could_32 : decode cX11_could 32 = .ok (.istore 4, 2) := by decide +kernel
theorem dX11_could_34 : decode cX11_could 34 = .ok (.iload 4, 2) := by decide +kernel
theorem dX11_could_36 : decode cX11_could 36 = .ok (.aload_n 0, 1) := by decide +kernel
theorem dX11_could_37 : decode cX11_could 37 = .ok (.getfield 19, 3) := by decide +kernel
theorem dX11_could_40 : decode cX11_could 40 = .ok (.getfield 95, 3) := by decide +kernel
theorem dX11_could_43 : decode cX11_could 43 = .ok (.if_icmp .ge 61, 3) := by decide +kernel
theorem dX11_could_46 : decode cX11_could 46 = .ok (.aload_n 0, 1) := by decide +kernel
theorem dX11_could_47 : decode cX11_could 47 = .ok (.getfield 19, 3) := by decide +kernel
theorem dX11_could_50 : decode cX11_could 50 = .ok (.getfield 114, 3) := by decide +kernel
theorem dX11_could_53 : decode cX11_could 53 = .ok (.iload 4, 2) := by decide +kernel
theorem dX11_could_55 : decode cX11_could 55 = .ok (.iaload, 1) := by decide +kernel
theorem dX11_could_56 : decode cX11_could 56 = .ok (.aload_n 0, 1) := by decide +kernel
theorem dX11_could_57 : decode cX11_could 57 = .ok (.getfield 19, 3) := by decide +kernel
theorem dX11_could_60 : decode cX11_could 60 = .ok (.getfield 264, 3) := by decide +kernel
theorem dX11_could_63 : decode cX11_could 63 = .ok (.iload 4, 2) := by decide +kernel
theorem dX11_could_65 : decode cX11_could 65 = .ok (.iaload, 1) := by decide +kernel
theorem dX11_could_66 : decode cX11_could 66 = .ok (.ior, 1) := by decide +kernel
theorem dX11_could_67 : decode cX11_could 67 = .ok (.istore 5, 2) := by decide +kernel
theorem dX11_could_69 : decode cX11_could 69 = .ok (.iload_n 2, 1) := by decide +kernel
theorem dX11_could_70 : decode cX11_could 70 = .ok (.iload 4, 2) := by decide +kernel
theorem dX11_could_72 : decode cX11_could 72 = .ok (.ishr, 1) := by decide +kernel
theorem dX11_could_73 : decode cX11_could 73 = .ok (.iconst 1, 1) := by decide +kernel
theorem dX11_could_74 : decode cX11_could 74 = .ok (.iand, 1) := by decide +kernel
theorem dX11_could_75 : decode cX11_could 75 = .ok (.ifCond .eq 23, 3) := by decide +kernel
theorem dX11_could_78 : decode cX11_could 78 = .ok (.aload_n 0, 1) := by decide +kernel
theorem dX11_could_79 : decode cX11_could 79 = .ok (.getfield 33, 3) := by decide +kernel
theorem dX11_could_82 : decode cX11_could 82 = .ok (.iload_n 1, 1) := by decide +kernel
theorem dX11_could_83 : decode cX11_could 83 = .ok (.iload 5, 2) := by decide +kernel
theorem dX11_could_85 : decode cX11_could 85 = .ok (.invokevirtual 238, 3) := by decide +kernel
theorem dX11_could_88 : decode cX11_could 88 = .ok (.ifCond .eq 10, 3) := by decide +kernel
theorem dX11_could_91 : decode cX11_could 91 = .ok (.iload_n 3, 1) := by decide +kernel
theorem dX11_could_92 : decode cX11_could 92 = .ok (.iconst 1, 1) := by decide +kernel
theorem dX11_could_93 : decode cX11_could 93 = .ok (.iload 4, 2) := by decide +kernel
theorem dX11_could_95 : decode cX11_could 95 = .ok (.ishl, 1) := by decide +kernel
theorem dX11_could_96 : decode cX11_could 96 = .ok (.ior, 1) := by decide +kernel
theorem dX11_could_97 : decode cX11_could 97 = .ok (.istore_n 3, 1) := by decide +kernel
theorem dX11_could_98 : decode cX11_could 98 = .ok (.iinc 4 1, 3) := by decide +kernel
theorem dX11_could_101 : decode cX11_could 101 = .ok (.goto (-67), 3) := by decide +kernel
theorem dX11_could_104 : decode cX11_could 104 = .ok (.iload_n 3, 1) := by decide +kernel
theorem dX11_could_105 : decode cX11_could 105 = .ok (.ireturn, 1) := by decide +kernel
theorem dX11_build_0 : decode cX11_build 0 = .ok (.aload_n 0, 1) := by decide +kernel
theorem dX11_build_1 : decode cX11_build 1 = .ok (.getfield 26, 3) := by decide +kernel
theorem dX11_build_4 : decode cX11_build 4 = .ok (.getfield 166, 3) := by decide +kernel
theorem dX11_build_7 : decode cX11_build 7 = .ok (.ifCond .ge 13, 3) := by decide +kernel
theorem dX11_build_10 : decode cX11_build 10 = .ok (.aload_n 0, 1) := by decide +kernel
theorem dX11_build_11 : decode cX11_build 11 = .ok (.getfield 12, 3) := by decide +kernel
theorem dX11_build_14 : decode cX11_build 14 = .ok (.ldc 169, 2) := by decide +kernel
theorem dX11_build_16 : decode cX11_build 16 = .ok (.invokevirtual 91, 3) := by decide +kernel
theorem dX11_build_19 : decode cX11_build 19 = .ok (.ireturn, 1) := by decide +kernel
theorem dX11_build_20 : decode cX11_build 20 = .ok (.aload_n 0, 1) := by decide +kernel
theorem dX11_build_21 : decode cX11_build 21 = .ok (.invokevirtual 170, 3) := by decide +kernel
theorem dX11_build_24 : decode cX11_build 24 = .ok (.astore_n 1, 1) := by decide +kernel
theorem dX11_build_25 : decode cX11_build 25 = .ok (.aload_n 1, 1) := by decide +kernel
theorem dX11_build_26 : decode cX11_build 26 = .ok (.invokevirtual 174, 3) := by decide +kernel
theorem dX11_build_29 : decode cX11_build 29 = .ok (.ifCond .lt 13, 3) := by decide +kernel
theorem dX11_build_32 : decode cX11_build 32 = .ok (.aload_n 0, 1) := by decide +kernel
theorem dX11_build_33 : decode cX11_build 33 = .ok (.getfield 12, 3) := by decide +kernel
theorem dX11_build_36 : decode cX11_build 36 = .ok (.ldc 206, 2) := by decide +kernel
theorem dX11_build_38 : decode cX11_build 38 = .ok (.invokevirtual 91, 3) := by decide +kernel
theorem dX11_build_41 : decode cX11_build 41 = .ok (.ireturn, 1) := by decide +kernel
theorem dX11_build_42 : decode cX11_build 42 = .ok (.aload_n 0, 1) := by decide +kernel
theorem dX11_build_43 : decode cX11_build 43 = .ok (.getfield 72, 3) := by decide +kernel
theorem dX11_build_46 : decode cX11_build 46 = .ok (.aload_n 1, 1) := by decide +kernel
theorem dX11_build_47 : decode cX11_build 47 = .ok (.invokevirtual 267, 3) := by decide +kernel
theorem dX11_build_50 : decode cX11_build 50 = .ok (.aload_n 0, 1) := by decide +kernel
theorem dX11_build_51 : decode cX11_build 51 = .ok (.getfield 72, 3) := by decide +kernel
theorem dX11_build_54 : decode cX11_build 54 = .ok (.getfield 271, 3) := by decide +kernel
theorem dX11_build_57 : decode cX11_build 57 = .ok (.ifCond .ne 13, 3) := by decide +kernel
theorem dX11_build_60 : decode cX11_build 60 = .ok (.aload_n 0, 1) := by decide +kernel
theorem dX11_build_61 : decode cX11_build 61 = .ok (.getfield 12, 3) := by decide +kernel
theorem dX11_build_64 : decode cX11_build 64 = .ok (.ldc 177, 2) := by decide +kernel
theorem dX11_build_66 : decode cX11_build 66 = .ok (.invokevirtual 91, 3) := by decide +kernel
theorem dX11_build_69 : decode cX11_build 69 = .ok (.ireturn, 1) := by decide +kernel
theorem dX11_build_70 : decode cX11_build 70 = .ok (.aload_n 0, 1) := by decide +kernel
theorem dX11_build_71 : decode cX11_build 71 = .ok (.getfield 72, 3) := by decide +kernel
theorem dX11_build_74 : decode cX11_build 74 = .ok (.getfield 271, 3) := by decide +kernel
theorem dX11_build_77 : decode cX11_build 77 = .ok (.bipush 24, 2) := by decide +kernel
theorem dX11_build_79 : decode cX11_build 79 = .ok (.if_icmp .gt 24, 3) := by decide +kernel
theorem dX11_build_82 : decode cX11_build 82 = .ok (.aload_n 0, 1) := by decide +kernel
theorem dX11_build_83 : decode cX11_build 83 = .ok (.getfield 33, 3) := by decide +kernel
theorem dX11_build_86 : decode cX11_build 86 = .ok (.iconst 2, 1) := by decide +kernel
theorem dX11_build_87 : decode cX11_build 87 = .ok (.aload_n 0, 1) := by decide +kernel
theorem dX11_build_88 : decode cX11_build 88 = .ok (.getfield 72, 3) := by decide +kernel
theorem dX11_build_91 : decode cX11_build 91 = .ok (.getfield 271, 3) := by decide +kernel
theorem dX11_build_94 : decode cX11_build 94 = .ok (.imul, 1) := by decide +kernel
theorem dX11_build_95 : decode cX11_build 95 = .ok (.iconst 1, 1) := by decide +kernel
theorem dX11_build_96 : decode cX11_build 96 = .ok (.isub, 1) := by decide +kernel
theorem dX11_build_97 : decode cX11_build 97 = .ok (.invokevirtual 185, 3) := by decide +kernel
theorem dX11_build_100 : decode cX11_build 100 = .ok (.ifCond .ne 13, 3) := by decide +kernel
theorem dX11_build_103 : decode cX11_build 103 = .ok (.aload_n 0, 1) := by decide +kernel
theorem dX11_build_104 : decode cX11_build 104 = .ok (.getfield 12, 3) := by decide +kernel
theorem dX11_build_107 : decode cX11_build 107 = .ok (.ldc 99, 2) := by decide +kernel
theorem dX11_build_109 : decode cX11_build 109 = .ok (.invokevirtual 91, 3) := by decide +kernel
theorem dX11_build_112 : decode cX11_build 112 = .ok (.ireturn, 1) := by decide +kernel
theorem dX11_build_113 : decode cX11_build 113 = .ok (.aload_n 0, 1) := by decide +kernel
theorem dX11_build_114 : decode cX11_build 114 = .ok (.invokevirtual 274, 3) := by decide +kernel
theorem dX11_build_117 : decode cX11_build 117 = .ok (.ireturn, 1) := by decide +kernel
theorem dX11_fewest_0 : decode cX11_fewest 0 = .ok (.aload_n 0, 1) := by decide +kernel
theorem dX11_fewest_1 : decode cX11_fewest 1 = .ok (.getfield 26, 3) := by decide +kernel
theorem dX11_fewest_4 : decode cX11_fewest 4 = .ok (.getfield 166, 3) := by decide +kernel
theorem dX11_fewest_7 : decode cX11_fewest 7 = .ok (.ifCond .ge 13, 3) := by decide +kernel
theorem dX11_fewest_10 : decode cX11_fewest 10 = .ok (.aload_n 0, 1) := by decide +kernel
theorem dX11_fewest_11 : decode cX11_fewest 11 = .ok (.getfield 12, 3) := by decide +kernel
theorem dX11_fewest_14 : decode cX11_fewest 14 = .ok (.ldc 169, 2) := by decide +kernel
theorem dX11_fewest_16 : decode cX11_fewest 16 = .ok (.invokevirtual 91, 3) := by decide +kernel
theorem dX11_fewest_19 : decode cX11_fewest 19 = .ok (.ireturn, 1) := by decide +kernel
theorem dX11_fewest_20 : decode cX11_fewest 20 = .ok (.aload_n 0, 1) := by decide +kernel
theorem dX11_fewest_21 : decode cX11_fewest 21 = .ok (.getfield 19, 3) := by decide +kernel
theorem dX11_fewest_24 : decode cX11_fewest 24 = .ok (.invokevirtual 159, 3) := by decide +kernel
theorem dX11_fewest_27 : decode cX11_fewest 27 = .ok (.invokestatic 117, 3) := by decide +kernel
theorem dX11_fewest_30 : decode cX11_fewest 30 = .ok (.istore_n 1, 1) := by decide +kernel
theorem dX11_fewest_31 : decode cX11_fewest 31 = .ok (.iload_n 1, 1) := by decide +kernel
theorem dX11_fewest_32 : decode cX11_fewest 32 = .ok (.ifCond .eq 8, 3) := by decide +kernel
theorem dX11_fewest_35 : decode cX11_fewest 35 = .ok (.iload_n 1, 1) := by decide +kernel
theorem dX11_fewest_36 : decode cX11_fewest 36 = .ok (.iconst 4, 1) := by decide +kernel
theorem dX11_fewest_37 : decode cX11_fewest 37 = .ok (.if_icmp .le 14, 3) := by decide +kernel
theorem dX11_fewest_40 : decode cX11_fewest 40 = .ok (.aload_n 0, 1) := by decide +kernel
theorem dX11_fewest_41 : decode cX11_fewest 41 = .ok (.getfield 12, 3) := by decide +kernel
theorem dX11_fewest_44 : decode cX11_fewest 44 = .ok (.ldc_w 277, 3) := by decide +kernel
theorem dX11_fewest_47 : decode cX11_fewest 47 = .ok (.invokevirtual 91, 3) := by decide +kernel
theorem dX11_fewest_50 : decode cX11_fewest 50 = .ok (.ireturn, 1) := by decide +kernel
theorem dX11_fewest_51 : decode cX11_fewest 51 = .ok (.aload_n 0, 1) := by decide +kernel
theorem dX11_fewest_52 : decode cX11_fewest 52 = .ok (.invokevirtual 170, 3) := by decide +kernel
theorem dX11_fewest_55 : decode cX11_fewest 55 = .ok (.astore_n 2, 1) := by decide +kernel
theorem dX11_fewest_56 : decode cX11_fewest 56 = .ok (.aload_n 2, 1) := by decide +kernel
theorem dX11_fewest_57 : decode cX11_fewest 57 = .ok (.invokevirtual 174, 3) := by decide +kernel
theorem dX11_fewest_60 : decode cX11_fewest 60 = .ok (.ifCond .lt 13, 3) := by decide +kernel
theorem dX11_fewest_63 : decode cX11_fewest 63 = .ok (.aload_n 0, 1) := by decide +kernel
theorem dX11_fewest_64 : decode cX11_fewest 64 = .ok (.getfield 12, 3) := by decide +kernel
theorem dX11_fewest_67 : decode cX11_fewest 67 = .ok (.ldc 206, 2) := by decide +kernel
theorem dX11_fewest_69 : decode cX11_fewest 69 = .ok (.invokevirtual 91, 3) := by decide +kernel
theorem dX11_fewest_72 : decode cX11_fewest 72 = .ok (.ireturn, 1) := by decide +kernel
theorem dX11_fewest_73 : decode cX11_fewest 73 = .ok (.aload_n 0, 1) := by decide +kernel
theorem dX11_fewest_74 : decode cX11_fewest 74 = .ok (.getfield 79, 3) := by decide +kernel
theorem dX11_fewest_77 : decode cX11_fewest 77 = .ok (.aload_n 2, 1) := by decide +kernel
theorem dX11_fewest_78 : decode cX11_fewest 78 = .ok (.invokevirtual 278, 3) := by decide +kernel
theorem dX11_fewest_81 : decode cX11_fewest 81 = .ok (.invokevirtual 281, 3) := by decide +kernel
theorem dX11_fewest_84 : decode cX11_fewest 84 = .ok (.istore_n 3, 1) := by decide +kernel
theorem dX11_fewest_85 : decode cX11_fewest 85 = .ok (.iload_n 3, 1) := by decide +kernel
theorem dX11_fewest_86 : decode cX11_fewest 86 = .ok (.ifCond .ne 15, 3) := by decide +kernel
theorem dX11_fewest_89 : decode cX11_fewest 89 = .ok (.aload_n 0, 1) := by decide +kernel
theorem dX11_fewest_90 : decode cX11_fewest 90 = .ok (.getfield 12, 3) := by decide +kernel
theorem dX11_fewest_93 : decode cX11_fewest 93 = .ok (.ldc 177, 2) := by decide +kernel
theorem dX11_fewest_95 : decode cX11_fewest 95 = .ok (.invokevirtual 91, 3) := by decide +kernel
theorem dX11_fewest_98 : decode cX11_fewest 98 = .ok (.goto 4, 3) := by decide +kernel
theorem dX11_fewest_101 : decode cX11_fewest 101 = .ok (.iload_n 3, 1) := by decide +kernel
theorem dX11_fewest_102 : decode cX11_fewest 102 = .ok (.ireturn, 1) := by decide +kernel
theorem dX11_spare_0 : decode cX11_spare 0 = .ok (.aload_n 0, 1) := by decide +kernel
theorem dX11_spare_1 : decode cX11_spare 1 = .ok (.getfield 33, 3) := by decide +kernel
theorem dX11_spare_4 : decode cX11_spare 4 = .ok (.iload_n 1, 1) := by decide +kernel
theorem dX11_spare_5 : decode cX11_spare 5 = .ok (.invokevirtual 191, 3) := by decide +kernel
theorem dX11_spare_8 : decode cX11_spare 8 = .ok (.ifCond .eq 21, 3) := by decide +kernel
theorem dX11_spare_11 : decode cX11_spare 11 = .ok (.aload_n 0, 1) := by decide +kernel
theorem dX11_spare_12 : decode cX11_spare 12 = .ok (.getfield 19, 3) := by decide +kernel
theorem dX11_spare_15 : decode cX11_spare 15 = .ok (.iload_n 2, 1) := by decide +kernel
theorem dX11_spare_16 : decode cX11_spare 16 = .ok (.invokevirtual 103, 3) := by decide +kernel
theorem dX11_spare_19 : decode cX11_spare 19 = .ok (.ifCond .eq 10, 3) := by decide +kernel
theorem dX11_spare_22 : decode cX11_spare 22 = .ok (.iload_n 3, 1) := by decide +kernel
theorem dX11_spare_23 : decode cX11_spare 23 = .ok (.invokestatic 182, 3) := by decide +kernel
theorem dX11_spare_26 : decode cX11_spare 26 = .ok (.ifCond .ne 13, 3) := by decide +kernel
theorem dX11_spare_29 : decode cX11_spare 29 = .ok (.aload_n 0, 1) := by decide +kernel
theorem dX11_spare_30 : decode cX11_spare 30 = .ok (.getfield 12, 3) := by decide +kernel
theorem dX11_spare_33 : decode cX11_spare 33 = .ok (.ldc 90, 2) := by decide +kernel
theorem dX11_spare_35 : decode cX11_spare 35 = .ok (.invokevirtual 91, 3) := by decide +kernel
theorem dX11_spare_38 : decode cX11_spare 38 = .ok (.ireturn, 1) := by decide +kernel
theorem dX11_spare_39 : decode cX11_spare 39 = .ok (.aload_n 0, 1) := by decide +kernel
theorem dX11_spare_40 : decode cX11_spare 40 = .ok (.getfield 19, 3) := by decide +kernel
theorem dX11_spare_43 : decode cX11_spare 43 = .ok (.iload_n 2, 1) := by decide +kernel
theorem dX11_spare_44 : decode cX11_spare 44 = .ok (.iload_n 3, 1) := by decide +kernel
theorem dX11_spare_45 : decode cX11_spare 45 = .ok (.invokevirtual 226, 3) := by decide +kernel
theorem dX11_spare_48 : decode cX11_spare 48 = .ok (.ifCond .ne 13, 3) := by decide +kernel
theorem dX11_spare_51 : decode cX11_spare 51 = .ok (.aload_n 0, 1) := by decide +kernel
theorem dX11_spare_52 : decode cX11_spare 52 = .ok (.getfield 12, 3) := by decide +kernel
theorem dX11_spare_55 : decode cX11_spare 55 = .ok (.ldc 177, 2) := by decide +kernel
theorem dX11_spare_57 : decode cX11_spare 57 = .ok (.invokevirtual 91, 3) := by decide +kernel
theorem dX11_spare_60 : decode cX11_spare 60 = .ok (.ireturn, 1) := by decide +kernel
theorem dX11_spare_61 : decode cX11_spare 61 = .ok (.aload_n 0, 1) := by decide +kernel
theorem dX11_spare_62 : decode cX11_spare 62 = .ok (.getfield 55, 3) := by decide +kernel
theorem dX11_spare_65 : decode cX11_spare 65 = .ok (.aload_n 0, 1) := by decide +kernel
theorem dX11_spare_66 : decode cX11_spare 66 = .ok (.getfield 19, 3) := by decide +kernel
theorem dX11_spare_69 : decode cX11_spare 69 = .ok (.aload_n 0, 1) := by decide +kernel
theorem dX11_spare_70 : decode cX11_spare 70 = .ok (.getfield 33, 3) := by decide +kernel
theorem dX11_spare_73 : decode cX11_spare 73 = .ok (.invokevirtual 253, 3) := by decide +kernel
theorem dX11_spare_76 : decode cX11_spare 76 = .ok (.aload_n 0, 1) := by decide +kernel
theorem dX11_spare_77 : decode cX11_spare 77 = .ok (.iload_n 1, 1) := by decide +kernel
theorem dX11_spare_78 : decode cX11_spare 78 = .ok (.iload_n 2, 1) := by decide +kernel
theorem dX11_spare_79 : decode cX11_spare 79 = .ok (.iload_n 3, 1) := by decide +kernel
theorem dX11_spare_80 : decode cX11_spare 80 = .ok (.invokevirtual 284, 3) := by decide +kernel
theorem dX11_spare_83 : decode cX11_spare 83 = .ok (.ifCond .eq 7, 3) := by decide +kernel
theorem dX11_spare_86 : decode cX11_spare 86 = .ok (.iconst 1, 1) := by decide +kernel
theorem dX11_spare_87 : decode cX11_spare 87 = .ok (.goto 4, 3) := by decide +kernel
theorem dX11_spare_90 : decode cX11_spare 90 = .ok (.iconst 0, 1) := by decide +kernel
theorem dX11_spare_91 : decode cX11_spare 91 = .ok (.ireturn, 1) := by decide +kernel
theorem dX11_thin_0 : decode cX11_thin 0 = .ok (.aload_n 0, 1) := by decide +kernel
theorem dX11_thin_1 : decode cX11_thin 1 = .ok (.getfield 33, 3) := by decide +kernel
theorem dX11_thin_4 : decode cX11_thin 4 = .ok (.iload_n 1, 1) := by decide +kernel
theorem dX11_thin_5 : decode cX11_thin 5 = .ok (.invokevirtual 191, 3) := by decide +kernel
theorem dX11_thin_8 : decode cX11_thin 8 = .ok (.ifCond .ne 13, 3) := by decide +kernel
theorem dX11_thin_11 : decode cX11_thin 11 = .ok (.aload_n 0, 1) := by decide +kernel
theorem dX11_thin_12 : decode cX11_thin 12 = .ok (.getfield 12, 3) := by decide +kernel
theorem dX11_thin_15 : decode cX11_thin 15 = .ok (.ldc 90, 2) := by decide +kernel
theorem dX11_thin_17 : decode cX11_thin 17 = .ok (.invokevirtual 91, 3) := by decide +kernel
theorem dX11_thin_20 : decode cX11_thin 20 = .ok (.ireturn, 1) := by decide +kernel
theorem dX11_thin_21 : decode cX11_thin 21 = .ok (.iconst 0, 1) := by decide +kernel
theorem dX11_thin_22 : decode cX11_thin 22 = .ok (.istore_n 2, 1) := by decide +kernel
theorem dX11_thin_23 : decode cX11_thin 23 = .ok (.iconst 0, 1) := by decide +kernel
theorem dX11_thin_24 : decode cX11_thin 24 = .ok (.istore_n 3, 1) := by decide +kernel
theorem dX11_thin_25 : decode cX11_thin 25 = .ok (.iload_n 3, 1) := by decide +kernel
theorem dX11_thin_26 : decode cX11_thin 26 = .ok (.aload_n 0, 1) := by decide +kernel
theorem dX11_thin_27 : decode cX11_thin 27 = .ok (.getfield 19, 3) := by decide +kernel
theorem dX11_thin_30 : decode cX11_thin 30 = .ok (.getfield 95, 3) := by decide +kernel
theorem dX11_thin_33 : decode cX11_thin 33 = .ok (.if_icmp .ge 33, 3) := by decide +kernel
theorem dX11_thin_36 : decode cX11_thin 36 = .ok (.aload_n 0, 1) := by decide +kernel
theorem dX11_thin_37 : decode cX11_thin 37 = .ok (.getfield 55, 3) := by decide +kernel
theorem dX11_thin_40 : decode cX11_thin 40 = .ok (.aload_n 0, 1) := by decide +kernel
theorem dX11_thin_41 : decode cX11_thin 41 = .ok (.getfield 19, 3) := by decide +kernel
theorem dX11_thin_44 : decode cX11_thin 44 = .ok (.aload_n 0, 1) := by decide +kernel
theorem dX11_thin_45 : decode cX11_thin 45 = .ok (.getfield 33, 3) := by decide +kernel
theorem dX11_thin_48 : decode cX11_thin 48 = .ok (.invokevirtual 253, 3) := by decide +kernel
theorem dX11_thin_51 : decode cX11_thin 51 = .ok (.iload_n 2, 1) := by decide +kernel
theorem dX11_thin_52 : decode cX11_thin 52 = .ok (.aload_n 0, 1) := by decide +kernel
theorem dX11_thin_53 : decode cX11_thin 53 = .ok (.iload_n 1, 1) := by decide +kernel
theorem dX11_thin_54 : decode cX11_thin 54 = .ok (.iload_n 3, 1) := by decide +kernel
theorem dX11_thin_55 : decode cX11_thin 55 = .ok (.invokevirtual 288, 3) := by decide +kernel
theorem dX11_thin_58 : decode cX11_thin 58 = .ok (.iadd, 1) := by decide +kernel
theorem dX11_thin_59 : decode cX11_thin 59 = .ok (.istore_n 2, 1) := by decide +kernel
theorem dX11_thin_60 : decode cX11_thin 60 = .ok (.iinc 3 1, 3) := by decide +kernel
theorem dX11_thin_63 : decode cX11_thin 63 = .ok (.goto (-38), 3) := by decide +kernel
theorem dX11_thin_66 : decode cX11_thin 66 = .ok (.iload_n 2, 1) := by decide +kernel
theorem dX11_thin_67 : decode cX11_thin 67 = .ok (.ireturn, 1) := by decide +kernel
theorem dX11_heavy_0 : decode cX11_heavy 0 = .ok (.iload_n 1, 1) := by decide +kernel
theorem dX11_heavy_1 : decode cX11_heavy 1 = .ok (.ifCond .lt 8, 3) := by decide +kernel
theorem dX11_heavy_4 : decode cX11_heavy 4 = .ok (.iload_n 1, 1) := by decide +kernel
theorem dX11_heavy_5 : decode cX11_heavy 5 = .ok (.iconst 2, 1) := by decide +kernel
theorem dX11_heavy_6 : decode cX11_heavy 6 = .ok (.if_icmp .le 13, 3) := by decide +kernel
theorem dX11_heavy_9 : decode cX11_heavy 9 = .ok (.aload_n 0, 1) := by decide +kernel
theorem dX11_heavy_10 : decode cX11_heavy 10 = .ok (.getfield 12, 3) := by decide +kernel
theorem dX11_heavy_13 : decode cX11_heavy 13 = .ok (.ldc 90, 2) := by decide +kernel
theorem dX11_heavy_15 : decode cX11_heavy 15 = .ok (.invokevirtual 91, 3) := by decide +kernel
theorem dX11_heavy_18 : decode cX11_heavy 18 = .ok (.ireturn, 1) := by decide +kernel
theorem dX11_heavy_19 : decode cX11_heavy 19 = .ok (.aload_n 0, 1) := by decide +kernel
theorem dX11_heavy_20 : decode cX11_heavy 20 = .ok (.getfield 19, 3) := by decide +kernel
theorem dX11_heavy_23 : decode cX11_heavy 23 = .ok (.invokevirtual 159, 3) := by decide +kernel
theorem dX11_heavy_26 : decode cX11_heavy 26 = .ok (.ifCond .ne 13, 3) := by decide +kernel
theorem dX11_heavy_29 : decode cX11_heavy 29 = .ok (.aload_n 0, 1) := by decide +kernel
theorem dX11_heavy_30 : decode cX11_heavy 30 = .ok (.getfield 12, 3) := by decide +kernel
theorem dX11_heavy_33 : decode cX11_heavy 33 = .ok (.ldc 177, 2) := by decide +kernel
theorem dX11_heavy_35 : decode cX11_heavy 35 = .ok (.invokevirtual 91, 3) := by decide +kernel
theorem dX11_heavy_38 : decode cX11_heavy 38 = .ok (.ireturn, 1) := by decide +kernel
theorem dX11_heavy_39 : decode cX11_heavy 39 = .ok (.aload_n 0, 1) := by decide +kernel
theorem dX11_heavy_40 : decode cX11_heavy 40 = .ok (.getfield 19, 3) := by decide +kernel
theorem dX11_heavy_43 : decode cX11_heavy 43 = .ok (.invokevirtual 291, 3) := by decide +kernel
theorem dX11_heavy_46 : decode cX11_heavy 46 = .ok (.istore_n 2, 1) := by decide +kernel
theorem dX11_heavy_47 : decode cX11_heavy 47 = .ok (.iload_n 1, 1) := by decide +kernel
theorem dX11_heavy_48 : decode cX11_heavy 48 = .ok (.lookupswitch 43 #[(0, 28), (1, 41)], 28) := by decide +kernel
theorem dX11_heavy_76 : decode cX11_heavy 76 = .ok (.aload_n 0, 1) := by decide +kernel
theorem dX11_heavy_77 : decode cX11_heavy 77 = .ok (.getfield 19, 3) := by decide +kernel
theorem dX11_heavy_80 : decode cX11_heavy 80 = .ok (.getfield 114, 3) := by decide +kernel
theorem dX11_heavy_83 : decode cX11_heavy 83 = .ok (.iload_n 2, 1) := by decide +kernel
theorem dX11_heavy_84 : decode cX11_heavy 84 = .ok (.iaload, 1) := by decide +kernel
theorem dX11_heavy_85 : decode cX11_heavy 85 = .ok (.invokestatic 117, 3) := by decide +kernel
theorem dX11_heavy_88 : decode cX11_heavy 88 = .ok (.ireturn, 1) := by decide +kernel
theorem dX11_heavy_89 : decode cX11_heavy 89 = .ok (.iload_n 2, 1) := by decide +kernel
theorem dX11_heavy_90 : decode cX11_heavy 90 = .ok (.ireturn, 1) := by decide +kernel
theorem dX11_heavy_91 : decode cX11_heavy 91 = .ok (.aload_n 0, 1) := by decide +kernel
theorem dX11_heavy_92 : decode cX11_heavy 92 = .ok (.getfield 19, 3) := by decide +kernel
theorem dX11_heavy_95 : decode cX11_heavy 95 = .ok (.invokevirtual 294, 3) := by decide +kernel
theorem dX11_heavy_98 : decode cX11_heavy 98 = .ok (.ireturn, 1) := by decide +kernel
theorem dX11_judge_0 : decode cX11_judge 0 = .ok (.iload_n 1, 1) := by decide +kernel
theorem dX11_judge_1 : decode cX11_judge 1 = .ok (.invokestatic 297, 3) := by decide +kernel
theorem dX11_judge_4 : decode cX11_judge 4 = .ok (.ifCond .ne 13, 3) := by decide +kernel
theorem dX11_judge_7 : decode cX11_judge 7 = .ok (.aload_n 0, 1) := by decide +kernel
theorem dX11_judge_8 : decode cX11_judge 8 = .ok (.getfield 12, 3) := by decide +kernel
theorem dX11_judge_11 : decode cX11_judge 11 = .ok (.ldc 90, 2) := by decide +kernel
theorem dX11_judge_13 : decode cX11_judge 13 = .ok (.invokevirtual 91, 3) := by decide +kernel
theorem dX11_judge_16 : decode cX11_judge 16 = .ok (.ireturn, 1) := by decide +kernel
theorem dX11_judge_17 : decode cX11_judge 17 = .ok (.aload_n 0, 1) := by decide +kernel
theorem dX11_judge_18 : decode cX11_judge 18 = .ok (.getfield 85, 3) := by decide +kernel
theorem dX11_judge_21 : decode cX11_judge 21 = .ok (.iload_n 1, 1) := by decide +kernel
theorem dX11_judge_22 : decode cX11_judge 22 = .ok (.aaload, 1) := by decide +kernel
theorem dX11_judge_23 : decode cX11_judge 23 = .ok (.invokevirtual 300, 3) := by decide +kernel
theorem dX11_judge_26 : decode cX11_judge 26 = .ok (.ifCond .eq 14, 3) := by decide +kernel
theorem dX11_judge_29 : decode cX11_judge 29 = .ok (.aload_n 0, 1) := by decide +kernel
theorem dX11_judge_30 : decode cX11_judge 30 = .ok (.getfield 12, 3) := by decide +kernel
theorem dX11_judge_33 : decode cX11_judge 33 = .ok (.ldc_w 304, 3) := by decide +kernel
theorem dX11_judge_36 : decode cX11_judge 36 = .ok (.invokevirtual 91, 3) := by decide +kernel
theorem dX11_judge_39 : decode cX11_judge 39 = .ok (.ireturn, 1) := by decide +kernel
theorem dX11_judge_40 : decode cX11_judge 40 = .ok (.aload_n 0, 1) := by decide +kernel
theorem dX11_judge_41 : decode cX11_judge 41 = .ok (.getfield 33, 3) := by decide +kernel
theorem dX11_judge_44 : decode cX11_judge 44 = .ok (.iload_n 2, 1) := by decide +kernel
theorem dX11_judge_45 : decode cX11_judge 45 = .ok (.invokevirtual 191, 3) := by decide +kernel
theorem dX11_judge_48 : decode cX11_judge 48 = .ok (.ifCond .ne 13, 3) := by decide +kernel
theorem dX11_judge_51 : decode cX11_judge 51 = .ok (.aload_n 0, 1) := by decide +kernel
theorem dX11_judge_52 : decode cX11_judge 52 = .ok (.getfield 12, 3) := by decide +kernel
theorem dX11_judge_55 : decode cX11_judge 55 = .ok (.ldc 90, 2) := by decide +kernel
theorem dX11_judge_57 : decode cX11_judge 57 = .ok (.invokevirtual 91, 3) := by decide +kernel
theorem dX11_judge_60 : decode cX11_judge 60 = .ok (.ireturn, 1) := by decide +kernel
theorem dX11_judge_61 : decode cX11_judge 61 = .ok (.aload_n 0, 1) := by decide +kernel
theorem dX11_judge_62 : decode cX11_judge 62 = .ok (.getfield 72, 3) := by decide +kernel
theorem dX11_judge_65 : decode cX11_judge 65 = .ok (.aload_n 0, 1) := by decide +kernel
theorem dX11_judge_66 : decode cX11_judge 66 = .ok (.iload_n 2, 1) := by decide +kernel
theorem dX11_judge_67 : decode cX11_judge 67 = .ok (.invokevirtual 305, 3) := by decide +kernel
theorem dX11_judge_70 : decode cX11_judge 70 = .ok (.invokevirtual 309, 3) := by decide +kernel
theorem dX11_judge_73 : decode cX11_judge 73 = .ok (.aload_n 0, 1) := by decide +kernel
theorem dX11_judge_74 : decode cX11_judge 74 = .ok (.getfield 85, 3) := by decide +kernel
theorem dX11_judge_77 : decode cX11_judge 77 = .ok (.iload_n 1, 1) := by decide +kernel
theorem dX11_judge_78 : decode cX11_judge 78 = .ok (.aaload, 1) := by decide +kernel
theorem dX11_judge_79 : decode cX11_judge 79 = .ok (.aload_n 0, 1) := by decide +kernel
theorem dX11_judge_80 : decode cX11_judge 80 = .ok (.getfield 72, 3) := by decide +kernel
theorem dX11_judge_83 : decode cX11_judge 83 = .ok (.invokevirtual 312, 3) := by decide +kernel
theorem dX11_judge_86 : decode cX11_judge 86 = .ok (.istore_n 3, 1) := by decide +kernel
theorem dX11_judge_87 : decode cX11_judge 87 = .ok (.iload_n 3, 1) := by decide +kernel
theorem dX11_judge_88 : decode cX11_judge 88 = .ok (.aload_n 0, 1) := by decide +kernel
theorem dX11_judge_89 : decode cX11_judge 89 = .ok (.getfield 72, 3) := by decide +kernel
theorem dX11_judge_92 : decode cX11_judge 92 = .ok (.getfield 271, 3) := by decide +kernel
theorem dX11_judge_95 : decode cX11_judge 95 = .ok (.if_icmp .ne 20, 3) := by decide +kernel
theorem dX11_judge_98 : decode cX11_judge 98 = .ok (.iload_n 3, 1) := by decide +kernel
theorem dX11_judge_99 : decode cX11_judge 99 = .ok (.aload_n 0, 1) := by decide +kernel
theorem dX11_judge_100 : decode cX11_judge 100 = .ok (.getfield 85, 3) := by decide +kernel
theorem dX11_judge_103 : decode cX11_judge 103 = .ok (.iload_n 1, 1) := by decide +kernel
theorem dX11_judge_104 : decode cX11_judge 104 = .ok (.aaload, 1) := by decide +kernel
theorem dX11_judge_105 : decode cX11_judge 105 = .ok (.getfield 316, 3) := by decide +kernel
theorem dX11_judge_108 : decode cX11_judge 108 = .ok (.if_icmp .ne 7, 3) := by decide +kernel
theorem dX11_judge_111 : decode cX11_judge 111 = .ok (.iconst 0, 1) := by decide +kernel
theorem dX11_judge_112 : decode cX11_judge 112 = .ok (.goto 6, 3) := by decide +kernel
theorem dX11_judge_115 : decode cX11_judge 115 = .ok (.iload_n 3, 1) := by decide +kernel
theorem dX11_judge_116 : decode cX11_judge 116 = .ok (.iconst 1, 1) := by decide +kernel
theorem dX11_judge_117 : decode cX11_judge 117 = .ok (.iadd, 1) := by decide +kernel
theorem dX11_judge_118 : decode cX11_judge 118 = .ok (.ireturn, 1) := by decide +kernel
theorem dX11_sheet_0 : decode cX11_sheet 0 = .ok (.iload_n 1, 1) := by decide +kernel
theorem dX11_sheet_1 : decode cX11_sheet 1 = .ok (.invokestatic 297, 3) := by decide +kernel
theorem dX11_sheet_4 : decode cX11_sheet 4 = .ok (.ifCond .eq 25, 3) := by decide +kernel
theorem dX11_sheet_7 : decode cX11_sheet 7 = .ok (.iload_n 2, 1) := by decide +kernel
theorem dX11_sheet_8 : decode cX11_sheet 8 = .ok (.ifCond .eq 31, 3) := by decide +kernel
theorem dX11_sheet_11 : decode cX11_sheet 11 = .ok (.iload_n 2, 1) := by decide +kernel
theorem dX11_sheet_12 : decode cX11_sheet 12 = .ok (.bipush 8, 2) := by decide +kernel
theorem dX11_sheet_14 : decode cX11_sheet 14 = .ok (.if_icmp .eq 25, 3) := by decide +kernel
theorem dX11_sheet_17 : decode cX11_sheet 17 = .ok (.iload_n 2, 1) := by decide +kernel
theorem dX11_sheet_18 : decode cX11_sheet 18 = .ok (.bipush 16, 2) := by decide +kernel
theorem dX11_sheet_20 : decode cX11_sheet 20 = .ok (.if_icmp .eq 19, 3) := by decide +kernel
theorem dX11_sheet_23 : decode cX11_sheet 23 = .ok (.iload_n 2, 1) := by decide +kernel
theorem dX11_sheet_24 : decode cX11_sheet 24 = .ok (.bipush 64, 2) := by decide +kernel
theorem dX11_sheet_26 : decode cX11_sheet 26 = .ok (.if_icmp .eq 13, 3) := by decide +kernel
theorem dX11_sheet_29 : decode cX11_sheet 29 = .ok (.aload_n 0, 1) := by decide +kernel
theorem dX11_sheet_30 : decode cX11_sheet 30 = .ok (.getfield 12, 3) := by decide +kernel
theorem dX11_sheet_33 : decode cX11_sheet 33 = .ok (.ldc 90, 2) := by decide +kernel
theorem dX11_sheet_35 : decode cX11_sheet 35 = .ok (.invokevirtual 91, 3) := by decide +kernel
theorem dX11_sheet_38 : decode cX11_sheet 38 = .ok (.ireturn, 1) := by decide +kernel
theorem dX11_sheet_39 : decode cX11_sheet 39 = .ok (.iload_n 3, 1) := by decide +kernel
theorem dX11_sheet_40 : decode cX11_sheet 40 = .ok (.ifCond .ge 14, 3) := by decide +kernel
theorem dX11_sheet_43 : decode cX11_sheet 43 = .ok (.aload_n 0, 1) := by decide +kernel
theorem dX11_sheet_44 : decode cX11_sheet 44 = .ok (.getfield 12, 3) := by decide +kernel
theorem dX11_sheet_47 : decode cX11_sheet 47 = .ok (.ldc_w 277, 3) := by decide +kernel
theorem dX11_sheet_50 : decode cX11_sheet 50 = .ok (.invokevirtual 91, 3) := by decide +kernel
theorem dX11_sheet_53 : decode cX11_sheet 53 = .ok (.ireturn, 1) := by decide +kernel
theorem dX11_sheet_54 : decode cX11_sheet 54 = .ok (.iload_n 3, 1) := by decide +kernel
theorem dX11_sheet_55 : decode cX11_sheet 55 = .ok (.bipush 40, 2) := by decide +kernel
theorem dX11_sheet_57 : decode cX11_sheet 57 = .ok (.if_icmp .le 13, 3) := by decide +kernel
theorem dX11_sheet_60 : decode cX11_sheet 60 = .ok (.aload_n 0, 1) := by decide +kernel
theorem dX11_sheet_61 : decode cX11_sheet 61 = .ok (.getfield 12, 3) := by decide +kernel
theorem dX11_sheet_64 : decode cX11_sheet 64 = .ok (.ldc 90, 2) := by decide +kernel
theorem dX11_sheet_66 : decode cX11_sheet 66 = .ok (.invokevirtual 91, 3) := by decide +kernel
theorem dX11_sheet_69 : decode cX11_sheet 69 = .ok (.ireturn, 1) := by decide +kernel
theorem dX11_sheet_70 : decode cX11_sheet 70 = .ok (.aload_n 0, 1) := by decide +kernel
theorem dX11_sheet_71 : decode cX11_sheet 71 = .ok (.getfield 85, 3) := by decide +kernel
theorem dX11_sheet_74 : decode cX11_sheet 74 = .ok (.iload_n 1, 1) := by decide +kernel
theorem dX11_sheet_75 : decode cX11_sheet 75 = .ok (.aaload, 1) := by decide +kernel
theorem dX11_sheet_76 : decode cX11_sheet 76 = .ok (.iload_n 2, 1) := by decide +kernel
theorem dX11_sheet_77 : decode cX11_sheet 77 = .ok (.iload_n 3, 1) := by decide +kernel
theorem dX11_sheet_78 : decode cX11_sheet 78 = .ok (.invokevirtual 317, 3) := by decide +kernel
theorem dX11_sheet_81 : decode cX11_sheet 81 = .ok (.ireturn, 1) := by decide +kernel
theorem dX11_write_0 : decode cX11_write 0 = .ok (.iload_n 1, 1) := by decide +kernel
theorem dX11_write_1 : decode cX11_write 1 = .ok (.invokestatic 297, 3) := by decide +kernel
theorem dX11_write_4 : decode cX11_write 4 = .ok (.ifCond .ne 14, 3) := by decide +kernel
theorem dX11_write_7 : decode cX11_write 7 = .ok (.aload_n 0, 1) := by decide +kernel
theorem dX11_write_8 : decode cX11_write 8 = .ok (.getfield 12, 3) := by decide +kernel
theorem dX11_write_11 : decode cX11_write 11 = .ok (.ldc 90, 2) := by decide +kernel
theorem dX11_write_13 : decode cX11_write 13 = .ok (.invokevirtual 91, 3) := by decide +kernel
theorem dX11_write_16 : decode cX11_write 16 = .ok (.i2l, 1) := by decide +kernel
theorem dX11_write_17 : decode cX11_write 17 = .ok (.lreturn, 1) := by decide +kernel
theorem dX11_write_18 : decode cX11_write 18 = .ok (.aload_n 0, 1) := by decide +kernel
theorem dX11_write_19 : decode cX11_write 19 = .ok (.getfield 85, 3) := by decide +kernel
theorem dX11_write_22 : decode cX11_write 22 = .ok (.iload_n 1, 1) := by decide +kernel
theorem dX11_write_23 : decode cX11_write 23 = .ok (.aaload, 1) := by decide +kernel
theorem dX11_write_24 : decode cX11_write 24 = .ok (.invokevirtual 300, 3) := by decide +kernel
theorem dX11_write_27 : decode cX11_write 27 = .ok (.ifCond .eq 15, 3) := by decide +kernel
theorem dX11_write_30 : decode cX11_write 30 = .ok (.aload_n 0, 1) := by decide +kernel
theorem dX11_write_31 : decode cX11_write 31 = .ok (.getfield 12, 3) := by decide +kernel
theorem dX11_write_34 : decode cX11_write 34 = .ok (.ldc_w 304, 3) := by decide +kernel
theorem dX11_write_37 : decode cX11_write 37 = .ok (.invokevirtual 91, 3) := by decide +kernel
theorem dX11_write_40 : decode cX11_write 40 = .ok (.i2l, 1) := by decide +kernel
theorem dX11_write_41 : decode cX11_write 41 = .ok (.lreturn, 1) := by decide +kernel
theorem dX11_write_42 : decode cX11_write 42 = .ok (.iload_n 2, 1) := by decide +kernel
theorem dX11_write_43 : decode cX11_write 43 = .ok (.ifCond .lt 16, 3) := by decide +kernel
theorem dX11_write_46 : decode cX11_write 46 = .ok (.iload_n 2, 1) := by decide +kernel
theorem dX11_write_47 : decode cX11_write 47 = .ok (.aload_n 0, 1) := by decide +kernel
theorem dX11_write_48 : decode cX11_write 48 = .ok (.getfield 85, 3) := by decide +kernel
theorem dX11_write_51 : decode cX11_write 51 = .ok (.iload_n 1, 1) := by decide +kernel
theorem dX11_write_52 : decode cX11_write 52 = .ok (.aaload, 1) := by decide +kernel
theorem dX11_write_53 : decode cX11_write 53 = .ok (.getfield 316, 3) := by decide +kernel
theorem dX11_write_56 : decode cX11_write 56 = .ok (.if_icmp .lt 14, 3) := by decide +kernel
theorem dX11_write_59 : decode cX11_write 59 = .ok (.aload_n 0, 1) := by decide +kernel
theorem dX11_write_60 : decode cX11_write 60 = .ok (.getfield 12, 3) := by decide +kernel
theorem dX11_write_63 : decode cX11_write 63 = .ok (.ldc 90, 2) := by decide +kernel
theorem dX11_write_65 : decode cX11_write 65 = .ok (.invokevirtual 91, 3) := by decide +kernel
theorem dX11_write_68 : decode cX11_write 68 = .ok (.i2l, 1) := by decide +kernel
theorem dX11_write_69 : decode cX11_write 69 = .ok (.lreturn, 1) := by decide +kernel
theorem dX11_write_70 : decode cX11_write 70 = .ok (.aload_n 0, 1) := by decide +kernel
theorem dX11_write_71 : decode cX11_write 71 = .ok (.getfield 85, 3) := by decide +kernel
theorem dX11_write_74 : decode cX11_write 74 = .ok (.iload_n 1, 1) := by decide +kernel
theorem dX11_write_75 : decode cX11_write 75 = .ok (.aaload, 1) := by decide +kernel
theorem dX11_write_76 : decode cX11_write 76 = .ok (.iload_n 2, 1) := by decide +kernel
theorem dX11_write_77 : decode cX11_write 77 = .ok (.lload_n 3, 1) := by decide +kernel
theorem dX11_write_78 : decode cX11_write 78 = .ok (.invokevirtual 319, 3) := by decide +kernel
theorem dX11_write_81 : decode cX11_write 81 = .ok (.lreturn, 1) := by decide +kernel
theorem dX11_copy_0 : decode cX11_copy 0 = .ok (.iload_n 1, 1) := by decide +kernel
theorem dX11_copy_1 : decode cX11_copy 1 = .ok (.invokestatic 297, 3) := by decide +kernel
theorem dX11_copy_4 : decode cX11_copy 4 = .ok (.ifCond .eq 10, 3) := by decide +kernel
theorem dX11_copy_7 : decode cX11_copy 7 = .ok (.iload_n 3, 1) := by decide +kernel
theorem dX11_copy_8 : decode cX11_copy 8 = .ok (.invokestatic 297, 3) := by decide +kernel
theorem dX11_copy_11 : decode cX11_copy 11 = .ok (.ifCond .ne 13, 3) := by decide +kernel
theorem dX11_copy_14 : decode cX11_copy 14 = .ok (.aload_n 0, 1) := by decide +kernel
theorem dX11_copy_15 : decode cX11_copy 15 = .ok (.getfield 12, 3) := by decide +kernel
theorem dX11_copy_18 : decode cX11_copy 18 = .ok (.ldc 90, 2) := by decide +kernel
theorem dX11_copy_20 : decode cX11_copy 20 = .ok (.invokevirtual 91, 3) := by decide +kernel
theorem dX11_copy_23 : decode cX11_copy 23 = .ok (.ireturn, 1) := by decide +kernel
theorem dX11_copy_24 : decode cX11_copy 24 = .ok (.aload_n 0, 1) := by decide +kernel
theorem dX11_copy_25 : decode cX11_copy 25 = .ok (.getfield 85, 3) := by decide +kernel
theorem dX11_copy_28 : decode cX11_copy 28 = .ok (.iload_n 1, 1) := by decide +kernel
theorem dX11_copy_29 : decode cX11_copy 29 = .ok (.aaload, 1) := by decide +kernel
theorem dX11_copy_30 : decode cX11_copy 30 = .ok (.invokevirtual 300, 3) := by decide +kernel
theorem dX11_copy_33 : decode cX11_copy 33 = .ok (.ifCond .ne 15, 3) := by decide +kernel
theorem dX11_copy_36 : decode cX11_copy 36 = .ok (.aload_n 0, 1) := by decide +kernel
theorem dX11_copy_37 : decode cX11_copy 37 = .ok (.getfield 85, 3) := by decide +kernel
theorem dX11_copy_40 : decode cX11_copy 40 = .ok (.iload_n 3, 1) := by decide +kernel
theorem dX11_copy_41 : decode cX11_copy 41 = .ok (.aaload, 1) := by decide +kernel
theorem dX11_copy_42 : decode cX11_copy 42 = .ok (.invokevirtual 300, 3) := by decide +kernel
theorem dX11_copy_45 : decode cX11_copy 45 = .ok (.ifCond .eq 14, 3) := by decide +kernel
theorem dX11_copy_48 : decode cX11_copy 48 = .ok (.aload_n 0, 1) := by decide +kernel
theorem dX11_copy_49 : decode cX11_copy 49 = .ok (.getfield 12, 3) := by decide +kernel
theorem dX11_copy_52 : decode cX11_copy 52 = .ok (.ldc_w 304, 3) := by decide +kernel
theorem dX11_copy_55 : decode cX11_copy 55 = .ok (.invokevirtual 91, 3) := by decide +kernel
theorem dX11_copy_58 : decode cX11_copy 58 = .ok (.ireturn, 1) := by decide +kernel
theorem dX11_copy_59 : decode cX11_copy 59 = .ok (.aload_n 0, 1) := by decide +kernel
theorem dX11_copy_60 : decode cX11_copy 60 = .ok (.getfield 85, 3) := by decide +kernel
theorem dX11_copy_63 : decode cX11_copy 63 = .ok (.iload_n 1, 1) := by decide +kernel
theorem dX11_copy_64 : decode cX11_copy 64 = .ok (.aaload, 1) := by decide +kernel
theorem dX11_copy_65 : decode cX11_copy 65 = .ok (.getfield 323, 3) := by decide +kernel
theorem dX11_copy_68 : decode cX11_copy 68 = .ok (.aload_n 0, 1) := by decide +kernel
theorem dX11_copy_69 : decode cX11_copy 69 = .ok (.getfield 85, 3) := by decide +kernel
theorem dX11_copy_72 : decode cX11_copy 72 = .ok (.iload_n 3, 1) := by decide +kernel
theorem dX11_copy_73 : decode cX11_copy 73 = .ok (.aaload, 1) := by decide +kernel
theorem dX11_copy_74 : decode cX11_copy 74 = .ok (.getfield 323, 3) := by decide +kernel
theorem dX11_copy_77 : decode cX11_copy 77 = .ok (.if_icmp .eq 13, 3) := by decide +kernel
theorem dX11_copy_80 : decode cX11_copy 80 = .ok (.aload_n 0, 1) := by decide +kernel
theorem dX11_copy_81 : decode cX11_copy 81 = .ok (.getfield 12, 3) := by decide +kernel
theorem dX11_copy_84 : decode cX11_copy 84 = .ok (.ldc 206, 2) := by decide +kernel
theorem dX11_copy_86 : decode cX11_copy 86 = .ok (.invokevirtual 91, 3) := by decide +kernel
theorem dX11_copy_89 : decode cX11_copy 89 = .ok (.ireturn, 1) := by decide +kernel
theorem dX11_copy_90 : decode cX11_copy 90 = .ok (.aload_n 0, 1) := by decide +kernel
theorem dX11_copy_91 : decode cX11_copy 91 = .ok (.getfield 85, 3) := by decide +kernel
theorem dX11_copy_94 : decode cX11_copy 94 = .ok (.iload_n 1, 1) := by decide +kernel
theorem dX11_copy_95 : decode cX11_copy 95 = .ok (.aaload, 1) := by decide +kernel
theorem dX11_copy_96 : decode cX11_copy 96 = .ok (.iload_n 2, 1) := by decide +kernel
theorem dX11_copy_97 : decode cX11_copy 97 = .ok (.iload 5, 2) := by decide +kernel
theorem dX11_copy_99 : decode cX11_copy 99 = .ok (.invokevirtual 326, 3) := by decide +kernel
theorem dX11_copy_102 : decode cX11_copy 102 = .ok (.ifCond .eq 19, 3) := by decide +kernel
theorem dX11_copy_105 : decode cX11_copy 105 = .ok (.aload_n 0, 1) := by decide +kernel
theorem dX11_copy_106 : decode cX11_copy 106 = .ok (.getfield 85, 3) := by decide +kernel
theorem dX11_copy_109 : decode cX11_copy 109 = .ok (.iload_n 3, 1) := by decide +kernel
theorem dX11_copy_110 : decode cX11_copy 110 = .ok (.aaload, 1) := by decide +kernel
theorem dX11_copy_111 : decode cX11_copy 111 = .ok (.iload 4, 2) := by decide +kernel
theorem dX11_copy_113 : decode cX11_copy 113 = .ok (.iload 5, 2) := by decide +kernel
theorem dX11_copy_115 : decode cX11_copy 115 = .ok (.invokevirtual 326, 3) := by decide +kernel
theorem dX11_copy_118 : decode cX11_copy 118 = .ok (.ifCond .ne 13, 3) := by decide +kernel
theorem dX11_copy_121 : decode cX11_copy 121 = .ok (.aload_n 0, 1) := by decide +kernel
theorem dX11_copy_122 : decode cX11_copy 122 = .ok (.getfield 12, 3) := by decide +kernel
theorem dX11_copy_125 : decode cX11_copy 125 = .ok (.ldc 90, 2) := by decide +kernel
theorem dX11_copy_127 : decode cX11_copy 127 = .ok (.invokevirtual 91, 3) := by decide +kernel
theorem dX11_copy_130 : decode cX11_copy 130 = .ok (.ireturn, 1) := by decide +kernel
theorem dX11_copy_131 : decode cX11_copy 131 = .ok (.aload_n 0, 1) := by decide +kernel
theorem dX11_copy_132 : decode cX11_copy 132 = .ok (.getfield 85, 3) := by decide +kernel
theorem dX11_copy_135 : decode cX11_copy 135 = .ok (.iload_n 1, 1) := by decide +kernel
theorem dX11_copy_136 : decode cX11_copy 136 = .ok (.aaload, 1) := by decide +kernel
theorem dX11_copy_137 : decode cX11_copy 137 = .ok (.getfield 329, 3) := by decide +kernel
theorem dX11_copy_140 : decode cX11_copy 140 = .ok (.iload_n 2, 1) := by decide +kernel
theorem dX11_copy_141 : decode cX11_copy 141 = .ok (.aload_n 0, 1) := by decide +kernel
theorem dX11_copy_142 : decode cX11_copy 142 = .ok (.getfield 85, 3) := by decide +kernel
theorem dX11_copy_145 : decode cX11_copy 145 = .ok (.iload_n 3, 1) := by decide +kernel
theorem dX11_copy_146 : decode cX11_copy 146 = .ok (.aaload, 1) := by decide +kernel
theorem dX11_copy_147 : decode cX11_copy 147 = .ok (.getfield 329, 3) := by decide +kernel
theorem dX11_copy_150 : decode cX11_copy 150 = .ok (.iload 4, 2) := by decide +kernel
theorem dX11_copy_152 : decode cX11_copy 152 = .ok (.iload 5, 2) := by decide +kernel
theorem dX11_copy_154 : decode cX11_copy 154 = .ok (.invokestatic 333, 3) := by decide +kernel
theorem dX11_copy_157 : decode cX11_copy 157 = .ok (.iload 5, 2) := by decide +kernel
theorem dX11_copy_159 : decode cX11_copy 159 = .ok (.ireturn, 1) := by decide +kernel
theorem dX11_image_0 : decode cX11_image 0 = .ok (.aload_n 0, 1) := by decide +kernel
theorem dX11_image_1 : decode cX11_image 1 = .ok (.getfield 37, 3) := by decide +kernel
theorem dX11_image_4 : decode cX11_image 4 = .ok (.aload_n 0, 1) := by decide +kernel
theorem dX11_image_5 : decode cX11_image 5 = .ok (.getfield 19, 3) := by decide +kernel
theorem dX11_image_8 : decode cX11_image 8 = .ok (.invokevirtual 339, 3) := by decide +kernel
theorem dX11_image_11 : decode cX11_image 11 = .ok (.aload_n 0, 1) := by decide +kernel
theorem dX11_image_12 : decode cX11_image 12 = .ok (.aload_n 0, 1) := by decide +kernel
theorem dX11_image_13 : decode cX11_image 13 = .ok (.getfield 26, 3) := by decide +kernel
theorem dX11_image_16 : decode cX11_image 16 = .ok (.getfield 141, 3) := by decide +kernel
theorem dX11_image_19 : decode cX11_image 19 = .ok (.putfield 343, 3) := by decide +kernel
theorem dX11_image_22 : decode cX11_image 22 = .ok (.aload_n 0, 1) := by decide +kernel
theorem dX11_image_23 : decode cX11_image 23 = .ok (.aload_n 0, 1) := by decide +kernel
theorem dX11_image_24 : decode cX11_image 24 = .ok (.getfield 26, 3) := by decide +kernel
theorem dX11_image_27 : decode cX11_image 27 = .ok (.getfield 166, 3) := by decide +kernel
theorem dX11_image_30 : decode cX11_image 30 = .ok (.putfield 346, 3) := by decide +kernel
theorem dX11_image_33 : decode cX11_image 33 = .ok (.aload_n 0, 1) := by decide +kernel
theorem dX11_image_34 : decode cX11_image 34 = .ok (.aload_n 0, 1) := by decide +kernel
theorem dX11_image_35 : decode cX11_image 35 = .ok (.getfield 33, 3) := by decide +kernel
theorem dX11_image_38 : decode cX11_image 38 = .ok (.getfield 349, 3) := by decide +kernel
theorem dX11_image_41 : decode cX11_image 41 = .ok (.putfield 350, 3) := by decide +kernel
theorem dX11_image_44 : decode cX11_image 44 = .ok (.aload_n 0, 1) := by decide +kernel
theorem dX11_image_45 : decode cX11_image 45 = .ok (.iconst 1, 1) := by decide +kernel
theorem dX11_image_46 : decode cX11_image 46 = .ok (.putfield 353, 3) := by decide +kernel
theorem dX11_image_49 : decode cX11_image 49 = .ok (.iconst 1, 1) := by decide +kernel
theorem dX11_image_50 : decode cX11_image 50 = .ok (.ireturn, 1) := by decide +kernel
theorem dX11_undo_0 : decode cX11_undo 0 = .ok (.aload_n 0, 1) := by decide +kernel
theorem dX11_undo_1 : decode cX11_undo 1 = .ok (.getfield 353, 3) := by decide +kernel
theorem dX11_undo_4 : decode cX11_undo 4 = .ok (.ifCond .ne 13, 3) := by decide +kernel
theorem dX11_undo_7 : decode cX11_undo 7 = .ok (.aload_n 0, 1) := by decide +kernel
theorem dX11_undo_8 : decode cX11_undo 8 = .ok (.getfield 12, 3) := by decide +kernel
theorem dX11_undo_11 : decode cX11_undo 11 = .ok (.ldc 177, 2) := by decide +kernel
theorem dX11_undo_13 : decode cX11_undo 13 = .ok (.invokevirtual 91, 3) := by decide +kernel
theorem dX11_undo_16 : decode cX11_undo 16 = .ok (.ireturn, 1) := by decide +kernel
theorem dX11_undo_17 : decode cX11_undo 17 = .ok (.aload_n 0, 1) := by decide +kernel
theorem dX11_undo_18 : decode cX11_undo 18 = .ok (.getfield 19, 3) := by decide +kernel
theorem dX11_undo_21 : decode cX11_undo 21 = .ok (.aload_n 0, 1) := by decide +kernel
theorem dX11_undo_22 : decode cX11_undo 22 = .ok (.getfield 37, 3) := by decide +kernel
theorem dX11_undo_25 : decode cX11_undo 25 = .ok (.invokevirtual 339, 3) := by decide +kernel
theorem dX11_undo_28 : decode cX11_undo 28 = .ok (.aload_n 0, 1) := by decide +kernel
theorem dX11_undo_29 : decode cX11_undo 29 = .ok (.getfield 26, 3) := by decide +kernel
theorem dX11_undo_32 : decode cX11_undo 32 = .ok (.aload_n 0, 1) := by decide +kernel
theorem dX11_undo_33 : decode cX11_undo 33 = .ok (.getfield 343, 3) := by decide +kernel
theorem dX11_undo_36 : decode cX11_undo 36 = .ok (.aload_n 0, 1) := by decide +kernel
theorem dX11_undo_37 : decode cX11_undo 37 = .ok (.getfield 346, 3) := by decide +kernel
theorem dX11_undo_40 : decode cX11_undo 40 = .ok (.invokevirtual 357, 3) := by decide +kernel
theorem dX11_undo_43 : decode cX11_undo 43 = .ok (.aload_n 0, 1) := by decide +kernel
theorem dX11_undo_44 : decode cX11_undo 44 = .ok (.getfield 33, 3) := by decide +kernel
theorem dX11_undo_47 : decode cX11_undo 47 = .ok (.aload_n 0, 1) := by decide +kernel
theorem dX11_undo_48 : decode cX11_undo 48 = .ok (.getfield 350, 3) := by decide +kernel
theorem dX11_undo_51 : decode cX11_undo 51 = .ok (.invokevirtual 361, 3) := by decide +kernel
theorem dX11_undo_54 : decode cX11_undo 54 = .ok (.aload_n 0, 1) := by decide +kernel
theorem dX11_undo_55 : decode cX11_undo 55 = .ok (.getfield 33, 3) := by decide +kernel
theorem dX11_undo_58 : decode cX11_undo 58 = .ok (.getfield 349, 3) := by decide +kernel
theorem dX11_undo_61 : decode cX11_undo 61 = .ok (.ireturn, 1) := by decide +kernel
theorem dX11_tear_0 : decode cX11_tear 0 = .ok (.aload_n 0, 1) := by decide +kernel
theorem dX11_tear_1 : decode cX11_tear 1 = .ok (.getfield 353, 3) := by decide +kernel
theorem dX11_tear_4 : decode cX11_tear 4 = .ok (.istore_n 1, 1) := by decide +kernel
theorem dX11_tear_5 : decode cX11_tear 5 = .ok (.aload_n 0, 1) := by decide +kernel
theorem dX11_tear_6 : decode cX11_tear 6 = .ok (.iconst 0, 1) := by decide +kernel
theorem dX11_tear_7 : decode cX11_tear 7 = .ok (.putfield 353, 3) := by decide +kernel
theorem dX11_tear_10 : decode cX11_tear 10 = .ok (.iload_n 1, 1) := by decide +kernel
theorem dX11_tear_11 : decode cX11_tear 11 = .ok (.ifCond .eq 7, 3) := by decide +kernel
theorem dX11_tear_14 : decode cX11_tear 14 = .ok (.iconst 1, 1) := by decide +kernel
theorem dX11_tear_15 : decode cX11_tear 15 = .ok (.goto 4, 3) := by decide +kernel
theorem dX11_tear_18 : decode cX11_tear 18 = .ok (.iconst 0, 1) := by decide +kernel
theorem dX11_tear_19 : decode cX11_tear 19 = .ok (.ireturn, 1) := by decide +kernel
theorem dX11_look_0 : decode cX11_look 0 = .ok (.iload_n 1, 1) := by decide +kernel
theorem dX11_look_1 : decode cX11_look 1 = .ok (.tableswitch 102 0 6 #[43, 51, 62, 70, 78, 86, 94], 43) := by decide +kernel
theorem dX11_look_44 : decode cX11_look 44 = .ok (.aload_n 0, 1) := by decide +kernel
theorem dX11_look_45 : decode cX11_look 45 = .ok (.getfield 19, 3) := by decide +kernel
theorem dX11_look_48 : decode cX11_look 48 = .ok (.getfield 95, 3) := by decide +kernel
theorem dX11_look_51 : decode cX11_look 51 = .ok (.ireturn, 1) := by decide +kernel
theorem dX11_look_52 : decode cX11_look 52 = .ok (.aload_n 0, 1) := by decide +kernel
theorem dX11_look_53 : decode cX11_look 53 = .ok (.getfield 19, 3) := by decide +kernel
theorem dX11_look_56 : decode cX11_look 56 = .ok (.invokevirtual 159, 3) := by decide +kernel
theorem dX11_look_59 : decode cX11_look 59 = .ok (.invokestatic 117, 3) := by decide +kernel
theorem dX11_look_62 : decode cX11_look 62 = .ok (.ireturn, 1) := by decide +kernel
theorem dX11_look_63 : decode cX11_look 63 = .ok (.aload_n 0, 1) := by decide +kernel
theorem dX11_look_64 : decode cX11_look 64 = .ok (.getfield 26, 3) := by decide +kernel
theorem dX11_look_67 : decode cX11_look 67 = .ok (.getfield 141, 3) := by decide +kernel
theorem dX11_look_70 : decode cX11_look 70 = .ok (.ireturn, 1) := by decide +kernel
theorem dX11_look_71 : decode cX11_look 71 = .ok (.aload_n 0, 1) := by decide +kernel
theorem dX11_look_72 : decode cX11_look 72 = .ok (.getfield 26, 3) := by decide +kernel
theorem dX11_look_75 : decode cX11_look 75 = .ok (.getfield 166, 3) := by decide +kernel
theorem dX11_look_78 : decode cX11_look 78 = .ok (.ireturn, 1) := by decide +kernel
theorem dX11_look_79 : decode cX11_look 79 = .ok (.aload_n 0, 1) := by decide +kernel
theorem dX11_look_80 : decode cX11_look 80 = .ok (.getfield 33, 3) := by decide +kernel
theorem dX11_look_83 : decode cX11_look 83 = .ok (.getfield 349, 3) := by decide +kernel
theorem dX11_look_86 : decode cX11_look 86 = .ok (.ireturn, 1) := by decide +kernel
theorem dX11_look_87 : decode cX11_look 87 = .ok (.aload_n 0, 1) := by decide +kernel
theorem dX11_look_88 : decode cX11_look 88 = .ok (.getfield 19, 3) := by decide +kernel
theorem dX11_look_91 : decode cX11_look 91 = .ok (.getfield 229, 3) := by decide +kernel
theorem dX11_look_94 : decode cX11_look 94 = .ok (.ireturn, 1) := by decide +kernel
theorem dX11_look_95 : decode cX11_look 95 = .ok (.aload_n 0, 1) := by decide +kernel
theorem dX11_look_96 : decode cX11_look 96 = .ok (.getfield 51, 3) := by decide +kernel
theorem dX11_look_99 : decode cX11_look 99 = .ok (.getfield 129, 3) := by decide +kernel
theorem dX11_look_102 : decode cX11_look 102 = .ok (.ireturn, 1) := by decide +kernel
theorem dX11_look_103 : decode cX11_look 103 = .ok (.aload_n 0, 1) := by decide +kernel
theorem dX11_look_104 : decode cX11_look 104 = .ok (.getfield 12, 3) := by decide +kernel
theorem dX11_look_107 : decode cX11_look 107 = .ok (.ldc 90, 2) := by decide +kernel
theorem dX11_look_109 : decode cX11_look 109 = .ok (.invokevirtual 91, 3) := by decide +kernel
theorem dX11_look_112 : decode cX11_look 112 = .ok (.ireturn, 1) := by decide +kernel
theorem dX11_status_0 : decode cX11_status 0 = .ok (.iload_n 1, 1) := by decide +kernel
theorem dX11_status_1 : decode cX11_status 1 = .ok (.iconst (-1), 1) := by decide +kernel
theorem dX11_status_2 : decode cX11_status 2 = .ok (.if_icmp .lt 9, 3) := by decide +kernel
theorem dX11_status_5 : decode cX11_status 5 = .ok (.iload_n 1, 1) := by decide +kernel
theorem dX11_status_6 : decode cX11_status 6 = .ok (.bipush 7, 2) := by decide +kernel
theorem dX11_status_8 : decode cX11_status 8 = .ok (.if_icmp .lt 13, 3) := by decide +kernel
theorem dX11_status_11 : decode cX11_status 11 = .ok (.aload_n 0, 1) := by decide +kernel
theorem dX11_status_12 : decode cX11_status 12 = .ok (.getfield 12, 3) := by decide +kernel
theorem dX11_status_15 : decode cX11_status 15 = .ok (.ldc 90, 2) := by decide +kernel
theorem dX11_status_17 : decode cX11_status 17 = .ok (.invokevirtual 91, 3) := by decide +kernel
theorem dX11_status_20 : decode cX11_status 20 = .ok (.ireturn, 1) := by decide +kernel
theorem dX11_status_21 : decode cX11_status 21 = .ok (.iload_n 1, 1) := by decide +kernel
theorem dX11_status_22 : decode cX11_status 22 = .ok (.ifCond .ge 13, 3) := by decide +kernel
theorem dX11_status_25 : decode cX11_status 25 = .ok (.aload_n 0, 1) := by decide +kernel
theorem dX11_status_26 : decode cX11_status 26 = .ok (.getfield 12, 3) := by decide +kernel
theorem dX11_status_29 : decode cX11_status 29 = .ok (.getfield 364, 3) := by decide +kernel
theorem dX11_status_32 : decode cX11_status 32 = .ok (.goto 12, 3) := by decide +kernel
theorem dX11_status_35 : decode cX11_status 35 = .ok (.aload_n 0, 1) := by decide +kernel
theorem dX11_status_36 : decode cX11_status 36 = .ok (.getfield 12, 3) := by decide +kernel
theorem dX11_status_39 : decode cX11_status 39 = .ok (.getfield 367, 3) := by decide +kernel
theorem dX11_status_42 : decode cX11_status 42 = .ok (.iload_n 1, 1) := by decide +kernel
theorem dX11_status_43 : decode cX11_status 43 = .ok (.iaload, 1) := by decide +kernel
theorem dX11_status_44 : decode cX11_status 44 = .ok (.ireturn, 1) := by decide +kernel
theorem dX11_isKey_0 : decode cX11_isKey 0 = .ok (.iload_n 0, 1) := by decide +kernel
theorem dX11_isKey_1 : decode cX11_isKey 1 = .ok (.ifCond .lt 13, 3) := by decide +kernel
theorem dX11_isKey_4 : decode cX11_isKey 4 = .ok (.iload_n 0, 1) := by decide +kernel
theorem dX11_isKey_5 : decode cX11_isKey 5 = .ok (.bipush 24, 2) := by decide +kernel
theorem dX11_isKey_7 : decode cX11_isKey 7 = .ok (.if_icmp .ge 7, 3) := by decide +kernel
theorem dX11_isKey_10 : decode cX11_isKey 10 = .ok (.iconst 1, 1) := by decide +kernel
theorem dX11_isKey_11 : decode cX11_isKey 11 = .ok (.goto 4, 3) := by decide +kernel
theorem dX11_isKey_14 : decode cX11_isKey 14 = .ok (.iconst 0, 1) := by decide +kernel
theorem dX11_isKey_15 : decode cX11_isKey 15 = .ok (.ireturn, 1) := by decide +kernel
theorem dX11_isSheet_0 : decode cX11_isSheet 0 = .ok (.iload_n 0, 1) := by decide +kernel
theorem dX11_isSheet_1 : decode cX11_isSheet 1 = .ok (.ifCond .lt 12, 3) := by decide +kernel
theorem dX11_isSheet_4 : decode cX11_isSheet 4 = .ok (.iload_n 0, 1) := by decide +kernel
theorem dX11_isSheet_5 : decode cX11_isSheet 5 = .ok (.iconst 4, 1) := by decide +kernel
theorem dX11_isSheet_6 : decode cX11_isSheet 6 = .ok (.if_icmp .ge 7, 3) := by decide +kernel
theorem dX11_isSheet_9 : decode cX11_isSheet 9 = .ok (.iconst 1, 1) := by decide +kernel
theorem dX11_isSheet_10 : decode cX11_isSheet 10 = .ok (.goto 4, 3) := by decide +kernel
theorem dX11_isSheet_13 : decode cX11_isSheet 13 = .ok (.iconst 0, 1) := by decide +kernel
theorem dX11_isSheet_14 : decode cX11_isSheet 14 = .ok (.ireturn, 1) := by decide +kernel
theorem dX11_allowedSets_0 : decode cX11_allowedSets 0 = .ok (.aload_n 0, 1) := by decide +kernel
theorem dX11_allowedSets_1 : decode cX11_allowedSets 1 = .ok (.getfield 19, 3) := by decide +kernel
theorem dX11_allowedSets_4 : decode cX11_allowedSets 4 = .ok (.getfield 370, 3) := by decide +kernel
theorem dX11_allowedSets_7 : decode cX11_allowedSets 7 = .ok (.aload_n 0, 1) := by decide +kernel
theorem dX11_allowedSets_8 : decode cX11_allowedSets 8 = .ok (.getfield 26, 3) := by decide +kernel
theorem dX11_allowedSets_11 : decode cX11_allowedSets 11 = .ok (.getfield 373, 3) := by decide +kernel
theorem dX11_allowedSets_14 : decode cX11_allowedSets 14 = .ok (.iadd, 1) := by decide +kernel
theorem dX11_allowedSets_15 : decode cX11_allowedSets 15 = .ok (.istore_n 1, 1) := by decide +kernel
theorem dX11_allowedSets_16 : decode cX11_allowedSets 16 = .ok (.aload_n 0, 1) := by decide +kernel
theorem dX11_allowedSets_17 : decode cX11_allowedSets 17 = .ok (.getfield 62, 3) := by decide +kernel
theorem dX11_allowedSets_20 : decode cX11_allowedSets 20 = .ok (.getfield 374, 3) := by decide +kernel
theorem dX11_allowedSets_23 : decode cX11_allowedSets 23 = .ok (.iload_n 1, 1) := by decide +kernel
theorem dX11_allowedSets_24 : decode cX11_allowedSets 24 = .ok (.if_icmp .eq 84, 3) := by decide +kernel
theorem dX11_allowedSets_27 : decode cX11_allowedSets 27 = .ok (.aload_n 0, 1) := by decide +kernel
theorem dX11_allowedSets_28 : decode cX11_allowedSets 28 = .ok (.getfield 19, 3) := by decide +kernel
theorem dX11_allowedSets_31 : decode cX11_allowedSets 31 = .ok (.invokevirtual 159, 3) := by decide +kernel
theorem dX11_allowedSets_34 : decode cX11_allowedSets 34 = .ok (.istore_n 2, 1) := by decide +kernel
theorem dX11_allowedSets_35 : decode cX11_allowedSets 35 = .ok (.aload_n 0, 1) := by decide +kernel
theorem dX11_allowedSets_36 : decode cX11_allowedSets 36 = .ok (.getfield 62, 3) := by decide +kernel
theorem dX11_allowedSets_39 : decode cX11_allowedSets 39 = .ok (.iload_n 2, 1) := by decide +kernel
theorem dX11_allowedSets_40 : decode cX11_allowedSets 40 = .ok (.putfield 377, 3) := by decide +kernel
theorem dX11_allowedSets_43 : decode cX11_allowedSets 43 = .ok (.iconst 0, 1) := by decide +kernel
theorem dX11_allowedSets_44 : decode cX11_allowedSets 44 = .ok (.istore_n 3, 1) := by decide +kernel
theorem dX11_allowedSets_45 : decode cX11_allowedSets 45 = .ok (.iload_n 3, 1) := by decide +kernel
theorem dX11_allowedSets_46 : decode cX11_allowedSets 46 = .ok (.iload_n 2, 1) := by decide +kernel
theorem dX11_allowedSets_47 : decode cX11_allowedSets 47 = .ok (.if_icmp .gt 53, 3) := by decide +kernel
theorem dX11_allowedSets_50 : decode cX11_allowedSets 50 = .ok (.aload_n 0, 1) := by decide +kernel
theorem dX11_allowedSets_51 : decode cX11_allowedSets 51 = .ok (.getfield 62, 3) := by decide +kernel
theorem dX11_allowedSets_54 : decode cX11_allowedSets 54 = .ok (.getfield 378, 3) := by decide +kernel
theorem dX11_allowedSets_57 : decode cX11_allowedSets 57 = .ok (.iload_n 3, 1) := by decide +kernel
theorem dX11_allowedSets_58 : decode cX11_allowedSets 58 = .ok (.iload_n 3, 1) := by decide +kernel
theorem dX11_allowedSets_59 : decode cX11_allowedSets 59 = .ok (.iload_n 2, 1) := by decide +kernel
theorem dX11_allowedSets_60 : decode cX11_allowedSets 60 = .ok (.iconst (-1), 1) := by decide +kernel
theorem dX11_allowedSets_61 : decode cX11_allowedSets 61 = .ok (.ixor, 1) := by decide +kernel
theorem dX11_allowedSets_62 : decode cX11_allowedSets 62 = .ok (.iand, 1) := by decide +kernel
theorem dX11_allowedSets_63 : decode cX11_allowedSets 63 = .ok (.ifCond .ne 29, 3) := by decide +kernel
theorem dX11_allowedSets_66 : decode cX11_allowedSets 66 = .ok (.aload_n 0, 1) := by decide +kernel
theorem dX11_allowedSets_67 : decode cX11_allowedSets 67 = .ok (.getfield 26, 3) := by decide +kernel
theorem dX11_allowedSets_70 : decode cX11_allowedSets 70 = .ok (.aload_n 0, 1) := by decide +kernel
theorem dX11_allowedSets_71 : decode cX11_allowedSets 71 = .ok (.getfield 26, 3) := by decide +kernel
theorem dX11_allowedSets_74 : decode cX11_allowedSets 74 = .ok (.getfield 166, 3) := by decide +kernel
theorem dX11_allowedSets_77 : decode cX11_allowedSets 77 = .ok (.iload_n 3, 1) := by decide +kernel
theorem dX11_allowedSets_78 : decode cX11_allowedSets 78 = .ok (.aload_n 0, 1) := by decide +kernel
theorem dX11_allowedSets_79 : decode cX11_allowedSets 79 = .ok (.getfield 19, 3) := by decide +kernel
theorem dX11_allowedSets_82 : decode cX11_allowedSets 82 = .ok (.invokevirtual 162, 3) := by decide +kernel
theorem dX11_allowedSets_85 : decode cX11_allowedSets 85 = .ok (.ifCond .eq 7, 3) := by decide +kernel
theorem dX11_allowedSets_88 : decode cX11_allowedSets 88 = .ok (.iconst 1, 1) := by decide +kernel
theorem dX11_allowedSets_89 : decode cX11_allowedSets 89 = .ok (.goto 4, 3) := by decide +kernel
theorem dX11_allowedSets_92 : decode cX11_allowedSets 92 = .ok (.iconst 0, 1) := by decide +kernel
theorem dX11_allowedSets_93 : decode cX11_allowedSets 93 = .ok (.bastore, 1) := by decide +kernel
theorem dX11_allowedSets_94 : decode cX11_allowedSets 94 = .ok (.iinc 3 1, 3) := by decide +kernel
theorem dX11_allowedSets_97 : decode cX11_allowedSets 97 = .ok (.goto (-52), 3) := by decide +kernel
theorem dX11_allowedSets_100 : decode cX11_allowedSets 100 = .ok (.aload_n 0, 1) := by decide +kernel
theorem dX11_allowedSets_101 : decode cX11_allowedSets 101 = .ok (.getfield 62, 3) := by decide +kernel
theorem dX11_allowedSets_104 : decode cX11_allowedSets 104 = .ok (.iload_n 1, 1) := by decide +kernel
theorem dX11_allowedSets_105 : decode cX11_allowedSets 105 = .ok (.putfield 374, 3) := by decide +kernel
theorem dX11_allowedSets_108 : decode cX11_allowedSets 108 = .ok (.aload_n 0, 1) := by decide +kernel
theorem dX11_allowedSets_109 : decode cX11_allowedSets 109 = .ok (.getfield 62, 3) := by decide +kernel
theorem dX11_allowedSets_112 : decode cX11_allowedSets 112 = .ok (.areturn, 1) := by decide +kernel
theorem dX11_openingSets_0 : decode cX11_openingSets 0 = .ok (.aload_n 0, 1) := by decide +kernel
theorem dX11_openingSets_1 : decode cX11_openingSets 1 = .ok (.getfield 55, 3) := by decide +kernel
theorem dX11_openingSets_4 : decode cX11_openingSets 4 = .ok (.aload_n 0, 1) := by decide +kernel
theorem dX11_openingSets_5 : decode cX11_openingSets 5 = .ok (.getfield 19, 3) := by decide +kernel
theorem dX11_openingSets_8 : decode cX11_openingSets 8 = .ok (.aload_n 0, 1) := by decide +kernel
theorem dX11_openingSets_9 : decode cX11_openingSets 9 = .ok (.getfield 33, 3) := by decide +kernel
theorem dX11_openingSets_12 : decode cX11_openingSets 12 = .ok (.invokevirtual 253, 3) := by decide +kernel
theorem dX11_openingSets_15 : decode cX11_openingSets 15 = .ok (.aload_n 0, 1) := by decide +kernel
theorem dX11_openingSets_16 : decode cX11_openingSets 16 = .ok (.getfield 19, 3) := by decide +kernel
theorem dX11_openingSets_19 : decode cX11_openingSets 19 = .ok (.invokevirtual 159, 3) := by decide +kernel
theorem dX11_openingSets_22 : decode cX11_openingSets 22 = .ok (.istore_n 2, 1) := by decide +kernel
theorem dX11_openingSets_23 : decode cX11_openingSets 23 = .ok (.aload_n 0, 1) := by decide +kernel
theorem dX11_openingSets_24 : decode cX11_openingSets 24 = .ok (.getfield 66, 3) := by decide +kernel
theorem dX11_openingSets_27 : decode cX11_openingSets 27 = .ok (.iload_n 2, 1) := by decide +kernel
theorem dX11_openingSets_28 : decode cX11_openingSets 28 = .ok (.putfield 377, 3) := by decide +kernel
theorem dX11_openingSets_31 : decode cX11_openingSets 31 = .ok (.iconst 0, 1) := by decide +kernel
theorem dX11_openingSets_32 : decode cX11_openingSets 32 = .ok (.istore_n 3, 1) := by decide +kernel
theorem dX11_openingSets_33 : decode cX11_openingSets 33 = .ok (.iload_n 3, 1) := by decide +kernel
theorem dX11_openingSets_34 : decode cX11_openingSets 34 = .ok (.iload_n 2, 1) := by decide +kernel
theorem dX11_openingSets_35 : decode cX11_openingSets 35 = .ok (.if_icmp .gt 43, 3) := by decide +kernel
theorem dX11_openingSets_38 : decode cX11_openingSets 38 = .ok (.aload_n 0, 1) := by decide +kernel
theorem dX11_openingSets_39 : decode cX11_openingSets 39 = .ok (.getfield 66, 3) := by decide +kernel
theorem dX11_openingSets_42 : decode cX11_openingSets 42 = .ok (.getfield 378, 3) := by decide +kernel
theorem dX11_openingSets_45 : decode cX11_openingSets 45 = .ok (.iload_n 3, 1) := by decide +kernel
theorem dX11_openingSets_46 : decode cX11_openingSets 46 = .ok (.iload_n 3, 1) := by decide +kernel
theorem dX11_openingSets_47 : decode cX11_openingSets 47 = .ok (.iload_n 2, 1) := by decide +kernel
theorem dX11_openingSets_48 : decode cX11_openingSets 48 = .ok (.iconst (-1), 1) := by decide +kernel
theorem dX11_openingSets_49 : decode cX11_openingSets 49 = .ok (.ixor, 1) := by decide +kernel
theorem dX11_openingSets_50 : decode cX11_openingSets 50 = .ok (.iand, 1) := by decide +kernel
theorem dX11_openingSets_51 : decode cX11_openingSets 51 = .ok (.ifCond .ne 19, 3) := by decide +kernel
theorem dX11_openingSets_54 : decode cX11_openingSets 54 = .ok (.aload_n 0, 1) := by decide +kernel
theorem dX11_openingSets_55 : decode cX11_openingSets 55 = .ok (.getfield 55, 3) := by decide +kernel
theorem dX11_openingSets_58 : decode cX11_openingSets 58 = .ok (.iload_n 1, 1) := by decide +kernel
theorem dX11_openingSets_59 : decode cX11_openingSets 59 = .ok (.iload_n 3, 1) := by decide +kernel
theorem dX11_openingSets_60 : decode cX11_openingSets 60 = .ok (.invokevirtual 257, 3) := by decide +kernel
theorem dX11_openingSets_63 : decode cX11_openingSets 63 = .ok (.ifCond .eq 7, 3) := by decide +kernel
theorem dX11_openingSets_66 : decode cX11_openingSets 66 = .ok (.iconst 1, 1) := by decide +kernel
theorem dX11_openingSets_67 : decode cX11_openingSets 67 = .ok (.goto 4, 3) := by decide +kernel
theorem dX11_openingSets_70 : decode cX11_openingSets 70 = .ok (.iconst 0, 1) := by decide +kernel
theorem dX11_openingSets_71 : decode cX11_openingSets 71 = .ok (.bastore, 1) := by decide +kernel
theorem dX11_openingSets_72 : decode cX11_openingSets 72 = .ok (.iinc 3 1, 3) := by decide +kernel
theorem dX11_openingSets_75 : decode cX11_openingSets 75 = .ok (.goto (-42), 3) := by decide +kernel
theorem dX11_openingSets_78 : decode cX11_openingSets 78 = .ok (.aload_n 0, 1) := by decide +kernel
theorem dX11_openingSets_79 : decode cX11_openingSets 79 = .ok (.getfield 66, 3) := by decide +kernel
theorem dX11_openingSets_82 : decode cX11_openingSets 82 = .ok (.areturn, 1) := by decide +kernel
theorem dX11_listedByText_0 : decode cX11_listedByText 0 = .ok (.aload_n 0, 1) := by decide +kernel
theorem dX11_listedByText_1 : decode cX11_listedByText 1 = .ok (.getfield 26, 3) := by decide +kernel
theorem dX11_listedByText_4 : decode cX11_listedByText 4 = .ok (.getfield 166, 3) := by decide +kernel
theorem dX11_listedByText_7 : decode cX11_listedByText 7 = .ok (.ifCond .ge 13, 3) := by decide +kernel
theorem dX11_listedByText_10 : decode cX11_listedByText 10 = .ok (.aload_n 0, 1) := by decide +kernel
theorem dX11_listedByText_11 : decode cX11_listedByText 11 = .ok (.getfield 12, 3) := by decide +kernel
theorem dX11_listedByText_14 : decode cX11_listedByText 14 = .ok (.ldc 169, 2) := by decide +kernel
theorem dX11_listedByText_16 : decode cX11_listedByText 16 = .ok (.invokevirtual 91, 3) := by decide +kernel
theorem dX11_listedByText_19 : decode cX11_listedByText 19 = .ok (.ireturn, 1) := by decide +kernel
theorem dX11_listedByText_20 : decode cX11_listedByText 20 = .ok (.iload_n 1, 1) := by decide +kernel
theorem dX11_listedByText_21 : decode cX11_listedByText 21 = .ok (.iconst (-1), 1) := by decide +kernel
theorem dX11_listedByText_22 : decode cX11_listedByText 22 = .ok (.if_icmp .ge 13, 3) := by decide +kernel
theorem dX11_listedByText_25 : decode cX11_listedByText 25 = .ok (.aload_n 0, 1) := by decide +kernel
theorem dX11_listedByText_26 : decode cX11_listedByText 26 = .ok (.getfield 12, 3) := by decide +kernel
theorem dX11_listedByText_29 : decode cX11_listedByText 29 = .ok (.ldc 90, 2) := by decide +kernel
theorem dX11_listedByText_31 : decode cX11_listedByText 31 = .ok (.invokevirtual 91, 3) := by decide +kernel
theorem dX11_listedByText_34 : decode cX11_listedByText 34 = .ok (.ireturn, 1) := by decide +kernel
theorem dX11_listedByText_35 : decode cX11_listedByText 35 = .ok (.aload_n 0, 1) := by decide +kernel
theorem dX11_listedByText_36 : decode cX11_listedByText 36 = .ok (.aload_n 0, 1) := by decide +kernel
theorem dX11_listedByText_37 : decode cX11_listedByText 37 = .ok (.invokevirtual 170, 3) := by decide +kernel
theorem dX11_listedByText_40 : decode cX11_listedByText 40 = .ok (.iload_n 1, 1) := by decide +kernel
theorem dX11_listedByText_41 : decode cX11_listedByText 41 = .ok (.iload_n 2, 1) := by decide +kernel
theorem dX11_listedByText_42 : decode cX11_listedByText 42 = .ok (.invokevirtual 382, 3) := by decide +kernel
theorem dX11_listedByText_45 : decode cX11_listedByText 45 = .ok (.ireturn, 1) := by decide +kernel
theorem dX11_listedByHanging_0 : decode cX11_listedByHanging 0 = .ok (.aload_n 0, 1) := by decide +kernel
theorem dX11_listedByHanging_1 : decode cX11_listedByHanging 1 = .ok (.getfield 33, 3) := by decide +kernel
theorem dX11_listedByHanging_4 : decode cX11_listedByHanging 4 = .ok (.iload_n 1, 1) := by decide +kernel
theorem dX11_listedByHanging_5 : decode cX11_listedByHanging 5 = .ok (.invokevirtual 191, 3) := by decide +kernel
theorem dX11_listedByHanging_8 : decode cX11_listedByHanging 8 = .ok (.ifCond .eq 8, 3) := by decide +kernel
theorem dX11_listedByHanging_11 : decode cX11_listedByHanging 11 = .ok (.iload_n 2, 1) := by decide +kernel
theorem dX11_listedByHanging_12 : decode cX11_listedByHanging 12 = .ok (.iconst (-1), 1) := by decide +kernel
theorem dX11_listedByHanging_13 : decode cX11_listedByHanging 13 = .ok (.if_icmp .ge 13, 3) := by decide +kernel
theorem dX11_listedByHanging_16 : decode cX11_listedByHanging 16 = .ok (.aload_n 0, 1) := by decide +kernel
theorem dX11_listedByHanging_17 : decode cX11_listedByHanging 17 = .ok (.getfield 12, 3) := by decide +kernel
theorem dX11_listedByHanging_20 : decode cX11_listedByHanging 20 = .ok (.ldc 90, 2) := by decide +kernel
theorem dX11_listedByHanging_22 : decode cX11_listedByHanging 22 = .ok (.invokevirtual 91, 3) := by decide +kernel
theorem dX11_listedByHanging_25 : decode cX11_listedByHanging 25 = .ok (.ireturn, 1) := by decide +kernel
theorem dX11_listedByHanging_26 : decode cX11_listedByHanging 26 = .ok (.aload_n 0, 1) := by decide +kernel
theorem dX11_listedByHanging_27 : decode cX11_listedByHanging 27 = .ok (.aload_n 0, 1) := by decide +kernel
theorem dX11_listedByHanging_28 : decode cX11_listedByHanging 28 = .ok (.iload_n 1, 1) := by decide +kernel
theorem dX11_listedByHanging_29 : decode cX11_listedByHanging 29 = .ok (.invokevirtual 305, 3) := by decide +kernel
theorem dX11_listedByHanging_32 : decode cX11_listedByHanging 32 = .ok (.iload_n 2, 1) := by decide +kernel
theorem dX11_listedByHanging_33 : decode cX11_listedByHanging 33 = .ok (.iload_n 3, 1) := by decide +kernel
theorem dX11_listedByHanging_34 : decode cX11_listedByHanging 34 = .ok (.invokevirtual 382, 3) := by decide +kernel
theorem dX11_listedByHanging_37 : decode cX11_listedByHanging 37 = .ok (.ireturn, 1) := by decide +kernel
theorem dX11_listed_0 : decode cX11_listed 0 = .ok (.iload_n 3, 1) := by decide +kernel
theorem dX11_listed_1 : decode cX11_listed 1 = .ok (.ifCond .eq 14, 3) := by decide +kernel
theorem dX11_listed_4 : decode cX11_listed 4 = .ok (.aload_n 0, 1) := by decide +kernel
theorem dX11_listed_5 : decode cX11_listed 5 = .ok (.getfield 72, 3) := by decide +kernel
theorem dX11_listed_8 : decode cX11_listed 8 = .ok (.aload_n 1, 1) := by decide +kernel
theorem dX11_listed_9 : decode cX11_listed 9 = .ok (.invokevirtual 267, 3) := by decide +kernel
theorem dX11_listed_12 : decode cX11_listed 12 = .ok (.goto 11, 3) := by decide +kernel
theorem dX11_listed_15 : decode cX11_listed 15 = .ok (.aload_n 0, 1) := by decide +kernel
theorem dX11_listed_16 : decode cX11_listed 16 = .ok (.getfield 72, 3) := by decide +kernel
theorem dX11_listed_19 : decode cX11_listed 19 = .ok (.aload_n 1, 1) := by decide +kernel
theorem dX11_listed_20 : decode cX11_listed 20 = .ok (.invokevirtual 309, 3) := by decide +kernel
theorem dX11_listed_23 : decode cX11_listed 23 = .ok (.iload_n 2, 1) := by decide +kernel
theorem dX11_listed_24 : decode cX11_listed 24 = .ok (.ifCond .ge 11, 3) := by decide +kernel
theorem dX11_listed_27 : decode cX11_listed 27 = .ok (.aload_n 0, 1) := by decide +kernel
theorem dX11_listed_28 : decode cX11_listed 28 = .ok (.getfield 72, 3) := by decide +kernel
theorem dX11_listed_31 : decode cX11_listed 31 = .ok (.getfield 271, 3) := by decide +kernel
theorem dX11_listed_34 : decode cX11_listed 34 = .ok (.ireturn, 1) := by decide +kernel
theorem dX11_listed_35 : decode cX11_listed 35 = .ok (.iload_n 2, 1) := by decide +kernel
theorem dX11_listed_36 : decode cX11_listed 36 = .ok (.aload_n 0, 1) := by decide +kernel
theorem dX11_listed_37 : decode cX11_listed 37 = .ok (.getfield 72, 3) := by decide +kernel
theorem dX11_listed_40 : decode cX11_listed 40 = .ok (.getfield 271, 3) := by decide +kernel
theorem dX11_listed_43 : decode cX11_listed 43 = .ok (.if_icmp .ge 15, 3) := by decide +kernel
theorem dX11_listed_46 : decode cX11_listed 46 = .ok (.aload_n 0, 1) := by decide +kernel
theorem dX11_listed_47 : decode cX11_listed 47 = .ok (.getfield 72, 3) := by decide +kernel
theorem dX11_listed_50 : decode cX11_listed 50 = .ok (.getfield 386, 3) := by decide +kernel
theorem dX11_listed_53 : decode cX11_listed 53 = .ok (.iload_n 2, 1) := by decide +kernel
theorem dX11_listed_54 : decode cX11_listed 54 = .ok (.iaload, 1) := by decide +kernel
theorem dX11_listed_55 : decode cX11_listed 55 = .ok (.goto 12, 3) := by decide +kernel
theorem dX11_listed_58 : decode cX11_listed 58 = .ok (.aload_n 0, 1) := by decide +kernel
theorem dX11_listed_59 : decode cX11_listed 59 = .ok (.getfield 12, 3) := by decide +kernel
theorem dX11_listed_62 : decode cX11_listed 62 = .ok (.ldc 177, 2) := by decide +kernel
theorem dX11_listed_64 : decode cX11_listed 64 = .ok (.invokevirtual 91, 3) := by decide +kernel
theorem dX11_listed_67 : decode cX11_listed 67 = .ok (.ireturn, 1) := by decide +kernel
theorem dX11_firstApart_0 : decode cX11_firstApart 0 = .ok (.aload_n 0, 1) := by decide +kernel
theorem dX11_firstApart_1 : decode cX11_firstApart 1 = .ok (.getfield 33, 3) := by decide +kernel
theorem dX11_firstApart_4 : decode cX11_firstApart 4 = .ok (.iload_n 1, 1) := by decide +kernel
theorem dX11_firstApart_5 : decode cX11_firstApart 5 = .ok (.invokevirtual 191, 3) := by decide +kernel
theorem dX11_firstApart_8 : decode cX11_firstApart 8 = .ok (.ifCond .ne 13, 3) := by decide +kernel
theorem dX11_firstApart_11 : decode cX11_firstApart 11 = .ok (.aload_n 0, 1) := by decide +kernel
theorem dX11_firstApart_12 : decode cX11_firstApart 12 = .ok (.getfield 12, 3) := by decide +kernel
theorem dX11_firstApart_15 : decode cX11_firstApart 15 = .ok (.ldc 90, 2) := by decide +kernel
theorem dX11_firstApart_17 : decode cX11_firstApart 17 = .ok (.invokevirtual 91, 3) := by decide +kernel
theorem dX11_firstApart_20 : decode cX11_firstApart 20 = .ok (.ireturn, 1) := by decide +kernel
theorem dX11_firstApart_21 : decode cX11_firstApart 21 = .ok (.aload_n 0, 1) := by decide +kernel
theorem dX11_firstApart_22 : decode cX11_firstApart 22 = .ok (.getfield 26, 3) := by decide +kernel
theorem dX11_firstApart_25 : decode cX11_firstApart 25 = .ok (.getfield 166, 3) := by decide +kernel
theorem dX11_firstApart_28 : decode cX11_firstApart 28 = .ok (.ifCond .ge 13, 3) := by decide +kernel
theorem dX11_firstApart_31 : decode cX11_firstApart 31 = .ok (.aload_n 0, 1) := by decide +kernel
theorem dX11_firstApart_32 : decode cX11_firstApart 32 = .ok (.getfield 12, 3) := by decide +kernel
theorem dX11_firstApart_35 : decode cX11_firstApart 35 = .ok (.ldc 169, 2) := by decide +kernel
theorem dX11_firstApart_37 : decode cX11_firstApart 37 = .ok (.invokevirtual 91, 3) := by decide +kernel
theorem dX11_firstApart_40 : decode cX11_firstApart 40 = .ok (.ireturn, 1) := by decide +kernel
theorem dX11_firstApart_41 : decode cX11_firstApart 41 = .ok (.aload_n 0, 1) := by decide +kernel
theorem dX11_firstApart_42 : decode cX11_firstApart 42 = .ok (.invokevirtual 170, 3) := by decide +kernel
theorem dX11_firstApart_45 : decode cX11_firstApart 45 = .ok (.astore_n 3, 1) := by decide +kernel
theorem dX11_firstApart_46 : decode cX11_firstApart 46 = .ok (.aload_n 0, 1) := by decide +kernel
theorem dX11_firstApart_47 : decode cX11_firstApart 47 = .ok (.getfield 55, 3) := by decide +kernel
theorem dX11_firstApart_50 : decode cX11_firstApart 50 = .ok (.aload_n 0, 1) := by decide +kernel
theorem dX11_firstApart_51 : decode cX11_firstApart 51 = .ok (.getfield 19, 3) := by decide +kernel
theorem dX11_firstApart_54 : decode cX11_firstApart 54 = .ok (.aload_n 0, 1) := by decide +kernel
theorem dX11_firstApart_55 : decode cX11_firstApart 55 = .ok (.getfield 33, 3) := by decide +kernel
theorem dX11_firstApart_58 : decode cX11_firstApart 58 = .ok (.invokevirtual 253, 3) := by decide +kernel
theorem dX11_firstApart_61 : decode cX11_firstApart 61 = .ok (.aload_n 0, 1) := by decide +kernel
theorem dX11_firstApart_62 : decode cX11_firstApart 62 = .ok (.getfield 19, 3) := by decide +kernel
theorem dX11_firstApart_65 : decode cX11_firstApart 65 = .ok (.invokevirtual 159, 3) := by decide +kernel
theorem dX11_firstApart_68 : decode cX11_firstApart 68 = .ok (.istore 4, 2) := by decide +kernel
theorem dX11_firstApart_70 : decode cX11_firstApart 70 = .ok (.iconst 0, 1) := by decide +kernel
theorem dX11_firstApart_71 : decode cX11_firstApart 71 = .ok (.istore 5, 2) := by decide +kernel
theorem dX11_firstApart_73 : decode cX11_firstApart 73 = .ok (.iload 5, 2) := by decide +kernel
theorem dX11_firstApart_75 : decode cX11_firstApart 75 = .ok (.iload 4, 2) := by decide +kernel
theorem dX11_firstApart_77 : decode cX11_firstApart 77 = .ok (.if_icmp .gt 59, 3) := by decide +kernel
theorem dX11_firstApart_80 : decode cX11_firstApart 80 = .ok (.iload 5, 2) := by decide +kernel
theorem dX11_firstApart_82 : decode cX11_firstApart 82 = .ok (.iload 4, 2) := by decide +kernel
theorem dX11_firstApart_84 : decode cX11_firstApart 84 = .ok (.iconst (-1), 1) := by decide +kernel
theorem dX11_firstApart_85 : decode cX11_firstApart 85 = .ok (.ixor, 1) := by decide +kernel
theorem dX11_firstApart_86 : decode cX11_firstApart 86 = .ok (.iand, 1) := by decide +kernel
theorem dX11_firstApart_87 : decode cX11_firstApart 87 = .ok (.ifCond .ne 21, 3) := by decide +kernel
theorem dX11_firstApart_90 : decode cX11_firstApart 90 = .ok (.aload_n 0, 1) := by decide +kernel
theorem dX11_firstApart_91 : decode cX11_firstApart 91 = .ok (.getfield 55, 3) := by decide +kernel
theorem dX11_firstApart_94 : decode cX11_firstApart 94 = .ok (.iload_n 1, 1) := by decide +kernel
theorem dX11_firstApart_95 : decode cX11_firstApart 95 = .ok (.iload 5, 2) := by decide +kernel
theorem dX11_firstApart_97 : decode cX11_firstApart 97 = .ok (.invokevirtual 257, 3) := by decide +kernel
theorem dX11_firstApart_100 : decode cX11_firstApart 100 = .ok (.iload_n 2, 1) := by decide +kernel
theorem dX11_firstApart_101 : decode cX11_firstApart 101 = .ok (.if_icmp .ne 7, 3) := by decide +kernel
theorem dX11_firstApart_104 : decode cX11_firstApart 104 = .ok (.iconst 1, 1) := by decide +kernel
theorem dX11_firstApart_105 : decode cX11_firstApart 105 = .ok (.goto 4, 3) := by decide +kernel
theorem dX11_firstApart_108 : decode cX11_firstApart 108 = .ok (.iconst 0, 1) := by decide +kernel
theorem dX11_firstApart_109 : decode cX11_firstApart 109 = .ok (.istore 6, 2) := by decide +kernel
theorem dX11_firstApart_111 : decode cX11_firstApart 111 = .ok (.iload 6, 2) := by decide +kernel
theorem dX11_firstApart_113 : decode cX11_firstApart 113 = .ok (.ifCond .eq 17, 3) := by decide +kernel
theorem dX11_firstApart_116 : decode cX11_firstApart 116 = .ok (.aload_n 3, 1) := by decide +kernel
theorem dX11_firstApart_117 : decode cX11_firstApart 117 = .ok (.getfield 378, 3) := by decide +kernel
theorem dX11_firstApart_120 : decode cX11_firstApart 120 = .ok (.iload 5, 2) := by decide +kernel
theorem dX11_firstApart_122 : decode cX11_firstApart 122 = .ok (.baload, 1) := by decide +kernel
theorem dX11_firstApart_123 : decode cX11_firstApart 123 = .ok (.iload_n 2, 1) := by decide +kernel
theorem dX11_firstApart_124 : decode cX11_firstApart 124 = .ok (.if_icmp .eq 6, 3) := by decide +kernel
theorem dX11_firstApart_127 : decode cX11_firstApart 127 = .ok (.iload 5, 2) := by decide +kernel
theorem dX11_firstApart_129 : decode cX11_firstApart 129 = .ok (.ireturn, 1) := by decide +kernel
theorem dX11_firstApart_130 : decode cX11_firstApart 130 = .ok (.iinc 5 1, 3) := by decide +kernel
theorem dX11_firstApart_133 : decode cX11_firstApart 133 = .ok (.goto (-60), 3) := by decide +kernel
theorem dX11_firstApart_136 : decode cX11_firstApart 136 = .ok (.aload_n 0, 1) := by decide +kernel
theorem dX11_firstApart_137 : decode cX11_firstApart 137 = .ok (.getfield 12, 3) := by decide +kernel
theorem dX11_firstApart_140 : decode cX11_firstApart 140 = .ok (.ldc 177, 2) := by decide +kernel
theorem dX11_firstApart_142 : decode cX11_firstApart 142 = .ok (.invokevirtual 91, 3) := by decide +kernel
theorem dX11_firstApart_145 : decode cX11_firstApart 145 = .ok (.ireturn, 1) := by decide +kernel
theorem dX11_leastBesides_0 : decode cX11_leastBesides 0 = .ok (.iload_n 3, 1) := by decide +kernel
theorem dX11_leastBesides_1 : decode cX11_leastBesides 1 = .ok (.ifCond .gt 21, 3) := by decide +kernel
theorem dX11_leastBesides_4 : decode cX11_leastBesides 4 = .ok (.aload_n 0, 1) := by decide +kernel
theorem dX11_leastBesides_5 : decode cX11_leastBesides 5 = .ok (.getfield 33, 3) := by decide +kernel
theorem dX11_leastBesides_8 : decode cX11_leastBesides 8 = .ok (.iload_n 1, 1) := by decide +kernel
theorem dX11_leastBesides_9 : decode cX11_leastBesides 9 = .ok (.iload_n 2, 1) := by decide +kernel
theorem dX11_leastBesides_10 : decode cX11_leastBesides 10 = .ok (.invokevirtual 238, 3) := by decide +kernel
theorem dX11_leastBesides_13 : decode cX11_leastBesides 13 = .ok (.ifCond .eq 7, 3) := by decide +kernel
theorem dX11_leastBesides_16 : decode cX11_leastBesides 16 = .ok (.iconst 0, 1) := by decide +kernel
theorem dX11_leastBesides_17 : decode cX11_leastBesides 17 = .ok (.goto 4, 3) := by decide +kernel
theorem dX11_leastBesides_20 : decode cX11_leastBesides 20 = .ok (.iconst (-1), 1) := by decide +kernel
theorem dX11_leastBesides_21 : decode cX11_leastBesides 21 = .ok (.ireturn, 1) := by decide +kernel
theorem dX11_leastBesides_22 : decode cX11_leastBesides 22 = .ok (.aload_n 0, 1) := by decide +kernel
theorem dX11_leastBesides_23 : decode cX11_leastBesides 23 = .ok (.getfield 33, 3) := by decide +kernel
theorem dX11_leastBesides_26 : decode cX11_leastBesides 26 = .ok (.invokevirtual 389, 3) := by decide +kernel
theorem dX11_leastBesides_29 : decode cX11_leastBesides 29 = .ok (.iload_n 2, 1) := by decide +kernel
theorem dX11_leastBesides_30 : decode cX11_leastBesides 30 = .ok (.iconst (-1), 1) := by decide +kernel
theorem dX11_leastBesides_31 : decode cX11_leastBesides 31 = .ok (.ixor, 1) := by decide +kernel
theorem dX11_leastBesides_32 : decode cX11_leastBesides 32 = .ok (.iand, 1) := by decide +kernel
theorem dX11_leastBesides_33 : decode cX11_leastBesides 33 = .ok (.istore 5, 2) := by decide +kernel
theorem dX11_leastBesides_35 : decode cX11_leastBesides 35 = .ok (.iconst 0, 1) := by decide +kernel
theorem dX11_leastBesides_36 : decode cX11_leastBesides 36 = .ok (.istore 6, 2) := by decide +kernel
theorem dX11_leastBesides_38 : decode cX11_leastBesides 38 = .ok (.iload 6, 2) := by decide +kernel
theorem dX11_leastBesides_40 : decode cX11_leastBesides 40 = .ok (.iload 4, 2) := by decide +kernel
theorem dX11_leastBesides_42 : decode cX11_leastBesides 42 = .ok (.if_icmp .ge 50, 3) := by decide +kernel
theorem dX11_leastBesides_45 : decode cX11_leastBesides 45 = .ok (.iload 5, 2) := by decide +kernel
theorem dX11_leastBesides_47 : decode cX11_leastBesides 47 = .ok (.iload 6, 2) := by decide +kernel
theorem dX11_leastBesides_49 : decode cX11_leastBesides 49 = .ok (.ishr, 1) := by decide +kernel
theorem dX11_leastBesides_50 : decode cX11_leastBesides 50 = .ok (.iconst 1, 1) := by decide +kernel
theorem dX11_leastBesides_51 : decode cX11_leastBesides 51 = .ok (.iand, 1) := by decide +kernel
theorem dX11_leastBesides_52 : decode cX11_leastBesides 52 = .ok (.ifCond .eq 34, 3) := by decide +kernel
theorem dX11_leastBesides_55 : decode cX11_leastBesides 55 = .ok (.aload_n 0, 1) := by decide +kernel
theorem dX11_leastBesides_56 : decode cX11_leastBesides 56 = .ok (.iload_n 1, 1) := by decide +kernel
theorem dX11_leastBesides_57 : decode cX11_leastBesides 57 = .ok (.iload_n 2, 1) := by decide +kernel
theorem dX11_leastBesides_58 : decode cX11_leastBesides 58 = .ok (.iconst 1, 1) := by decide +kernel
theorem dX11_leastBesides_59 : decode cX11_leastBesides 59 = .ok (.iload 6, 2) := by decide +kernel
theorem dX11_leastBesides_61 : decode cX11_leastBesides 61 = .ok (.ishl, 1) := by decide +kernel
theorem dX11_leastBesides_62 : decode cX11_leastBesides 62 = .ok (.ior, 1) := by decide +kernel
theorem dX11_leastBesides_63 : decode cX11_leastBesides 63 = .ok (.iload_n 3, 1) := by decide +kernel
theorem dX11_leastBesides_64 : decode cX11_leastBesides 64 = .ok (.iconst 1, 1) := by decide +kernel
theorem dX11_leastBesides_65 : decode cX11_leastBesides 65 = .ok (.isub, 1) := by decide +kernel
theorem dX11_leastBesides_66 : decode cX11_leastBesides 66 = .ok (.iload 6, 2) := by decide +kernel
theorem dX11_leastBesides_68 : decode cX11_leastBesides 68 = .ok (.invokevirtual 260, 3) := by decide +kernel
theorem dX11_leastBesides_71 : decode cX11_leastBesides 71 = .ok (.istore 7, 2) := by decide +kernel
theorem dX11_leastBesides_73 : decode cX11_leastBesides 73 = .ok (.iload 7, 2) := by decide +kernel
theorem dX11_leastBesides_75 : decode cX11_leastBesides 75 = .ok (.ifCond .lt 11, 3) := by decide +kernel
theorem dX11_leastBesides_78 : decode cX11_leastBesides 78 = .ok (.iload 7, 2) := by decide +kernel
theorem dX11_leastBesides_80 : decode cX11_leastBesides 80 = .ok (.iconst 1, 1) := by decide +kernel
theorem dX11_leastBesides_81 : decode cX11_leastBesides 81 = .ok (.iload 6, 2) := by decide +kernel
theorem dX11_leastBesides_83 : decode cX11_leastBesides 83 = .ok (.ishl, 1) := by decide +kernel
theorem dX11_leastBesides_84 : decode cX11_leastBesides 84 = .ok (.ior, 1) := by decide +kernel
theorem dX11_leastBesides_85 : decode cX11_leastBesides 85 = .ok (.ireturn, 1) := by decide +kernel
theorem dX11_leastBesides_86 : decode cX11_leastBesides 86 = .ok (.iinc 6 1, 3) := by decide +kernel
theorem dX11_leastBesides_89 : decode cX11_leastBesides 89 = .ok (.goto (-51), 3) := by decide +kernel
theorem dX11_leastBesides_92 : decode cX11_leastBesides 92 = .ok (.iconst (-1), 1) := by decide +kernel
theorem dX11_leastBesides_93 : decode cX11_leastBesides 93 = .ok (.ireturn, 1) := by decide +kernel
theorem dX11_hangSideBySide_0 : decode cX11_hangSideBySide 0 = .ok (.aload_n 0, 1) := by decide +kernel
theorem dX11_hangSideBySide_1 : decode cX11_hangSideBySide 1 = .ok (.getfield 19, 3) := by decide +kernel
theorem dX11_hangSideBySide_4 : decode cX11_hangSideBySide 4 = .ok (.invokevirtual 392, 3) := by decide +kernel
theorem dX11_hangSideBySide_7 : decode cX11_hangSideBySide 7 = .ok (.aload_n 0, 1) := by decide +kernel
theorem dX11_hangSideBySide_8 : decode cX11_hangSideBySide 8 = .ok (.getfield 19, 3) := by decide +kernel
theorem dX11_hangSideBySide_11 : decode cX11_hangSideBySide 11 = .ok (.invokevirtual 159, 3) := by decide +kernel
theorem dX11_hangSideBySide_14 : decode cX11_hangSideBySide 14 = .ok (.istore_n 1, 1) := by decide +kernel
theorem dX11_hangSideBySide_15 : decode cX11_hangSideBySide 15 = .ok (.aload_n 0, 1) := by decide +kernel
theorem dX11_hangSideBySide_16 : decode cX11_hangSideBySide 16 = .ok (.getfield 33, 3) := by decide +kernel
theorem dX11_hangSideBySide_19 : decode cX11_hangSideBySide 19 = .ok (.getfield 349, 3) := by decide +kernel
theorem dX11_hangSideBySide_22 : decode cX11_hangSideBySide 22 = .ok (.istore_n 2, 1) := by decide +kernel
theorem dX11_hangSideBySide_23 : decode cX11_hangSideBySide 23 = .ok (.iconst 0, 1) := by decide +kernel
theorem dX11_hangSideBySide_24 : decode cX11_hangSideBySide 24 = .ok (.istore_n 3, 1) := by decide +kernel
theorem dX11_hangSideBySide_25 : decode cX11_hangSideBySide 25 = .ok (.iload_n 3, 1) := by decide +kernel
theorem dX11_hangSideBySide_26 : decode cX11_hangSideBySide 26 = .ok (.aload_n 0, 1) := by decide +kernel
theorem dX11_hangSideBySide_27 : decode cX11_hangSideBySide 27 = .ok (.getfield 72, 3) := by decide +kernel
theorem dX11_hangSideBySide_30 : decode cX11_hangSideBySide 30 = .ok (.getfield 271, 3) := by decide +kernel
theorem dX11_hangSideBySide_33 : decode cX11_hangSideBySide 33 = .ok (.if_icmp .ge 40, 3) := by decide +kernel
theorem dX11_hangSideBySide_36 : decode cX11_hangSideBySide 36 = .ok (.aload_n 0, 1) := by decide +kernel
theorem dX11_hangSideBySide_37 : decode cX11_hangSideBySide 37 = .ok (.getfield 33, 3) := by decide +kernel
theorem dX11_hangSideBySide_40 : decode cX11_hangSideBySide 40 = .ok (.iload_n 3, 1) := by decide +kernel
theorem dX11_hangSideBySide_41 : decode cX11_hangSideBySide 41 = .ok (.iconst 0, 1) := by decide +kernel
theorem dX11_hangSideBySide_42 : decode cX11_hangSideBySide 42 = .ok (.invokevirtual 188, 3) := by decide +kernel
theorem dX11_hangSideBySide_45 : decode cX11_hangSideBySide 45 = .ok (.pop, 1) := by decide +kernel
theorem dX11_hangSideBySide_46 : decode cX11_hangSideBySide 46 = .ok (.aload_n 0, 1) := by decide +kernel
theorem dX11_hangSideBySide_47 : decode cX11_hangSideBySide 47 = .ok (.getfield 19, 3) := by decide +kernel
theorem dX11_hangSideBySide_50 : decode cX11_hangSideBySide 50 = .ok (.iload_n 1, 1) := by decide +kernel
theorem dX11_hangSideBySide_51 : decode cX11_hangSideBySide 51 = .ok (.aload_n 0, 1) := by decide +kernel
theorem dX11_hangSideBySide_52 : decode cX11_hangSideBySide 52 = .ok (.getfield 72, 3) := by decide +kernel
theorem dX11_hangSideBySide_55 : decode cX11_hangSideBySide 55 = .ok (.getfield 386, 3) := by decide +kernel
theorem dX11_hangSideBySide_58 : decode cX11_hangSideBySide 58 = .ok (.iload_n 3, 1) := by decide +kernel
theorem dX11_hangSideBySide_59 : decode cX11_hangSideBySide 59 = .ok (.iaload, 1) := by decide +kernel
theorem dX11_hangSideBySide_60 : decode cX11_hangSideBySide 60 = .ok (.iconst (-1), 1) := by decide +kernel
theorem dX11_hangSideBySide_61 : decode cX11_hangSideBySide 61 = .ok (.ixor, 1) := by decide +kernel
theorem dX11_hangSideBySide_62 : decode cX11_hangSideBySide 62 = .ok (.iand, 1) := by decide +kernel
theorem dX11_hangSideBySide_63 : decode cX11_hangSideBySide 63 = .ok (.iload_n 3, 1) := by decide +kernel
theorem dX11_hangSideBySide_64 : decode cX11_hangSideBySide 64 = .ok (.invokevirtual 395, 3) := by decide +kernel
theorem dX11_hangSideBySide_67 : decode cX11_hangSideBySide 67 = .ok (.iinc 3 1, 3) := by decide +kernel
theorem dX11_hangSideBySide_70 : decode cX11_hangSideBySide 70 = .ok (.goto (-45), 3) := by decide +kernel
theorem dX11_hangSideBySide_73 : decode cX11_hangSideBySide 73 = .ok (.iload_n 2, 1) := by decide +kernel
theorem dX11_hangSideBySide_74 : decode cX11_hangSideBySide 74 = .ok (.istore_n 3, 1) := by decide +kernel
theorem dX11_hangSideBySide_75 : decode cX11_hangSideBySide 75 = .ok (.iconst 1, 1) := by decide +kernel
theorem dX11_hangSideBySide_76 : decode cX11_hangSideBySide 76 = .ok (.istore 4, 2) := by decide +kernel
theorem dX11_hangSideBySide_78 : decode cX11_hangSideBySide 78 = .ok (.iload 4, 2) := by decide +kernel
theorem dX11_hangSideBySide_80 : decode cX11_hangSideBySide 80 = .ok (.aload_n 0, 1) := by decide +kernel
theorem dX11_hangSideBySide_81 : decode cX11_hangSideBySide 81 = .ok (.getfield 72, 3) := by decide +kernel
theorem dX11_hangSideBySide_84 : decode cX11_hangSideBySide 84 = .ok (.getfield 271, 3) := by decide +kernel
theorem dX11_hangSideBySide_87 : decode cX11_hangSideBySide 87 = .ok (.if_icmp .ge 23, 3) := by decide +kernel
theorem dX11_hangSideBySide_90 : decode cX11_hangSideBySide 90 = .ok (.aload_n 0, 1) := by decide +kernel
theorem dX11_hangSideBySide_91 : decode cX11_hangSideBySide 91 = .ok (.getfield 33, 3) := by decide +kernel
theorem dX11_hangSideBySide_94 : decode cX11_hangSideBySide 94 = .ok (.iload_n 3, 1) := by decide +kernel
theorem dX11_hangSideBySide_95 : decode cX11_hangSideBySide 95 = .ok (.iload_n 2, 1) := by decide +kernel
theorem dX11_hangSideBySide_96 : decode cX11_hangSideBySide 96 = .ok (.iload 4, 2) := by decide +kernel
theorem dX11_hangSideBySide_98 : decode cX11_hangSideBySide 98 = .ok (.iadd, 1) := by decide +kernel
theorem dX11_hangSideBySide_99 : decode cX11_hangSideBySide 99 = .ok (.iconst 1, 1) := by decide +kernel
theorem dX11_hangSideBySide_100 : decode cX11_hangSideBySide 100 = .ok (.invokevirtual 192, 3) := by decide +kernel
theorem dX11_hangSideBySide_103 : decode cX11_hangSideBySide 103 = .ok (.istore_n 3, 1) := by decide +kernel
theorem dX11_hangSideBySide_104 : decode cX11_hangSideBySide 104 = .ok (.iinc 4 1, 3) := by decide +kernel
theorem dX11_hangSideBySide_107 : decode cX11_hangSideBySide 107 = .ok (.goto (-29), 3) := by decide +kernel
theorem dX11_hangSideBySide_110 : decode cX11_hangSideBySide 110 = .ok (.iload_n 3, 1) := by decide +kernel
theorem dX11_hangSideBySide_111 : decode cX11_hangSideBySide 111 = .ok (.ireturn, 1) := by decide +kernel
theorem dX11_thinRing_0 : decode cX11_thinRing 0 = .ok (.iconst 0, 1) := by decide +kernel
theorem dX11_thinRing_1 : decode cX11_thinRing 1 = .ok (.istore_n 3, 1) := by decide +kernel
theorem dX11_thinRing_2 : decode cX11_thinRing 2 = .ok (.iconst 0, 1) := by decide +kernel
theorem dX11_thinRing_3 : decode cX11_thinRing 3 = .ok (.istore 4, 2) := by decide +kernel
theorem dX11_thinRing_5 : decode cX11_thinRing 5 = .ok (.iload 4, 2) := by decide +kernel
theorem dX11_thinRing_7 : decode cX11_thinRing 7 = .ok (.bipush 24, 2) := by decide +kernel
theorem dX11_thinRing_9 : decode cX11_thinRing 9 = .ok (.if_icmp .ge 48, 3) := by decide +kernel
theorem dX11_thinRing_12 : decode cX11_thinRing 12 = .ok (.aload_n 0, 1) := by decide +kernel
theorem dX11_thinRing_13 : decode cX11_thinRing 13 = .ok (.getfield 19, 3) := by decide +kernel
theorem dX11_thinRing_16 : decode cX11_thinRing 16 = .ok (.iload_n 2, 1) := by decide +kernel
theorem dX11_thinRing_17 : decode cX11_thinRing 17 = .ok (.iload 4, 2) := by decide +kernel
theorem dX11_thinRing_19 : decode cX11_thinRing 19 = .ok (.invokevirtual 226, 3) := by decide +kernel
theorem dX11_thinRing_22 : decode cX11_thinRing 22 = .ok (.ifCond .eq 29, 3) := by decide +kernel
theorem dX11_thinRing_25 : decode cX11_thinRing 25 = .ok (.aload_n 0, 1) := by decide +kernel
theorem dX11_thinRing_26 : decode cX11_thinRing 26 = .ok (.iload_n 1, 1) := by decide +kernel
theorem dX11_thinRing_27 : decode cX11_thinRing 27 = .ok (.iload_n 2, 1) := by decide +kernel
theorem dX11_thinRing_28 : decode cX11_thinRing 28 = .ok (.iload 4, 2) := by decide +kernel
theorem dX11_thinRing_30 : decode cX11_thinRing 30 = .ok (.invokevirtual 284, 3) := by decide +kernel
theorem dX11_thinRing_33 : decode cX11_thinRing 33 = .ok (.ifCond .eq 18, 3) := by decide +kernel
theorem dX11_thinRing_36 : decode cX11_thinRing 36 = .ok (.aload_n 0, 1) := by decide +kernel
theorem dX11_thinRing_37 : decode cX11_thinRing 37 = .ok (.getfield 19, 3) := by decide +kernel
theorem dX11_thinRing_40 : decode cX11_thinRing 40 = .ok (.iload_n 2, 1) := by decide +kernel
theorem dX11_thinRing_41 : decode cX11_thinRing 41 = .ok (.iload 4, 2) := by decide +kernel
theorem dX11_thinRing_43 : decode cX11_thinRing 43 = .ok (.iconst 0, 1) := by decide +kernel
theorem dX11_thinRing_44 : decode cX11_thinRing 44 = .ok (.invokevirtual 222, 3) := by decide +kernel
theorem dX11_thinRing_47 : decode cX11_thinRing 47 = .ok (.pop, 1) := by decide +kernel
theorem dX11_thinRing_48 : decode cX11_thinRing 48 = .ok (.iinc 3 1, 3) := by decide +kernel
theorem dX11_thinRing_51 : decode cX11_thinRing 51 = .ok (.iinc 4 1, 3) := by decide +kernel
theorem dX11_thinRing_54 : decode cX11_thinRing 54 = .ok (.goto (-49), 3) := by decide +kernel
theorem dX11_thinRing_57 : decode cX11_thinRing 57 = .ok (.iload_n 3, 1) := by decide +kernel
theorem dX11_thinRing_58 : decode cX11_thinRing 58 = .ok (.ireturn, 1) := by decide +kernel
theorem dX11_isSpare_0 : decode cX11_isSpare 0 = .ok (.iconst 1, 1) := by decide +kernel
theorem dX11_isSpare_1 : decode cX11_isSpare 1 = .ok (.iload_n 2, 1) := by decide +kernel
theorem dX11_isSpare_2 : decode cX11_isSpare 2 = .ok (.ishl, 1) := by decide +kernel
theorem dX11_isSpare_3 : decode cX11_isSpare 3 = .ok (.istore 4, 2) := by decide +kernel
theorem dX11_isSpare_5 : decode cX11_isSpare 5 = .ok (.aload_n 0, 1) := by decide +kernel
theorem dX11_isSpare_6 : decode cX11_isSpare 6 = .ok (.getfield 19, 3) := by decide +kernel
theorem dX11_isSpare_9 : decode cX11_isSpare 9 = .ok (.invokevirtual 159, 3) := by decide +kernel
theorem dX11_isSpare_12 : decode cX11_isSpare 12 = .ok (.istore 5, 2) := by decide +kernel
theorem dX11_isSpare_14 : decode cX11_isSpare 14 = .ok (.aload_n 0, 1) := by decide +kernel
theorem dX11_isSpare_15 : decode cX11_isSpare 15 = .ok (.getfield 19, 3) := by decide +kernel
theorem dX11_isSpare_18 : decode cX11_isSpare 18 = .ok (.getfield 114, 3) := by decide +kernel
theorem dX11_isSpare_21 : decode cX11_isSpare 21 = .ok (.iload_n 2, 1) := by decide +kernel
theorem dX11_isSpare_22 : decode cX11_isSpare 22 = .ok (.iaload, 1) := by decide +kernel
theorem dX11_isSpare_23 : decode cX11_isSpare 23 = .ok (.iconst 1, 1) := by decide +kernel
theorem dX11_isSpare_24 : decode cX11_isSpare 24 = .ok (.iload_n 3, 1) := by decide +kernel
theorem dX11_isSpare_25 : decode cX11_isSpare 25 = .ok (.ishl, 1) := by decide +kernel
theorem dX11_isSpare_26 : decode cX11_isSpare 26 = .ok (.iconst (-1), 1) := by decide +kernel
theorem dX11_isSpare_27 : decode cX11_isSpare 27 = .ok (.ixor, 1) := by decide +kernel
theorem dX11_isSpare_28 : decode cX11_isSpare 28 = .ok (.iand, 1) := by decide +kernel
theorem dX11_isSpare_29 : decode cX11_isSpare 29 = .ok (.istore 6, 2) := by decide +kernel
theorem dX11_isSpare_31 : decode cX11_isSpare 31 = .ok (.iload 4, 2) := by decide +kernel
theorem dX11_isSpare_33 : decode cX11_isSpare 33 = .ok (.istore 7, 2) := by decide +kernel
theorem dX11_isSpare_35 : decode cX11_isSpare 35 = .ok (.iload 7, 2) := by decide +kernel
theorem dX11_isSpare_37 : decode cX11_isSpare 37 = .ok (.iload 5, 2) := by decide +kernel
theorem dX11_isSpare_39 : decode cX11_isSpare 39 = .ok (.if_icmp .gt 99, 3) := by decide +kernel
theorem dX11_isSpare_42 : decode cX11_isSpare 42 = .ok (.iload 7, 2) := by decide +kernel
theorem dX11_isSpare_44 : decode cX11_isSpare 44 = .ok (.iload 4, 2) := by decide +kernel
theorem dX11_isSpare_46 : decode cX11_isSpare 46 = .ok (.iconst (-1), 1) := by decide +kernel
theorem dX11_isSpare_47 : decode cX11_isSpare 47 = .ok (.ixor, 1) := by decide +kernel
theorem dX11_isSpare_48 : decode cX11_isSpare 48 = .ok (.iand, 1) := by decide +kernel
theorem dX11_isSpare_49 : decode cX11_isSpare 49 = .ok (.istore 8, 2) := by decide +kernel
theorem dX11_isSpare_51 : decode cX11_isSpare 51 = .ok (.iload 7, 2) := by decide +kernel
theorem dX11_isSpare_53 : decode cX11_isSpare 53 = .ok (.iload 5, 2) := by decide +kernel
theorem dX11_isSpare_55 : decode cX11_isSpare 55 = .ok (.iconst (-1), 1) := by decide +kernel
theorem dX11_isSpare_56 : decode cX11_isSpare 56 = .ok (.ixor, 1) := by decide +kernel
theorem dX11_isSpare_57 : decode cX11_isSpare 57 = .ok (.iand, 1) := by decide +kernel
theorem dX11_isSpare_58 : decode cX11_isSpare 58 = .ok (.ifCond .ne 40, 3) := by decide +kernel
theorem dX11_isSpare_61 : decode cX11_isSpare 61 = .ok (.iload 8, 2) := by decide +kernel
theorem dX11_isSpare_63 : decode cX11_isSpare 63 = .ok (.iload 7, 2) := by decide +kernel
theorem dX11_isSpare_65 : decode cX11_isSpare 65 = .ok (.if_icmp .eq 33, 3) := by decide +kernel
theorem dX11_isSpare_68 : decode cX11_isSpare 68 = .ok (.aload_n 0, 1) := by decide +kernel
theorem dX11_isSpare_69 : decode cX11_isSpare 69 = .ok (.getfield 55, 3) := by decide +kernel
theorem dX11_isSpare_72 : decode cX11_isSpare 72 = .ok (.iload_n 1, 1) := by decide +kernel
theorem dX11_isSpare_73 : decode cX11_isSpare 73 = .ok (.iload 7, 2) := by decide +kernel
theorem dX11_isSpare_75 : decode cX11_isSpare 75 = .ok (.invokevirtual 257, 3) := by decide +kernel
theorem dX11_isSpare_78 : decode cX11_isSpare 78 = .ok (.ifCond .eq 20, 3) := by decide +kernel
theorem dX11_isSpare_81 : decode cX11_isSpare 81 = .ok (.aload_n 0, 1) := by decide +kernel
theorem dX11_isSpare_82 : decode cX11_isSpare 82 = .ok (.getfield 55, 3) := by decide +kernel
theorem dX11_isSpare_85 : decode cX11_isSpare 85 = .ok (.iload_n 1, 1) := by decide +kernel
theorem dX11_isSpare_86 : decode cX11_isSpare 86 = .ok (.iload 8, 2) := by decide +kernel
theorem dX11_isSpare_88 : decode cX11_isSpare 88 = .ok (.invokevirtual 257, 3) := by decide +kernel
theorem dX11_isSpare_91 : decode cX11_isSpare 91 = .ok (.ifCond .ne 7, 3) := by decide +kernel
theorem dX11_isSpare_94 : decode cX11_isSpare 94 = .ok (.iconst 1, 1) := by decide +kernel
theorem dX11_isSpare_95 : decode cX11_isSpare 95 = .ok (.goto 4, 3) := by decide +kernel
theorem dX11_isSpare_98 : decode cX11_isSpare 98 = .ok (.iconst 0, 1) := by decide +kernel
theorem dX11_isSpare_99 : decode cX11_isSpare 99 = .ok (.istore 9, 2) := by decide +kernel
theorem dX11_isSpare_101 : decode cX11_isSpare 101 = .ok (.iload 9, 2) := by decide +kernel
theorem dX11_isSpare_103 : decode cX11_isSpare 103 = .ok (.ifCond .eq 29, 3) := by decide +kernel
theorem dX11_isSpare_106 : decode cX11_isSpare 106 = .ok (.aload_n 0, 1) := by decide +kernel
theorem dX11_isSpare_107 : decode cX11_isSpare 107 = .ok (.getfield 33, 3) := by decide +kernel
theorem dX11_isSpare_110 : decode cX11_isSpare 110 = .ok (.iload_n 1, 1) := by decide +kernel
theorem dX11_isSpare_111 : decode cX11_isSpare 111 = .ok (.aload_n 0, 1) := by decide +kernel
theorem dX11_isSpare_112 : decode cX11_isSpare 112 = .ok (.getfield 55, 3) := by decide +kernel
theorem dX11_isSpare_115 : decode cX11_isSpare 115 = .ok (.getfield 398, 3) := by decide +kernel
theorem dX11_isSpare_118 : decode cX11_isSpare 118 = .ok (.iload 8, 2) := by decide +kernel
theorem dX11_isSpare_120 : decode cX11_isSpare 120 = .ok (.iaload, 1) := by decide +kernel
theorem dX11_isSpare_121 : decode cX11_isSpare 121 = .ok (.iload 6, 2) := by decide +kernel
theorem dX11_isSpare_123 : decode cX11_isSpare 123 = .ok (.ior, 1) := by decide +kernel
theorem dX11_isSpare_124 : decode cX11_isSpare 124 = .ok (.invokevirtual 238, 3) := by decide +kernel
theorem dX11_isSpare_127 : decode cX11_isSpare 127 = .ok (.ifCond .ne 5, 3) := by decide +kernel
theorem dX11_isSpare_130 : decode cX11_isSpare 130 = .ok (.iconst 0, 1) := by decide +kernel
theorem dX11_isSpare_131 : decode cX11_isSpare 131 = .ok (.ireturn, 1) := by decide +kernel
theorem dX11_isSpare_132 : decode cX11_isSpare 132 = .ok (.iinc 7 1, 3) := by decide +kernel
theorem dX11_isSpare_135 : decode cX11_isSpare 135 = .ok (.goto (-100), 3) := by decide +kernel
theorem dX11_isSpare_138 : decode cX11_isSpare 138 = .ok (.iconst 1, 1) := by decide +kernel
theorem dX11_isSpare_139 : decode cX11_isSpare 139 = .ok (.ireturn, 1) := by decide +kernel
