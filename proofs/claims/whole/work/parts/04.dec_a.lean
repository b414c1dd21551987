theorem dX0_init_0 : decode cX0_init 0 = .ok (.aload_n 0, 1) := by decide +kernel
theorem dX0_init_1 : decode cX0_init 1 = .ok (.invokespecial 3, 3) := by decide +kernel
theorem dX0_init_4 : decode cX0_init 4 = .ok (.aload_n 0, 1) := by decide +kernel
theorem dX0_init_5 : decode cX0_init 5 = .ok (.bipush 10, 2) := by decide +kernel
theorem dX0_init_7 : decode cX0_init 7 = .ok (.newarray .int, 2) := by decide +kernel
theorem dX0_init_9 : decode cX0_init 9 = .ok (.putfield 9, 3) := by decide +kernel
theorem dX0_init_12 : decode cX0_init 12 = .ok (.aload_n 0, 1) := by decide +kernel
theorem dX0_init_13 : decode cX0_init 13 = .ok (.bipush 10, 2) := by decide +kernel
theorem dX0_init_15 : decode cX0_init 15 = .ok (.newarray .int, 2) := by decide +kernel
theorem dX0_init_17 : decode cX0_init 17 = .ok (.putfield 15, 3) := by decide +kernel
theorem dX0_init_20 : decode cX0_init 20 = .ok (.aload_n 0, 1) := by decide +kernel
theorem dX0_init_21 : decode cX0_init 21 = .ok (.bipush 10, 2) := by decide +kernel
theorem dX0_init_23 : decode cX0_init 23 = .ok (.newarray .int, 2) := by decide +kernel
theorem dX0_init_25 : decode cX0_init 25 = .ok (.putfield 18, 3) := by decide +kernel
theorem dX0_init_28 : decode cX0_init 28 = .ok (.aload_n 0, 1) := by decide +kernel
theorem dX0_init_29 : decode cX0_init 29 = .ok (.bipush 10, 2) := by decide +kernel
theorem dX0_init_31 : decode cX0_init 31 = .ok (.newarray .int, 2) := by decide +kernel
theorem dX0_init_33 : decode cX0_init 33 = .ok (.putfield 21, 3) := by decide +kernel
theorem dX0_init_36 : decode cX0_init 36 = .ok (.return_, 1) := by decide +kernel
theorem dX0_has_0 : decode cX0_has 0 = .ok (.iload_n 1, 1) := by decide +kernel
theorem dX0_has_1 : decode cX0_has 1 = .ok (.ifCond .lt 15, 3) := by decide +kernel
theorem dX0_has_4 : decode cX0_has 4 = .ok (.iload_n 1, 1) := by decide +kernel
theorem dX0_has_5 : decode cX0_has 5 = .ok (.aload_n 0, 1) := by decide +kernel
theorem dX0_has_6 : decode cX0_has 6 = .ok (.getfield 24, 3) := by decide +kernel
theorem dX0_has_9 : decode cX0_has 9 = .ok (.if_icmp .ge 7, 3) := by decide +kernel
theorem dX0_has_12 : decode cX0_has 12 = .ok (.iconst 1, 1) := by decide +kernel
theorem dX0_has_13 : decode cX0_has 13 = .ok (.goto 4, 3) := by decide +kernel
theorem dX0_has_16 : decode cX0_has 16 = .ok (.iconst 0, 1) := by decide +kernel
theorem dX0_has_17 : decode cX0_has 17 = .ok (.ireturn, 1) := by decide +kernel
theorem dX0_hasSet_0 : decode cX0_hasSet 0 = .ok (.iload_n 1, 1) := by decide +kernel
theorem dX0_hasSet_1 : decode cX0_hasSet 1 = .ok (.iconst 1, 1) := by decide +kernel
theorem dX0_hasSet_2 : decode cX0_hasSet 2 = .ok (.aload_n 0, 1) := by decide +kernel
theorem dX0_hasSet_3 : decode cX0_hasSet 3 = .ok (.getfield 24, 3) := by decide +kernel
theorem dX0_hasSet_6 : decode cX0_hasSet 6 = .ok (.ishl, 1) := by decide +kernel
theorem dX0_hasSet_7 : decode cX0_hasSet 7 = .ok (.iconst 1, 1) := by decide +kernel
theorem dX0_hasSet_8 : decode cX0_hasSet 8 = .ok (.isub, 1) := by decide +kernel
theorem dX0_hasSet_9 : decode cX0_hasSet 9 = .ok (.iconst (-1), 1) := by decide +kernel
theorem dX0_hasSet_10 : decode cX0_hasSet 10 = .ok (.ixor, 1) := by decide +kernel
theorem dX0_hasSet_11 : decode cX0_hasSet 11 = .ok (.iand, 1) := by decide +kernel
theorem dX0_hasSet_12 : decode cX0_hasSet 12 = .ok (.ifCond .ne 7, 3) := by decide +kernel
theorem dX0_hasSet_15 : decode cX0_hasSet 15 = .ok (.iconst 1, 1) := by decide +kernel
theorem dX0_hasSet_16 : decode cX0_hasSet 16 = .ok (.goto 4, 3) := by decide +kernel
theorem dX0_hasSet_19 : decode cX0_hasSet 19 = .ok (.iconst 0, 1) := by decide +kernel
theorem dX0_hasSet_20 : decode cX0_hasSet 20 = .ok (.ireturn, 1) := by decide +kernel
theorem dX0_hasKey_0 : decode cX0_hasKey 0 = .ok (.aload_n 0, 1) := by decide +kernel
theorem dX0_hasKey_1 : decode cX0_hasKey 1 = .ok (.getfield 15, 3) := by decide +kernel
theorem dX0_hasKey_4 : decode cX0_hasKey 4 = .ok (.iload_n 1, 1) := by decide +kernel
theorem dX0_hasKey_5 : decode cX0_hasKey 5 = .ok (.iaload, 1) := by decide +kernel
theorem dX0_hasKey_6 : decode cX0_hasKey 6 = .ok (.iload_n 2, 1) := by decide +kernel
theorem dX0_hasKey_7 : decode cX0_hasKey 7 = .ok (.ishr, 1) := by decide +kernel
theorem dX0_hasKey_8 : decode cX0_hasKey 8 = .ok (.iconst 1, 1) := by decide +kernel
theorem dX0_hasKey_9 : decode cX0_hasKey 9 = .ok (.iand, 1) := by decide +kernel
theorem dX0_hasKey_10 : decode cX0_hasKey 10 = .ok (.ifCond .eq 7, 3) := by decide +kernel
theorem dX0_hasKey_13 : decode cX0_hasKey 13 = .ok (.iconst 1, 1) := by decide +kernel
theorem dX0_hasKey_14 : decode cX0_hasKey 14 = .ok (.goto 4, 3) := by decide +kernel
theorem dX0_hasKey_17 : decode cX0_hasKey 17 = .ok (.iconst 0, 1) := by decide +kernel
theorem dX0_hasKey_18 : decode cX0_hasKey 18 = .ok (.ireturn, 1) := by decide +kernel
theorem dX0_present_0 : decode cX0_present 0 = .ok (.iconst 1, 1) := by decide +kernel
theorem dX0_present_1 : decode cX0_present 1 = .ok (.aload_n 0, 1) := by decide +kernel
theorem dX0_present_2 : decode cX0_present 2 = .ok (.getfield 24, 3) := by decide +kernel
theorem dX0_present_5 : decode cX0_present 5 = .ok (.ishl, 1) := by decide +kernel
theorem dX0_present_6 : decode cX0_present 6 = .ok (.iconst 1, 1) := by decide +kernel
theorem dX0_present_7 : decode cX0_present 7 = .ok (.isub, 1) := by decide +kernel
theorem dX0_present_8 : decode cX0_present 8 = .ok (.aload_n 0, 1) := by decide +kernel
theorem dX0_present_9 : decode cX0_present 9 = .ok (.getfield 28, 3) := by decide +kernel
theorem dX0_present_12 : decode cX0_present 12 = .ok (.iconst (-1), 1) := by decide +kernel
theorem dX0_present_13 : decode cX0_present 13 = .ok (.ixor, 1) := by decide +kernel
theorem dX0_present_14 : decode cX0_present 14 = .ok (.iand, 1) := by decide +kernel
theorem dX0_present_15 : decode cX0_present 15 = .ok (.ireturn, 1) := by decide +kernel
theorem dX0_add_0 : decode cX0_add 0 = .ok (.aload_n 0, 1) := by decide +kernel
theorem dX0_add_1 : decode cX0_add 1 = .ok (.getfield 9, 3) := by decide +kernel
theorem dX0_add_4 : decode cX0_add 4 = .ok (.aload_n 0, 1) := by decide +kernel
theorem dX0_add_5 : decode cX0_add 5 = .ok (.getfield 24, 3) := by decide +kernel
theorem dX0_add_8 : decode cX0_add 8 = .ok (.iload_n 1, 1) := by decide +kernel
theorem dX0_add_9 : decode cX0_add 9 = .ok (.iastore, 1) := by decide +kernel
theorem dX0_add_10 : decode cX0_add 10 = .ok (.aload_n 0, 1) := by decide +kernel
theorem dX0_add_11 : decode cX0_add 11 = .ok (.dup, 1) := by decide +kernel
theorem dX0_add_12 : decode cX0_add 12 = .ok (.getfield 31, 3) := by decide +kernel
theorem dX0_add_15 : decode cX0_add 15 = .ok (.iconst 1, 1) := by decide +kernel
theorem dX0_add_16 : decode cX0_add 16 = .ok (.iadd, 1) := by decide +kernel
theorem dX0_add_17 : decode cX0_add 17 = .ok (.putfield 31, 3) := by decide +kernel
theorem dX0_add_20 : decode cX0_add 20 = .ok (.aload_n 0, 1) := by decide +kernel
theorem dX0_add_21 : decode cX0_add 21 = .ok (.dup, 1) := by decide +kernel
theorem dX0_add_22 : decode cX0_add 22 = .ok (.getfield 24, 3) := by decide +kernel
theorem dX0_add_25 : decode cX0_add 25 = .ok (.dup_x1, 1) := by decide +kernel
theorem dX0_add_26 : decode cX0_add 26 = .ok (.iconst 1, 1) := by decide +kernel
theorem dX0_add_27 : decode cX0_add 27 = .ok (.iadd, 1) := by decide +kernel
theorem dX0_add_28 : decode cX0_add 28 = .ok (.putfield 24, 3) := by decide +kernel
theorem dX0_add_31 : decode cX0_add 31 = .ok (.ireturn, 1) := by decide +kernel
theorem dX0_setGone_0 : decode cX0_setGone 0 = .ok (.aload_n 0, 1) := by decide +kernel
theorem dX0_setGone_1 : decode cX0_setGone 1 = .ok (.getfield 28, 3) := by decide +kernel
theorem dX0_setGone_4 : decode cX0_setGone 4 = .ok (.istore_n 3, 1) := by decide +kernel
theorem dX0_setGone_5 : decode cX0_setGone 5 = .ok (.aload_n 0, 1) := by decide +kernel
theorem dX0_setGone_6 : decode cX0_setGone 6 = .ok (.iload_n 2, 1) := by decide +kernel
theorem dX0_setGone_7 : decode cX0_setGone 7 = .ok (.ifCond .eq 14, 3) := by decide +kernel
theorem dX0_setGone_10 : decode cX0_setGone 10 = .ok (.aload_n 0, 1) := by decide +kernel
theorem dX0_setGone_11 : decode cX0_setGone 11 = .ok (.getfield 28, 3) := by decide +kernel
theorem dX0_setGone_14 : decode cX0_setGone 14 = .ok (.iconst 1, 1) := by decide +kernel
theorem dX0_setGone_15 : decode cX0_setGone 15 = .ok (.iload_n 1, 1) := by decide +kernel
theorem dX0_setGone_16 : decode cX0_setGone 16 = .ok (.ishl, 1) := by decide +kernel
theorem dX0_setGone_17 : decode cX0_setGone 17 = .ok (.ior, 1) := by decide +kernel
theorem dX0_setGone_18 : decode cX0_setGone 18 = .ok (.goto 13, 3) := by decide +kernel
theorem dX0_setGone_21 : decode cX0_setGone 21 = .ok (.aload_n 0, 1) := by decide +kernel
theorem dX0_setGone_22 : decode cX0_setGone 22 = .ok (.getfield 28, 3) := by decide +kernel
theorem dX0_setGone_25 : decode cX0_setGone 25 = .ok (.iconst 1, 1) := by decide +kernel
theorem dX0_setGone_26 : decode cX0_setGone 26 = .ok (.iload_n 1, 1) := by decide +kernel
theorem dX0_setGone_27 : decode cX0_setGone 27 = .ok (.ishl, 1) := by decide +kernel
theorem dX0_setGone_28 : decode cX0_setGone 28 = .ok (.iconst (-1), 1) := by decide +kernel
theorem dX0_setGone_29 : decode cX0_setGone 29 = .ok (.ixor, 1) := by decide +kernel
theorem dX0_setGone_30 : decode cX0_setGone 30 = .ok (.iand, 1) := by decide +kernel
theorem dX0_setGone_31 : decode cX0_setGone 31 = .ok (.putfield 28, 3) := by decide +kernel
theorem dX0_setGone_34 : decode cX0_setGone 34 = .ok (.aload_n 0, 1) := by decide +kernel
theorem dX0_setGone_35 : decode cX0_setGone 35 = .ok (.dup, 1) := by decide +kernel
theorem dX0_setGone_36 : decode cX0_setGone 36 = .ok (.getfield 31, 3) := by decide +kernel
theorem dX0_setGone_39 : decode cX0_setGone 39 = .ok (.iconst 1, 1) := by decide +kernel
theorem dX0_setGone_40 : decode cX0_setGone 40 = .ok (.iadd, 1) := by decide +kernel
theorem dX0_setGone_41 : decode cX0_setGone 41 = .ok (.putfield 31, 3) := by decide +kernel
theorem dX0_setGone_44 : decode cX0_setGone 44 = .ok (.aload_n 0, 1) := by decide +kernel
theorem dX0_setGone_45 : decode cX0_setGone 45 = .ok (.getfield 28, 3) := by decide +kernel
theorem dX0_setGone_48 : decode cX0_setGone 48 = .ok (.iload_n 3, 1) := by decide +kernel
theorem dX0_setGone_49 : decode cX0_setGone 49 = .ok (.if_icmp .eq 7, 3) := by decide +kernel
theorem dX0_setGone_52 : decode cX0_setGone 52 = .ok (.iconst 1, 1) := by decide +kernel
theorem dX0_setGone_53 : decode cX0_setGone 53 = .ok (.goto 4, 3) := by decide +kernel
theorem dX0_setGone_56 : decode cX0_setGone 56 = .ok (.iconst 0, 1) := by decide +kernel
theorem dX0_setGone_57 : decode cX0_setGone 57 = .ok (.ireturn, 1) := by decide +kernel
theorem dX0_setKey_0 : decode cX0_setKey 0 = .ok (.aload_n 0, 1) := by decide +kernel
theorem dX0_setKey_1 : decode cX0_setKey 1 = .ok (.getfield 15, 3) := by decide +kernel
theorem dX0_setKey_4 : decode cX0_setKey 4 = .ok (.iload_n 1, 1) := by decide +kernel
theorem dX0_setKey_5 : decode cX0_setKey 5 = .ok (.iaload, 1) := by decide +kernel
theorem dX0_setKey_6 : decode cX0_setKey 6 = .ok (.istore 4, 2) := by decide +kernel
theorem dX0_setKey_8 : decode cX0_setKey 8 = .ok (.aload_n 0, 1) := by decide +kernel
theorem dX0_setKey_9 : decode cX0_setKey 9 = .ok (.getfield 15, 3) := by decide +kernel
theorem dX0_setKey_12 : decode cX0_setKey 12 = .ok (.iload_n 1, 1) := by decide +kernel
theorem dX0_setKey_13 : decode cX0_setKey 13 = .ok (.iload_n 3, 1) := by decide +kernel
theorem dX0_setKey_14 : decode cX0_setKey 14 = .ok (.ifCond .eq 12, 3) := by decide +kernel
theorem dX0_setKey_17 : decode cX0_setKey 17 = .ok (.iload 4, 2) := by decide +kernel
theorem dX0_setKey_19 : decode cX0_setKey 19 = .ok (.iconst 1, 1) := by decide +kernel
theorem dX0_setKey_20 : decode cX0_setKey 20 = .ok (.iload_n 2, 1) := by decide +kernel
theorem dX0_setKey_21 : decode cX0_setKey 21 = .ok (.ishl, 1) := by decide +kernel
theorem dX0_setKey_22 : decode cX0_setKey 22 = .ok (.ior, 1) := by decide +kernel
theorem dX0_setKey_23 : decode cX0_setKey 23 = .ok (.goto 11, 3) := by decide +kernel
theorem dX0_setKey_26 : decode cX0_setKey 26 = .ok (.iload 4, 2) := by decide +kernel
theorem dX0_setKey_28 : decode cX0_setKey 28 = .ok (.iconst 1, 1) := by decide +kernel
theorem dX0_setKey_29 : decode cX0_setKey 29 = .ok (.iload_n 2, 1) := by decide +kernel
theorem dX0_setKey_30 : decode cX0_setKey 30 = .ok (.ishl, 1) := by decide +kernel
theorem dX0_setKey_31 : decode cX0_setKey 31 = .ok (.iconst (-1), 1) := by decide +kernel
theorem dX0_setKey_32 : decode cX0_setKey 32 = .ok (.ixor, 1) := by decide +kernel
theorem dX0_setKey_33 : decode cX0_setKey 33 = .ok (.iand, 1) := by decide +kernel
theorem dX0_setKey_34 : decode cX0_setKey 34 = .ok (.iastore, 1) := by decide +kernel
theorem dX0_setKey_35 : decode cX0_setKey 35 = .ok (.aload_n 0, 1) := by decide +kernel
theorem dX0_setKey_36 : decode cX0_setKey 36 = .ok (.dup, 1) := by decide +kernel
theorem dX0_setKey_37 : decode cX0_setKey 37 = .ok (.getfield 31, 3) := by decide +kernel
theorem dX0_setKey_40 : decode cX0_setKey 40 = .ok (.iconst 1, 1) := by decide +kernel
theorem dX0_setKey_41 : decode cX0_setKey 41 = .ok (.iadd, 1) := by decide +kernel
theorem dX0_setKey_42 : decode cX0_setKey 42 = .ok (.putfield 31, 3) := by decide +kernel
theorem dX0_setKey_45 : decode cX0_setKey 45 = .ok (.aload_n 0, 1) := by decide +kernel
theorem dX0_setKey_46 : decode cX0_setKey 46 = .ok (.getfield 15, 3) := by decide +kernel
theorem dX0_setKey_49 : decode cX0_setKey 49 = .ok (.iload_n 1, 1) := by decide +kernel
theorem dX0_setKey_50 : decode cX0_setKey 50 = .ok (.iaload, 1) := by decide +kernel
theorem dX0_setKey_51 : decode cX0_setKey 51 = .ok (.iload 4, 2) := by decide +kernel
theorem dX0_setKey_53 : decode cX0_setKey 53 = .ok (.if_icmp .eq 7, 3) := by decide +kernel
theorem dX0_setKey_56 : decode cX0_setKey 56 = .ok (.iconst 1, 1) := by decide +kernel
theorem dX0_setKey_57 : decode cX0_setKey 57 = .ok (.goto 4, 3) := by decide +kernel
theorem dX0_setKey_60 : decode cX0_setKey 60 = .ok (.iconst 0, 1) := by decide +kernel
theorem dX0_setKey_61 : decode cX0_setKey 61 = .ok (.ireturn, 1) := by decide +kernel
theorem dX0_giveKey_0 : decode cX0_giveKey 0 = .ok (.iconst 0, 1) := by decide +kernel
theorem dX0_giveKey_1 : decode cX0_giveKey 1 = .ok (.istore_n 3, 1) := by decide +kernel
theorem dX0_giveKey_2 : decode cX0_giveKey 2 = .ok (.iload_n 3, 1) := by decide +kernel
theorem dX0_giveKey_3 : decode cX0_giveKey 3 = .ok (.aload_n 0, 1) := by decide +kernel
theorem dX0_giveKey_4 : decode cX0_giveKey 4 = .ok (.getfield 24, 3) := by decide +kernel
theorem dX0_giveKey_7 : decode cX0_giveKey 7 = .ok (.if_icmp .ge 25, 3) := by decide +kernel
theorem dX0_giveKey_10 : decode cX0_giveKey 10 = .ok (.iload_n 1, 1) := by decide +kernel
theorem dX0_giveKey_11 : decode cX0_giveKey 11 = .ok (.iload_n 3, 1) := by decide +kernel
theorem dX0_giveKey_12 : decode cX0_giveKey 12 = .ok (.ishr, 1) := by decide +kernel
theorem dX0_giveKey_13 : decode cX0_giveKey 13 = .ok (.iconst 1, 1) := by decide +kernel
theorem dX0_giveKey_14 : decode cX0_giveKey 14 = .ok (.iand, 1) := by decide +kernel
theorem dX0_giveKey_15 : decode cX0_giveKey 15 = .ok (.ifCond .eq 11, 3) := by decide +kernel
theorem dX0_giveKey_18 : decode cX0_giveKey 18 = .ok (.aload_n 0, 1) := by decide +kernel
theorem dX0_giveKey_19 : decode cX0_giveKey 19 = .ok (.iload_n 3, 1) := by decide +kernel
theorem dX0_giveKey_20 : decode cX0_giveKey 20 = .ok (.iload_n 2, 1) := by decide +kernel
theorem dX0_giveKey_21 : decode cX0_giveKey 21 = .ok (.iconst 1, 1) := by decide +kernel
theorem dX0_giveKey_22 : decode cX0_giveKey 22 = .ok (.invokevirtual 34, 3) := by decide +kernel
theorem dX0_giveKey_25 : decode cX0_giveKey 25 = .ok (.pop, 1) := by decide +kernel
theorem dX0_giveKey_26 : decode cX0_giveKey 26 = .ok (.iinc 3 1, 3) := by decide +kernel
theorem dX0_giveKey_29 : decode cX0_giveKey 29 = .ok (.goto (-27), 3) := by decide +kernel
theorem dX0_giveKey_32 : decode cX0_giveKey 32 = .ok (.return_, 1) := by decide +kernel
theorem dX0_emptyRings_0 : decode cX0_emptyRings 0 = .ok (.aload_n 0, 1) := by decide +kernel
theorem dX0_emptyRings_1 : decode cX0_emptyRings 1 = .ok (.getfield 15, 3) := by decide +kernel
theorem dX0_emptyRings_4 : decode cX0_emptyRings 4 = .ok (.iconst 0, 1) := by decide +kernel
theorem dX0_emptyRings_5 : decode cX0_emptyRings 5 = .ok (.invokestatic 38, 3) := by decide +kernel
theorem dX0_emptyRings_8 : decode cX0_emptyRings 8 = .ok (.aload_n 0, 1) := by decide +kernel
theorem dX0_emptyRings_9 : decode cX0_emptyRings 9 = .ok (.dup, 1) := by decide +kernel
theorem dX0_emptyRings_10 : decode cX0_emptyRings 10 = .ok (.getfield 31, 3) := by decide +kernel
theorem dX0_emptyRings_13 : decode cX0_emptyRings 13 = .ok (.iconst 1, 1) := by decide +kernel
theorem dX0_emptyRings_14 : decode cX0_emptyRings 14 = .ok (.iadd, 1) := by decide +kernel
theorem dX0_emptyRings_15 : decode cX0_emptyRings 15 = .ok (.putfield 31, 3) := by decide +kernel
theorem dX0_emptyRings_18 : decode cX0_emptyRings 18 = .ok (.return_, 1) := by decide +kernel
theorem dX0_addLend_0 : decode cX0_addLend 0 = .ok (.aload_n 0, 1) := by decide +kernel
theorem dX0_addLend_1 : decode cX0_addLend 1 = .ok (.getfield 18, 3) := by decide +kernel
theorem dX0_addLend_4 : decode cX0_addLend 4 = .ok (.iload_n 1, 1) := by decide +kernel
theorem dX0_addLend_5 : decode cX0_addLend 5 = .ok (.dup2, 1) := by decide +kernel
theorem dX0_addLend_6 : decode cX0_addLend 6 = .ok (.iaload, 1) := by decide +kernel
theorem dX0_addLend_7 : decode cX0_addLend 7 = .ok (.iconst 1, 1) := by decide +kernel
theorem dX0_addLend_8 : decode cX0_addLend 8 = .ok (.iadd, 1) := by decide +kernel
theorem dX0_addLend_9 : decode cX0_addLend 9 = .ok (.iastore, 1) := by decide +kernel
theorem dX0_addLend_10 : decode cX0_addLend 10 = .ok (.aload_n 0, 1) := by decide +kernel
theorem dX0_addLend_11 : decode cX0_addLend 11 = .ok (.getfield 21, 3) := by decide +kernel
theorem dX0_addLend_14 : decode cX0_addLend 14 = .ok (.iload_n 1, 1) := by decide +kernel
theorem dX0_addLend_15 : decode cX0_addLend 15 = .ok (.dup2, 1) := by decide +kernel
theorem dX0_addLend_16 : decode cX0_addLend 16 = .ok (.iaload, 1) := by decide +kernel
theorem dX0_addLend_17 : decode cX0_addLend 17 = .ok (.iconst 1, 1) := by decide +kernel
theorem dX0_addLend_18 : decode cX0_addLend 18 = .ok (.iload_n 2, 1) := by decide +kernel
theorem dX0_addLend_19 : decode cX0_addLend 19 = .ok (.ishl, 1) := by decide +kernel
theorem dX0_addLend_20 : decode cX0_addLend 20 = .ok (.ior, 1) := by decide +kernel
theorem dX0_addLend_21 : decode cX0_addLend 21 = .ok (.iastore, 1) := by decide +kernel
theorem dX0_addLend_22 : decode cX0_addLend 22 = .ok (.aload_n 0, 1) := by decide +kernel
theorem dX0_addLend_23 : decode cX0_addLend 23 = .ok (.dup, 1) := by decide +kernel
theorem dX0_addLend_24 : decode cX0_addLend 24 = .ok (.getfield 44, 3) := by decide +kernel
theorem dX0_addLend_27 : decode cX0_addLend 27 = .ok (.iconst 1, 1) := by decide +kernel
theorem dX0_addLend_28 : decode cX0_addLend 28 = .ok (.iadd, 1) := by decide +kernel
theorem dX0_addLend_29 : decode cX0_addLend 29 = .ok (.putfield 44, 3) := by decide +kernel
theorem dX0_addLend_32 : decode cX0_addLend 32 = .ok (.aload_n 0, 1) := by decide +kernel
theorem dX0_addLend_33 : decode cX0_addLend 33 = .ok (.getfield 44, 3) := by decide +kernel
theorem dX0_addLend_36 : decode cX0_addLend 36 = .ok (.ireturn, 1) := by decide +kernel
theorem dX0_weightOf_0 : decode cX0_weightOf 0 = .ok (.iconst 0, 1) := by decide +kernel
theorem dX0_weightOf_1 : decode cX0_weightOf 1 = .ok (.istore_n 2, 1) := by decide +kernel
theorem dX0_weightOf_2 : decode cX0_weightOf 2 = .ok (.iconst 0, 1) := by decide +kernel
theorem dX0_weightOf_3 : decode cX0_weightOf 3 = .ok (.istore_n 3, 1) := by decide +kernel
theorem dX0_weightOf_4 : decode cX0_weightOf 4 = .ok (.iload_n 3, 1) := by decide +kernel
theorem dX0_weightOf_5 : decode cX0_weightOf 5 = .ok (.aload_n 0, 1) := by decide +kernel
theorem dX0_weightOf_6 : decode cX0_weightOf 6 = .ok (.getfield 24, 3) := by decide +kernel
theorem dX0_weightOf_9 : decode cX0_weightOf 9 = .ok (.if_icmp .ge 24, 3) := by decide +kernel
theorem dX0_weightOf_12 : decode cX0_weightOf 12 = .ok (.iload_n 2, 1) := by decide +kernel
theorem dX0_weightOf_13 : decode cX0_weightOf 13 = .ok (.iload_n 1, 1) := by decide +kernel
theorem dX0_weightOf_14 : decode cX0_weightOf 14 = .ok (.iload_n 3, 1) := by decide +kernel
theorem dX0_weightOf_15 : decode cX0_weightOf 15 = .ok (.ishr, 1) := by decide +kernel
theorem dX0_weightOf_16 : decode cX0_weightOf 16 = .ok (.iconst 1, 1) := by decide +kernel
theorem dX0_weightOf_17 : decode cX0_weightOf 17 = .ok (.iand, 1) := by decide +kernel
theorem dX0_weightOf_18 : decode cX0_weightOf 18 = .ok (.aload_n 0, 1) := by decide +kernel
theorem dX0_weightOf_19 : decode cX0_weightOf 19 = .ok (.getfield 9, 3) := by decide +kernel
theorem dX0_weightOf_22 : decode cX0_weightOf 22 = .ok (.iload_n 3, 1) := by decide +kernel
theorem dX0_weightOf_23 : decode cX0_weightOf 23 = .ok (.iaload, 1) := by decide +kernel
theorem dX0_weightOf_24 : decode cX0_weightOf 24 = .ok (.imul, 1) := by decide +kernel
theorem dX0_weightOf_25 : decode cX0_weightOf 25 = .ok (.iadd, 1) := by decide +kernel
theorem dX0_weightOf_26 : decode cX0_weightOf 26 = .ok (.istore_n 2, 1) := by decide +kernel
theorem dX0_weightOf_27 : decode cX0_weightOf 27 = .ok (.iinc 3 1, 3) := by decide +kernel
theorem dX0_weightOf_30 : decode cX0_weightOf 30 = .ok (.goto (-26), 3) := by decide +kernel
theorem dX0_weightOf_33 : decode cX0_weightOf 33 = .ok (.iload_n 2, 1) := by decide +kernel
theorem dX0_weightOf_34 : decode cX0_weightOf 34 = .ok (.ireturn, 1) := by decide +kernel
theorem dX0_keysOf_0 : decode cX0_keysOf 0 = .ok (.iconst 0, 1) := by decide +kernel
theorem dX0_keysOf_1 : decode cX0_keysOf 1 = .ok (.istore_n 2, 1) := by decide +kernel
theorem dX0_keysOf_2 : decode cX0_keysOf 2 = .ok (.iconst 0, 1) := by decide +kernel
theorem dX0_keysOf_3 : decode cX0_keysOf 3 = .ok (.istore_n 3, 1) := by decide +kernel
theorem dX0_keysOf_4 : decode cX0_keysOf 4 = .ok (.iload_n 3, 1) := by decide +kernel
theorem dX0_keysOf_5 : decode cX0_keysOf 5 = .ok (.aload_n 0, 1) := by decide +kernel
theorem dX0_keysOf_6 : decode cX0_keysOf 6 = .ok (.getfield 24, 3) := by decide +kernel
theorem dX0_keysOf_9 : decode cX0_keysOf 9 = .ok (.if_icmp .ge 33, 3) := by decide +kernel
theorem dX0_keysOf_12 : decode cX0_keysOf 12 = .ok (.iload_n 1, 1) := by decide +kernel
theorem dX0_keysOf_13 : decode cX0_keysOf 13 = .ok (.aload_n 0, 1) := by decide +kernel
theorem dX0_keysOf_14 : decode cX0_keysOf 14 = .ok (.getfield 28, 3) := by decide +kernel
theorem dX0_keysOf_17 : decode cX0_keysOf 17 = .ok (.iconst (-1), 1) := by decide +kernel
theorem dX0_keysOf_18 : decode cX0_keysOf 18 = .ok (.ixor, 1) := by decide +kernel
theorem dX0_keysOf_19 : decode cX0_keysOf 19 = .ok (.iand, 1) := by decide +kernel
theorem dX0_keysOf_20 : decode cX0_keysOf 20 = .ok (.iconst 1, 1) := by decide +kernel
theorem dX0_keysOf_21 : decode cX0_keysOf 21 = .ok (.iload_n 3, 1) := by decide +kernel
theorem dX0_keysOf_22 : decode cX0_keysOf 22 = .ok (.ishl, 1) := by decide +kernel
theorem dX0_keysOf_23 : decode cX0_keysOf 23 = .ok (.iand, 1) := by decide +kernel
theorem dX0_keysOf_24 : decode cX0_keysOf 24 = .ok (.ifCond .eq 12, 3) := by decide +kernel
theorem dX0_keysOf_27 : decode cX0_keysOf 27 = .ok (.iload_n 2, 1) := by decide +kernel
theorem dX0_keysOf_28 : decode cX0_keysOf 28 = .ok (.aload_n 0, 1) := by decide +kernel
theorem dX0_keysOf_29 : decode cX0_keysOf 29 = .ok (.getfield 15, 3) := by decide +kernel
theorem dX0_keysOf_32 : decode cX0_keysOf 32 = .ok (.iload_n 3, 1) := by decide +kernel
theorem dX0_keysOf_33 : decode cX0_keysOf 33 = .ok (.iaload, 1) := by decide +kernel
theorem dX0_keysOf_34 : decode cX0_keysOf 34 = .ok (.ior, 1) := by decide +kernel
theorem dX0_keysOf_35 : decode cX0_keysOf 35 = .ok (.istore_n 2, 1) := by decide +kernel
theorem dX0_keysOf_36 : decode cX0_keysOf 36 = .ok (.iinc 3 1, 3) := by decide +kernel
theorem dX0_keysOf_39 : decode cX0_keysOf 39 = .ok (.goto (-35), 3) := by decide +kernel
theorem dX0_keysOf_42 : decode cX0_keysOf 42 = .ok (.iload_n 2, 1) := by decide +kernel
theorem dX0_keysOf_43 : decode cX0_keysOf 43 = .ok (.ireturn, 1) := by decide +kernel
theorem dX0_heaviest_0 : decode cX0_heaviest 0 = .ok (.iconst 0, 1) := by decide +kernel
theorem dX0_heaviest_1 : decode cX0_heaviest 1 = .ok (.istore_n 1, 1) := by decide +kernel
theorem dX0_heaviest_2 : decode cX0_heaviest 2 = .ok (.iconst (-1), 1) := by decide +kernel
theorem dX0_heaviest_3 : decode cX0_heaviest 3 = .ok (.istore_n 2, 1) := by decide +kernel
theorem dX0_heaviest_4 : decode cX0_heaviest 4 = .ok (.iconst 0, 1) := by decide +kernel
theorem dX0_heaviest_5 : decode cX0_heaviest 5 = .ok (.istore_n 3, 1) := by decide +kernel
theorem dX0_heaviest_6 : decode cX0_heaviest 6 = .ok (.iload_n 3, 1) := by decide +kernel
theorem dX0_heaviest_7 : decode cX0_heaviest 7 = .ok (.aload_n 0, 1) := by decide +kernel
theorem dX0_heaviest_8 : decode cX0_heaviest 8 = .ok (.getfield 24, 3) := by decide +kernel
theorem dX0_heaviest_11 : decode cX0_heaviest 11 = .ok (.if_icmp .ge 42, 3) := by decide +kernel
theorem dX0_heaviest_14 : decode cX0_heaviest 14 = .ok (.aload_n 0, 1) := by decide +kernel
theorem dX0_heaviest_15 : decode cX0_heaviest 15 = .ok (.getfield 15, 3) := by decide +kernel
theorem dX0_heaviest_18 : decode cX0_heaviest 18 = .ok (.iload_n 3, 1) := by decide +kernel
theorem dX0_heaviest_19 : decode cX0_heaviest 19 = .ok (.iaload, 1) := by decide +kernel
theorem dX0_heaviest_20 : decode cX0_heaviest 20 = .ok (.invokestatic 47, 3) := by decide +kernel
theorem dX0_heaviest_23 : decode cX0_heaviest 23 = .ok (.istore 4, 2) := by decide +kernel
theorem dX0_heaviest_25 : decode cX0_heaviest 25 = .ok (.aload_n 0, 1) := by decide +kernel
theorem dX0_heaviest_26 : decode cX0_heaviest 26 = .ok (.getfield 28, 3) := by decide +kernel
theorem dX0_heaviest_29 : decode cX0_heaviest 29 = .ok (.iload_n 3, 1) := by decide +kernel
theorem dX0_heaviest_30 : decode cX0_heaviest 30 = .ok (.ishr, 1) := by decide +kernel
theorem dX0_heaviest_31 : decode cX0_heaviest 31 = .ok (.iconst 1, 1) := by decide +kernel
theorem dX0_heaviest_32 : decode cX0_heaviest 32 = .ok (.iand, 1) := by decide +kernel
theorem dX0_heaviest_33 : decode cX0_heaviest 33 = .ok (.ifCond .ne 14, 3) := by decide +kernel
theorem dX0_heaviest_36 : decode cX0_heaviest 36 = .ok (.iload 4, 2) := by decide +kernel
theorem dX0_heaviest_38 : decode cX0_heaviest 38 = .ok (.iload_n 2, 1) := by decide +kernel
theorem dX0_heaviest_39 : decode cX0_heaviest 39 = .ok (.if_icmp .le 8, 3) := by decide +kernel
theorem dX0_heaviest_42 : decode cX0_heaviest 42 = .ok (.iload_n 3, 1) := by decide +kernel
theorem dX0_heaviest_43 : decode cX0_heaviest 43 = .ok (.istore_n 1, 1) := by decide +kernel
theorem dX0_heaviest_44 : decode cX0_heaviest 44 = .ok (.iload 4, 2) := by decide +kernel
theorem dX0_heaviest_46 : decode cX0_heaviest 46 = .ok (.istore_n 2, 1) := by decide +kernel
theorem dX0_heaviest_47 : decode cX0_heaviest 47 = .ok (.iinc 3 1, 3) := by decide +kernel
theorem dX0_heaviest_50 : decode cX0_heaviest 50 = .ok (.goto (-44), 3) := by decide +kernel
theorem dX0_heaviest_53 : decode cX0_heaviest 53 = .ok (.iload_n 1, 1) := by decide +kernel
theorem dX0_heaviest_54 : decode cX0_heaviest 54 = .ok (.ireturn, 1) := by decide +kernel
theorem dX0_keysTogether_0 : decode cX0_keysTogether 0 = .ok (.iconst 0, 1) := by decide +kernel
theorem dX0_keysTogether_1 : decode cX0_keysTogether 1 = .ok (.istore_n 1, 1) := by decide +kernel
theorem dX0_keysTogether_2 : decode cX0_keysTogether 2 = .ok (.iconst 0, 1) := by decide +kernel
theorem dX0_keysTogether_3 : decode cX0_keysTogether 3 = .ok (.istore_n 2, 1) := by decide +kernel
theorem dX0_keysTogether_4 : decode cX0_keysTogether 4 = .ok (.iload_n 2, 1) := by decide +kernel
theorem dX0_keysTogether_5 : decode cX0_keysTogether 5 = .ok (.aload_n 0, 1) := by decide +kernel
theorem dX0_keysTogether_6 : decode cX0_keysTogether 6 = .ok (.getfield 24, 3) := by decide +kernel
theorem dX0_keysTogether_9 : decode cX0_keysTogether 9 = .ok (.if_icmp .ge 32, 3) := by decide +kernel
theorem dX0_keysTogether_12 : decode cX0_keysTogether 12 = .ok (.aload_n 0, 1) := by decide +kernel
theorem dX0_keysTogether_13 : decode cX0_keysTogether 13 = .ok (.getfield 28, 3) := by decide +kernel
theorem dX0_keysTogether_16 : decode cX0_keysTogether 16 = .ok (.iload_n 2, 1) := by decide +kernel
theorem dX0_keysTogether_17 : decode cX0_keysTogether 17 = .ok (.ishr, 1) := by decide +kernel
theorem dX0_keysTogether_18 : decode cX0_keysTogether 18 = .ok (.iconst 1, 1) := by decide +kernel
theorem dX0_keysTogether_19 : decode cX0_keysTogether 19 = .ok (.iand, 1) := by decide +kernel
theorem dX0_keysTogether_20 : decode cX0_keysTogether 20 = .ok (.ifCond .ne 15, 3) := by decide +kernel
theorem dX0_keysTogether_23 : decode cX0_keysTogether 23 = .ok (.iload_n 1, 1) := by decide +kernel
theorem dX0_keysTogether_24 : decode cX0_keysTogether 24 = .ok (.aload_n 0, 1) := by decide +kernel
theorem dX0_keysTogether_25 : decode cX0_keysTogether 25 = .ok (.getfield 15, 3) := by decide +kernel
theorem dX0_keysTogether_28 : decode cX0_keysTogether 28 = .ok (.iload_n 2, 1) := by decide +kernel
theorem dX0_keysTogether_29 : decode cX0_keysTogether 29 = .ok (.iaload, 1) := by decide +kernel
theorem dX0_keysTogether_30 : decode cX0_keysTogether 30 = .ok (.invokestatic 47, 3) := by decide +kernel
theorem dX0_keysTogether_33 : decode cX0_keysTogether 33 = .ok (.iadd, 1) := by decide +kernel
theorem dX0_keysTogether_34 : decode cX0_keysTogether 34 = .ok (.istore_n 1, 1) := by decide +kernel
theorem dX0_keysTogether_35 : decode cX0_keysTogether 35 = .ok (.iinc 2 1, 3) := by decide +kernel
theorem dX0_keysTogether_38 : decode cX0_keysTogether 38 = .ok (.goto (-34), 3) := by decide +kernel
theorem dX0_keysTogether_41 : decode cX0_keysTogether 41 = .ok (.iload_n 1, 1) := by decide +kernel
theorem dX0_keysTogether_42 : decode cX0_keysTogether 42 = .ok (.ireturn, 1) := by decide +kernel
theorem dX0_takeFrom_0 : decode cX0_takeFrom 0 = .ok (.aload_n 0, 1) := by decide +kernel
theorem dX0_takeFrom_1 : decode cX0_takeFrom 1 = .ok (.aload_n 1, 1) := by decide +kernel
theorem dX0_takeFrom_2 : decode cX0_takeFrom 2 = .ok (.getfield 24, 3) := by decide +kernel
theorem dX0_takeFrom_5 : decode cX0_takeFrom 5 = .ok (.putfield 24, 3) := by decide +kernel
theorem dX0_takeFrom_8 : decode cX0_takeFrom 8 = .ok (.aload_n 0, 1) := by decide +kernel
theorem dX0_takeFrom_9 : decode cX0_takeFrom 9 = .ok (.aload_n 1, 1) := by decide +kernel
theorem dX0_takeFrom_10 : decode cX0_takeFrom 10 = .ok (.getfield 28, 3) := by decide +kernel
theorem dX0_takeFrom_13 : decode cX0_takeFrom 13 = .ok (.putfield 28, 3) := by decide +kernel
theorem dX0_takeFrom_16 : decode cX0_takeFrom 16 = .ok (.aload_n 0, 1) := by decide +kernel
theorem dX0_takeFrom_17 : decode cX0_takeFrom 17 = .ok (.aload_n 1, 1) := by decide +kernel
theorem dX0_takeFrom_18 : decode cX0_takeFrom 18 = .ok (.getfield 44, 3) := by decide +kernel
theorem dX0_takeFrom_21 : decode cX0_takeFrom 21 = .ok (.putfield 44, 3) := by decide +kernel
theorem dX0_takeFrom_24 : decode cX0_takeFrom 24 = .ok (.aload_n 1, 1) := by decide +kernel
theorem dX0_takeFrom_25 : decode cX0_takeFrom 25 = .ok (.getfield 9, 3) := by decide +kernel
theorem dX0_takeFrom_28 : decode cX0_takeFrom 28 = .ok (.iconst 0, 1) := by decide +kernel
theorem dX0_takeFrom_29 : decode cX0_takeFrom 29 = .ok (.aload_n 0, 1) := by decide +kernel
theorem dX0_takeFrom_30 : decode cX0_takeFrom 30 = .ok (.getfield 9, 3) := by decide +kernel
theorem dX0_takeFrom_33 : decode cX0_takeFrom 33 = .ok (.iconst 0, 1) := by decide +kernel
theorem dX0_takeFrom_34 : decode cX0_takeFrom 34 = .ok (.bipush 10, 2) := by decide +kernel
theorem dX0_takeFrom_36 : decode cX0_takeFrom 36 = .ok (.invokestatic 53, 3) := by decide +kernel
theorem dX0_takeFrom_39 : decode cX0_takeFrom 39 = .ok (.aload_n 1, 1) := by decide +kernel
theorem dX0_takeFrom_40 : decode cX0_takeFrom 40 = .ok (.getfield 15, 3) := by decide +kernel
theorem dX0_takeFrom_43 : decode cX0_takeFrom 43 = .ok (.iconst 0, 1) := by decide +kernel
theorem dX0_takeFrom_44 : decode cX0_takeFrom 44 = .ok (.aload_n 0, 1) := by decide +kernel
theorem dX0_takeFrom_45 : decode cX0_takeFrom 45 = .ok (.getfield 15, 3) := by decide +kernel
theorem dX0_takeFrom_48 : decode cX0_takeFrom 48 = .ok (.iconst 0, 1) := by decide +kernel
theorem dX0_takeFrom_49 : decode cX0_takeFrom 49 = .ok (.bipush 10, 2) := by decide +kernel
theorem dX0_takeFrom_51 : decode cX0_takeFrom 51 = .ok (.invokestatic 53, 3) := by decide +kernel
theorem dX0_takeFrom_54 : decode cX0_takeFrom 54 = .ok (.aload_n 1, 1) := by decide +kernel
theorem dX0_takeFrom_55 : decode cX0_takeFrom 55 = .ok (.getfield 18, 3) := by decide +kernel
theorem dX0_takeFrom_58 : decode cX0_takeFrom 58 = .ok (.iconst 0, 1) := by decide +kernel
theorem dX0_takeFrom_59 : decode cX0_takeFrom 59 = .ok (.aload_n 0, 1) := by decide +kernel
theorem dX0_takeFrom_60 : decode cX0_takeFrom 60 = .ok (.getfield 18, 3) := by decide +kernel
theorem dX0_takeFrom_63 : decode cX0_takeFrom 63 = .ok (.iconst 0, 1) := by decide +kernel
theorem dX0_takeFrom_64 : decode cX0_takeFrom 64 = .ok (.bipush 10, 2) := by decide +kernel
theorem dX0_takeFrom_66 : decode cX0_takeFrom 66 = .ok (.invokestatic 53, 3) := by decide +kernel
theorem dX0_takeFrom_69 : decode cX0_takeFrom 69 = .ok (.aload_n 1, 1) := by decide +kernel
theorem dX0_takeFrom_70 : decode cX0_takeFrom 70 = .ok (.getfield 21, 3) := by decide +kernel
theorem dX0_takeFrom_73 : decode cX0_takeFrom 73 = .ok (.iconst 0, 1) := by decide +kernel
theorem dX0_takeFrom_74 : decode cX0_takeFrom 74 = .ok (.aload_n 0, 1) := by decide +kernel
theorem dX0_takeFrom_75 : decode cX0_takeFrom 75 = .ok (.getfield 21, 3) := by decide +kernel
theorem dX0_takeFrom_78 : decode cX0_takeFrom 78 = .ok (.iconst 0, 1) := by decide +kernel
theorem dX0_takeFrom_79 : decode cX0_takeFrom 79 = .ok (.bipush 10, 2) := by decide +kernel
theorem dX0_takeFrom_81 : decode cX0_takeFrom 81 = .ok (.invokestatic 53, 3) := by decide +kernel
theorem dX0_takeFrom_84 : decode cX0_takeFrom 84 = .ok (.aload_n 0, 1) := by decide +kernel
theorem dX0_takeFrom_85 : decode cX0_takeFrom 85 = .ok (.dup, 1) := by decide +kernel
theorem dX0_takeFrom_86 : decode cX0_takeFrom 86 = .ok (.getfield 31, 3) := by decide +kernel
theorem dX0_takeFrom_89 : decode cX0_takeFrom 89 = .ok (.iconst 1, 1) := by decide +kernel
theorem dX0_takeFrom_90 : decode cX0_takeFrom 90 = .ok (.iadd, 1) := by decide +kernel
theorem dX0_takeFrom_91 : decode cX0_takeFrom 91 = .ok (.putfield 31, 3) := by decide +kernel
theorem dX0_takeFrom_94 : decode cX0_takeFrom 94 = .ok (.return_, 1) := by decide +kernel
theorem dX1_init_0 : decode cX1_init 0 = .ok (.aload_n 0, 1) := by decide +kernel
theorem dX1_init_1 : decode cX1_init 1 = .ok (.invokespecial 3, 3) := by decide +kernel
theorem dX1_init_4 : decode cX1_init 4 = .ok (.aload_n 0, 1) := by decide +kernel
theorem dX1_init_5 : decode cX1_init 5 = .ok (.sipush 1024, 3) := by decide +kernel
theorem dX1_init_8 : decode cX1_init 8 = .ok (.newarray .boolean, 2) := by decide +kernel
theorem dX1_init_10 : decode cX1_init 10 = .ok (.putfield 9, 3) := by decide +kernel
theorem dX1_init_13 : decode cX1_init 13 = .ok (.aload_n 0, 1) := by decide +kernel
theorem dX1_init_14 : decode cX1_init 14 = .ok (.iconst (-1), 1) := by decide +kernel
theorem dX1_init_15 : decode cX1_init 15 = .ok (.putfield 15, 3) := by decide +kernel
theorem dX1_init_18 : decode cX1_init 18 = .ok (.return_, 1) := by decide +kernel
theorem dX1_firstFall_0 : decode cX1_firstFall 0 = .ok (.iconst 0, 1) := by decide +kernel
theorem dX1_firstFall_1 : decode cX1_firstFall 1 = .ok (.istore_n 1, 1) := by decide +kernel
theorem dX1_firstFall_2 : decode cX1_firstFall 2 = .ok (.iload_n 1, 1) := by decide +kernel
theorem dX1_firstFall_3 : decode cX1_firstFall 3 = .ok (.aload_n 0, 1) := by decide +kernel
theorem dX1_firstFall_4 : decode cX1_firstFall 4 = .ok (.getfield 19, 3) := by decide +kernel
theorem dX1_firstFall_7 : decode cX1_firstFall 7 = .ok (.if_icmp .gt 74, 3) := by decide +kernel
theorem dX1_firstFall_10 : decode cX1_firstFall 10 = .ok (.iload_n 1, 1) := by decide +kernel
theorem dX1_firstFall_11 : decode cX1_firstFall 11 = .ok (.aload_n 0, 1) := by decide +kernel
theorem dX1_firstFall_12 : decode cX1_firstFall 12 = .ok (.getfield 19, 3) := by decide +kernel
theorem dX1_firstFall_15 : decode cX1_firstFall 15 = .ok (.iconst (-1), 1) := by decide +kernel
theorem dX1_firstFall_16 : decode cX1_firstFall 16 = .ok (.ixor, 1) := by decide +kernel
theorem dX1_firstFall_17 : decode cX1_firstFall 17 = .ok (.iand, 1) := by decide +kernel
theorem dX1_firstFall_18 : decode cX1_firstFall 18 = .ok (.ifCond .ne 57, 3) := by decide +kernel
theorem dX1_firstFall_21 : decode cX1_firstFall 21 = .ok (.aload_n 0, 1) := by decide +kernel
theorem dX1_firstFall_22 : decode cX1_firstFall 22 = .ok (.getfield 9, 3) := by decide +kernel
theorem dX1_firstFall_25 : decode cX1_firstFall 25 = .ok (.iload_n 1, 1) := by decide +kernel
theorem dX1_firstFall_26 : decode cX1_firstFall 26 = .ok (.baload, 1) := by decide +kernel
theorem dX1_firstFall_27 : decode cX1_firstFall 27 = .ok (.ifCond .eq 48, 3) := by decide +kernel
theorem dX1_firstFall_30 : decode cX1_firstFall 30 = .ok (.iconst 0, 1) := by decide +kernel
theorem dX1_firstFall_31 : decode cX1_firstFall 31 = .ok (.istore_n 2, 1) := by decide +kernel
theorem dX1_firstFall_32 : decode cX1_firstFall 32 = .ok (.iload_n 2, 1) := by decide +kernel
theorem dX1_firstFall_33 : decode cX1_firstFall 33 = .ok (.bipush 10, 2) := by decide +kernel
theorem dX1_firstFall_35 : decode cX1_firstFall 35 = .ok (.if_icmp .ge 40, 3) := by decide +kernel
theorem dX1_firstFall_38 : decode cX1_firstFall 38 = .ok (.aload_n 0, 1) := by decide +kernel
theorem dX1_firstFall_39 : decode cX1_firstFall 39 = .ok (.getfield 19, 3) := by decide +kernel
theorem dX1_firstFall_42 : decode cX1_firstFall 42 = .ok (.iload_n 2, 1) := by decide +kernel
theorem dX1_firstFall_43 : decode cX1_firstFall 43 = .ok (.ishr, 1) := by decide +kernel
theorem dX1_firstFall_44 : decode cX1_firstFall 44 = .ok (.iconst 1, 1) := by decide +kernel
theorem dX1_firstFall_45 : decode cX1_firstFall 45 = .ok (.iand, 1) := by decide +kernel
theorem dX1_firstFall_46 : decode cX1_firstFall 46 = .ok (.ifCond .eq 23, 3) := by decide +kernel
theorem dX1_firstFall_49 : decode cX1_firstFall 49 = .ok (.aload_n 0, 1) := by decide +kernel
theorem dX1_firstFall_50 : decode cX1_firstFall 50 = .ok (.getfield 9, 3) := by decide +kernel
theorem dX1_firstFall_53 : decode cX1_firstFall 53 = .ok (.iload_n 1, 1) := by decide +kernel
theorem dX1_firstFall_54 : decode cX1_firstFall 54 = .ok (.iconst 1, 1) := by decide +kernel
theorem dX1_firstFall_55 : decode cX1_firstFall 55 = .ok (.iload_n 2, 1) := by decide +kernel
theorem dX1_firstFall_56 : decode cX1_firstFall 56 = .ok (.ishl, 1) := by decide +kernel
theorem dX1_firstFall_57 : decode cX1_firstFall 57 = .ok (.ior, 1) := by decide +kernel
theorem dX1_firstFall_58 : decode cX1_firstFall 58 = .ok (.baload, 1) := by decide +kernel
theorem dX1_firstFall_59 : decode cX1_firstFall 59 = .ok (.ifCond .ne 10, 3) := by decide +kernel
theorem dX1_firstFall_62 : decode cX1_firstFall 62 = .ok (.bipush 16, 2) := by decide +kernel
theorem dX1_firstFall_64 : decode cX1_firstFall 64 = .ok (.iload_n 1, 1) := by decide +kernel
theorem dX1_firstFall_65 : decode cX1_firstFall 65 = .ok (.imul, 1) := by decide +kernel
theorem dX1_firstFall_66 : decode cX1_firstFall 66 = .ok (.iload_n 2, 1) := by decide +kernel
theorem dX1_firstFall_67 : decode cX1_firstFall 67 = .ok (.iadd, 1) := by decide +kernel
theorem dX1_firstFall_68 : decode cX1_firstFall 68 = .ok (.ireturn, 1) := by decide +kernel
theorem dX1_firstFall_69 : decode cX1_firstFall 69 = .ok (.iinc 2 1, 3) := by decide +kernel
theorem dX1_firstFall_72 : decode cX1_firstFall 72 = .ok (.goto (-40), 3) := by decide +kernel
theorem dX1_firstFall_75 : decode cX1_firstFall 75 = .ok (.iinc 1 1, 3) := by decide +kernel
theorem dX1_firstFall_78 : decode cX1_firstFall 78 = .ok (.goto (-76), 3) := by decide +kernel
theorem dX1_firstFall_81 : decode cX1_firstFall 81 = .ok (.iconst (-1), 1) := by decide +kernel
theorem dX1_firstFall_82 : decode cX1_firstFall 82 = .ok (.ireturn, 1) := by decide +kernel
theorem dX1_truth_0 : decode cX1_truth 0 = .ok (.iconst 0, 1) := by decide +kernel
theorem dX1_truth_1 : decode cX1_truth 1 = .ok (.istore_n 1, 1) := by decide +kernel
theorem dX1_truth_2 : decode cX1_truth 2 = .ok (.iconst 0, 1) := by decide +kernel
theorem dX1_truth_3 : decode cX1_truth 3 = .ok (.istore_n 2, 1) := by decide +kernel
theorem dX1_truth_4 : decode cX1_truth 4 = .ok (.iload_n 2, 1) := by decide +kernel
theorem dX1_truth_5 : decode cX1_truth 5 = .ok (.bipush 16, 2) := by decide +kernel
theorem dX1_truth_7 : decode cX1_truth 7 = .ok (.if_icmp .ge 73, 3) := by decide +kernel
theorem dX1_truth_10 : decode cX1_truth 10 = .ok (.iconst 0, 1) := by decide +kernel
theorem dX1_truth_11 : decode cX1_truth 11 = .ok (.istore_n 3, 1) := by decide +kernel
theorem dX1_truth_12 : decode cX1_truth 12 = .ok (.iload_n 2, 1) := by decide +kernel
theorem dX1_truth_13 : decode cX1_truth 13 = .ok (.istore 4, 2) := by decide +kernel
theorem dX1_truth_15 : decode cX1_truth 15 = .ok (.iconst 0, 1) := by decide +kernel
theorem dX1_truth_16 : decode cX1_truth 16 = .ok (.istore 5, 2) := by decide +kernel
theorem dX1_truth_18 : decode cX1_truth 18 = .ok (.iload 5, 2) := by decide +kernel
theorem dX1_truth_20 : decode cX1_truth 20 = .ok (.bipush 10, 2) := by decide +kernel
theorem dX1_truth_22 : decode cX1_truth 22 = .ok (.if_icmp .ge 37, 3) := by decide +kernel
theorem dX1_truth_25 : decode cX1_truth 25 = .ok (.aload_n 0, 1) := by decide +kernel
theorem dX1_truth_26 : decode cX1_truth 26 = .ok (.getfield 19, 3) := by decide +kernel
theorem dX1_truth_29 : decode cX1_truth 29 = .ok (.iload 5, 2) := by decide +kernel
theorem dX1_truth_31 : decode cX1_truth 31 = .ok (.ishr, 1) := by decide +kernel
theorem dX1_truth_32 : decode cX1_truth 32 = .ok (.iconst 1, 1) := by decide +kernel
theorem dX1_truth_33 : decode cX1_truth 33 = .ok (.iand, 1) := by decide +kernel
theorem dX1_truth_34 : decode cX1_truth 34 = .ok (.ifCond .eq 19, 3) := by decide +kernel
theorem dX1_truth_37 : decode cX1_truth 37 = .ok (.iload_n 3, 1) := by decide +kernel
theorem dX1_truth_38 : decode cX1_truth 38 = .ok (.iload 4, 2) := by decide +kernel
theorem dX1_truth_40 : decode cX1_truth 40 = .ok (.iconst 1, 1) := by decide +kernel
theorem dX1_truth_41 : decode cX1_truth 41 = .ok (.iand, 1) := by decide +kernel
theorem dX1_truth_42 : decode cX1_truth 42 = .ok (.iload 5, 2) := by decide +kernel
theorem dX1_truth_44 : decode cX1_truth 44 = .ok (.ishl, 1) := by decide +kernel
theorem dX1_truth_45 : decode cX1_truth 45 = .ok (.ior, 1) := by decide +kernel
theorem dX1_truth_46 : decode cX1_truth 46 = .ok (.istore_n 3, 1) := by decide +kernel
theorem dX1_truth_47 : decode cX1_truth 47 = .ok (.iload 4, 2) := by decide +kernel
theorem dX1_truth_49 : decode cX1_truth 49 = .ok (.iconst 1, 1) := by decide +kernel
theorem dX1_truth_50 : decode cX1_truth 50 = .ok (.ishr, 1) := by decide +kernel
theorem dX1_truth_51 : decode cX1_truth 51 = .ok (.istore 4, 2) := by decide +kernel
theorem dX1_truth_53 : decode cX1_truth 53 = .ok (.iinc 5 1, 3) := by decide +kernel
theorem dX1_truth_56 : decode cX1_truth 56 = .ok (.goto (-38), 3) := by decide +kernel
theorem dX1_truth_59 : decode cX1_truth 59 = .ok (.aload_n 0, 1) := by decide +kernel
theorem dX1_truth_60 : decode cX1_truth 60 = .ok (.getfield 9, 3) := by decide +kernel
theorem dX1_truth_63 : decode cX1_truth 63 = .ok (.iload_n 3, 1) := by decide +kernel
theorem dX1_truth_64 : decode cX1_truth 64 = .ok (.baload, 1) := by decide +kernel
theorem dX1_truth_65 : decode cX1_truth 65 = .ok (.ifCond .eq 9, 3) := by decide +kernel
theorem dX1_truth_68 : decode cX1_truth 68 = .ok (.iload_n 1, 1) := by decide +kernel
theorem dX1_truth_69 : decode cX1_truth 69 = .ok (.iconst 1, 1) := by decide +kernel
theorem dX1_truth_70 : decode cX1_truth 70 = .ok (.iload_n 2, 1) := by decide +kernel
theorem dX1_truth_71 : decode cX1_truth 71 = .ok (.ishl, 1) := by decide +kernel
theorem dX1_truth_72 : decode cX1_truth 72 = .ok (.ior, 1) := by decide +kernel
theorem dX1_truth_73 : decode cX1_truth 73 = .ok (.istore_n 1, 1) := by decide +kernel
theorem dX1_truth_74 : decode cX1_truth 74 = .ok (.iinc 2 1, 3) := by decide +kernel
theorem dX1_truth_77 : decode cX1_truth 77 = .ok (.goto (-73), 3) := by decide +kernel
theorem dX1_truth_80 : decode cX1_truth 80 = .ok (.iload_n 1, 1) := by decide +kernel
theorem dX1_truth_81 : decode cX1_truth 81 = .ok (.ireturn, 1) := by decide +kernel
theorem dX2_init_0 : decode cX2_init 0 = .ok (.aload_n 0, 1) := by decide +kernel
theorem dX2_init_1 : decode cX2_init 1 = .ok (.invokespecial 3, 3) := by decide +kernel
theorem dX2_init_4 : decode cX2_init 4 = .ok (.aload_n 0, 1) := by decide +kernel
theorem dX2_init_5 : decode cX2_init 5 = .ok (.bipush 7, 2) := by decide +kernel
theorem dX2_init_7 : decode cX2_init 7 = .ok (.newarray .int, 2) := by decide +kernel
theorem dX2_init_9 : decode cX2_init 9 = .ok (.putfield 9, 3) := by decide +kernel
theorem dX2_init_12 : decode cX2_init 12 = .ok (.return_, 1) := by decide +kernel
theorem dX2_tell_0 : decode cX2_tell 0 = .ok (.ldc 15, 2) := by decide +kernel
theorem dX2_tell_2 : decode cX2_tell 2 = .ok (.iload_n 1, 1) := by decide +kernel
theorem dX2_tell_3 : decode cX2_tell 3 = .ok (.isub, 1) := by decide +kernel
theorem dX2_tell_4 : decode cX2_tell 4 = .ok (.istore_n 2, 1) := by decide +kernel
theorem dX2_tell_5 : decode cX2_tell 5 = .ok (.iload_n 2, 1) := by decide +kernel
theorem dX2_tell_6 : decode cX2_tell 6 = .ok (.ifCond .lt 29, 3) := by decide +kernel
theorem dX2_tell_9 : decode cX2_tell 9 = .ok (.iload_n 2, 1) := by decide +kernel
theorem dX2_tell_10 : decode cX2_tell 10 = .ok (.bipush 7, 2) := by decide +kernel
theorem dX2_tell_12 : decode cX2_tell 12 = .ok (.if_icmp .ge 23, 3) := by decide +kernel
theorem dX2_tell_15 : decode cX2_tell 15 = .ok (.aload_n 0, 1) := by decide +kernel
theorem dX2_tell_16 : decode cX2_tell 16 = .ok (.getfield 9, 3) := by decide +kernel
theorem dX2_tell_19 : decode cX2_tell 19 = .ok (.iload_n 2, 1) := by decide +kernel
theorem dX2_tell_20 : decode cX2_tell 20 = .ok (.dup2, 1) := by decide +kernel
theorem dX2_tell_21 : decode cX2_tell 21 = .ok (.iaload, 1) := by decide +kernel
theorem dX2_tell_22 : decode cX2_tell 22 = .ok (.iconst 1, 1) := by decide +kernel
theorem dX2_tell_23 : decode cX2_tell 23 = .ok (.iadd, 1) := by decide +kernel
theorem dX2_tell_24 : decode cX2_tell 24 = .ok (.iastore, 1) := by decide +kernel
theorem dX2_tell_25 : decode cX2_tell 25 = .ok (.aload_n 0, 1) := by decide +kernel
theorem dX2_tell_26 : decode cX2_tell 26 = .ok (.dup, 1) := by decide +kernel
theorem dX2_tell_27 : decode cX2_tell 27 = .ok (.getfield 16, 3) := by decide +kernel
theorem dX2_tell_30 : decode cX2_tell 30 = .ok (.iconst 1, 1) := by decide +kernel
theorem dX2_tell_31 : decode cX2_tell 31 = .ok (.iadd, 1) := by decide +kernel
theorem dX2_tell_32 : decode cX2_tell 32 = .ok (.putfield 16, 3) := by decide +kernel
theorem dX2_tell_35 : decode cX2_tell 35 = .ok (.iload_n 1, 1) := by decide +kernel
theorem dX2_tell_36 : decode cX2_tell 36 = .ok (.ireturn, 1) := by decide +kernel
theorem dX3_init_0 : decode cX3_init 0 = .ok (.aload_n 0, 1) := by decide +kernel
theorem dX3_init_1 : decode cX3_init 1 = .ok (.invokespecial 1, 3) := by decide +kernel
theorem dX3_init_4 : decode cX3_init 4 = .ok (.aload_n 0, 1) := by decide +kernel
theorem dX3_init_5 : decode cX3_init 5 = .ok (.sipush 166, 3) := by decide +kernel
theorem dX3_init_8 : decode cX3_init 8 = .ok (.newarray .int, 2) := by decide +kernel
theorem dX3_init_10 : decode cX3_init 10 = .ok (.putfield 9, 3) := by decide +kernel
theorem dX3_init_13 : decode cX3_init 13 = .ok (.aload_n 0, 1) := by decide +kernel
theorem dX3_init_14 : decode cX3_init 14 = .ok (.bipush 18, 2) := by decide +kernel
theorem dX3_init_16 : decode cX3_init 16 = .ok (.newarray .int, 2) := by decide +kernel
theorem dX3_init_18 : decode cX3_init 18 = .ok (.putfield 13, 3) := by decide +kernel
theorem dX3_init_21 : decode cX3_init 21 = .ok (.aload_n 0, 1) := by decide +kernel
theorem dX3_init_22 : decode cX3_init 22 = .ok (.sipush 1024, 3) := by decide +kernel
theorem dX3_init_25 : decode cX3_init 25 = .ok (.newarray .long, 2) := by decide +kernel
theorem dX3_init_27 : decode cX3_init 27 = .ok (.putfield 16, 3) := by decide +kernel
theorem dX3_init_30 : decode cX3_init 30 = .ok (.return_, 1) := by decide +kernel
theorem dX3_locksFor_0 : decode cX3_locksFor 0 = .ok (.iconst 1, 1) := by decide +kernel
theorem dX3_locksFor_1 : decode cX3_locksFor 1 = .ok (.istore_n 2, 1) := by decide +kernel
theorem dX3_locksFor_2 : decode cX3_locksFor 2 = .ok (.iload_n 2, 1) := by decide +kernel
theorem dX3_locksFor_3 : decode cX3_locksFor 3 = .ok (.bipush 16, 2) := by decide +kernel
theorem dX3_locksFor_5 : decode cX3_locksFor 5 = .ok (.if_icmp .gt 59, 3) := by decide +kernel
theorem dX3_locksFor_8 : decode cX3_locksFor 8 = .ok (.iload_n 2, 1) := by decide +kernel
theorem dX3_locksFor_9 : decode cX3_locksFor 9 = .ok (.aload_n 0, 1) := by decide +kernel
theorem dX3_locksFor_10 : decode cX3_locksFor 10 = .ok (.getfield 20, 3) := by decide +kernel
theorem dX3_locksFor_13 : decode cX3_locksFor 13 = .ok (.if_icmp .le 8, 3) := by decide +kernel
theorem dX3_locksFor_16 : decode cX3_locksFor 16 = .ok (.aload_n 0, 1) := by decide +kernel
theorem dX3_locksFor_17 : decode cX3_locksFor 17 = .ok (.iload_n 2, 1) := by decide +kernel
theorem dX3_locksFor_18 : decode cX3_locksFor 18 = .ok (.invokevirtual 24, 3) := by decide +kernel
theorem dX3_locksFor_21 : decode cX3_locksFor 21 = .ok (.aload_n 0, 1) := by decide +kernel
theorem dX3_locksFor_22 : decode cX3_locksFor 22 = .ok (.getfield 13, 3) := by decide +kernel
theorem dX3_locksFor_25 : decode cX3_locksFor 25 = .ok (.iload_n 2, 1) := by decide +kernel
theorem dX3_locksFor_26 : decode cX3_locksFor 26 = .ok (.iaload, 1) := by decide +kernel
theorem dX3_locksFor_27 : decode cX3_locksFor 27 = .ok (.istore_n 3, 1) := by decide +kernel
theorem dX3_locksFor_28 : decode cX3_locksFor 28 = .ok (.iload_n 3, 1) := by decide +kernel
theorem dX3_locksFor_29 : decode cX3_locksFor 29 = .ok (.aload_n 0, 1) := by decide +kernel
theorem dX3_locksFor_30 : decode cX3_locksFor 30 = .ok (.getfield 13, 3) := by decide +kernel
theorem dX3_locksFor_33 : decode cX3_locksFor 33 = .ok (.iload_n 2, 1) := by decide +kernel
theorem dX3_locksFor_34 : decode cX3_locksFor 34 = .ok (.iconst 1, 1) := by decide +kernel
theorem dX3_locksFor_35 : decode cX3_locksFor 35 = .ok (.iadd, 1) := by decide +kernel
theorem dX3_locksFor_36 : decode cX3_locksFor 36 = .ok (.iaload, 1) := by decide +kernel
theorem dX3_locksFor_37 : decode cX3_locksFor 37 = .ok (.if_icmp .ge 21, 3) := by decide +kernel
theorem dX3_locksFor_40 : decode cX3_locksFor 40 = .ok (.aload_n 0, 1) := by decide +kernel
theorem dX3_locksFor_41 : decode cX3_locksFor 41 = .ok (.getfield 9, 3) := by decide +kernel
theorem dX3_locksFor_44 : decode cX3_locksFor 44 = .ok (.iload_n 3, 1) := by decide +kernel
theorem dX3_locksFor_45 : decode cX3_locksFor 45 = .ok (.iaload, 1) := by decide +kernel
theorem dX3_locksFor_46 : decode cX3_locksFor 46 = .ok (.iload_n 1, 1) := by decide +kernel
theorem dX3_locksFor_47 : decode cX3_locksFor 47 = .ok (.if_icmp .ne 5, 3) := by decide +kernel
theorem dX3_locksFor_50 : decode cX3_locksFor 50 = .ok (.iload_n 2, 1) := by decide +kernel
theorem dX3_locksFor_51 : decode cX3_locksFor 51 = .ok (.ireturn, 1) := by decide +kernel
theorem dX3_locksFor_52 : decode cX3_locksFor 52 = .ok (.iinc 3 1, 3) := by decide +kernel
theorem dX3_locksFor_55 : decode cX3_locksFor 55 = .ok (.goto (-27), 3) := by decide +kernel
theorem dX3_locksFor_58 : decode cX3_locksFor 58 = .ok (.iinc 2 1, 3) := by decide +kernel
theorem dX3_locksFor_61 : decode cX3_locksFor 61 = .ok (.goto (-59), 3) := by decide +kernel
theorem dX3_locksFor_64 : decode cX3_locksFor 64 = .ok (.iconst 0, 1) := by decide +kernel
theorem dX3_locksFor_65 : decode cX3_locksFor 65 = .ok (.ireturn, 1) := by decide +kernel
theorem dX3_hangAll_0 : decode cX3_hangAll 0 = .ok (.iload_n 1, 1) := by decide +kernel
theorem dX3_hangAll_1 : decode cX3_hangAll 1 = .ok (.iconst 1, 1) := by decide +kernel
theorem dX3_hangAll_2 : decode cX3_hangAll 2 = .ok (.if_icmp .ne 27, 3) := by decide +kernel
theorem dX3_hangAll_5 : decode cX3_hangAll 5 = .ok (.aload_n 0, 1) := by decide +kernel
theorem dX3_hangAll_6 : decode cX3_hangAll 6 = .ok (.ldc 28, 2) := by decide +kernel
theorem dX3_hangAll_8 : decode cX3_hangAll 8 = .ok (.invokevirtual 29, 3) := by decide +kernel
theorem dX3_hangAll_11 : decode cX3_hangAll 11 = .ok (.aload_n 0, 1) := by decide +kernel
theorem dX3_hangAll_12 : decode cX3_hangAll 12 = .ok (.ldc 32, 2) := by decide +kernel
theorem dX3_hangAll_14 : decode cX3_hangAll 14 = .ok (.invokevirtual 29, 3) := by decide +kernel
theorem dX3_hangAll_17 : decode cX3_hangAll 17 = .ok (.aload_n 0, 1) := by decide +kernel
theorem dX3_hangAll_18 : decode cX3_hangAll 18 = .ok (.ldc 33, 2) := by decide +kernel
theorem dX3_hangAll_20 : decode cX3_hangAll 20 = .ok (.invokevirtual 29, 3) := by decide +kernel
theorem dX3_hangAll_23 : decode cX3_hangAll 23 = .ok (.aload_n 0, 1) := by decide +kernel
theorem dX3_hangAll_24 : decode cX3_hangAll 24 = .ok (.ldc 34, 2) := by decide +kernel
theorem dX3_hangAll_26 : decode cX3_hangAll 26 = .ok (.invokevirtual 29, 3) := by decide +kernel
theorem dX3_hangAll_29 : decode cX3_hangAll 29 = .ok (.iconst 1, 1) := by decide +kernel
theorem dX3_hangAll_30 : decode cX3_hangAll 30 = .ok (.istore_n 2, 1) := by decide +kernel
theorem dX3_hangAll_31 : decode cX3_hangAll 31 = .ok (.iload_n 2, 1) := by decide +kernel
theorem dX3_hangAll_32 : decode cX3_hangAll 32 = .ok (.iload_n 1, 1) := by decide +kernel
theorem dX3_hangAll_33 : decode cX3_hangAll 33 = .ok (.iconst 2, 1) := by decide +kernel
theorem dX3_hangAll_34 : decode cX3_hangAll 34 = .ok (.idiv, 1) := by decide +kernel
theorem dX3_hangAll_35 : decode cX3_hangAll 35 = .ok (.if_icmp .gt 17, 3) := by decide +kernel
theorem dX3_hangAll_38 : decode cX3_hangAll 38 = .ok (.aload_n 0, 1) := by decide +kernel
theorem dX3_hangAll_39 : decode cX3_hangAll 39 = .ok (.iload_n 2, 1) := by decide +kernel
theorem dX3_hangAll_40 : decode cX3_hangAll 40 = .ok (.iload_n 1, 1) := by decide +kernel
theorem dX3_hangAll_41 : decode cX3_hangAll 41 = .ok (.iload_n 2, 1) := by decide +kernel
theorem dX3_hangAll_42 : decode cX3_hangAll 42 = .ok (.isub, 1) := by decide +kernel
theorem dX3_hangAll_43 : decode cX3_hangAll 43 = .ok (.invokevirtual 35, 3) := by decide +kernel
theorem dX3_hangAll_46 : decode cX3_hangAll 46 = .ok (.iinc 2 1, 3) := by decide +kernel
theorem dX3_hangAll_49 : decode cX3_hangAll 49 = .ok (.goto (-18), 3) := by decide +kernel
theorem dX3_hangAll_52 : decode cX3_hangAll 52 = .ok (.aload_n 0, 1) := by decide +kernel
theorem dX3_hangAll_53 : decode cX3_hangAll 53 = .ok (.getfield 13, 3) := by decide +kernel
theorem dX3_hangAll_56 : decode cX3_hangAll 56 = .ok (.iload_n 1, 1) := by decide +kernel
theorem dX3_hangAll_57 : decode cX3_hangAll 57 = .ok (.iconst 1, 1) := by decide +kernel
theorem dX3_hangAll_58 : decode cX3_hangAll 58 = .ok (.iadd, 1) := by decide +kernel
theorem dX3_hangAll_59 : decode cX3_hangAll 59 = .ok (.aload_n 0, 1) := by decide +kernel
theorem dX3_hangAll_60 : decode cX3_hangAll 60 = .ok (.getfield 39, 3) := by decide +kernel
theorem dX3_hangAll_63 : decode cX3_hangAll 63 = .ok (.iastore, 1) := by decide +kernel
theorem dX3_hangAll_64 : decode cX3_hangAll 64 = .ok (.aload_n 0, 1) := by decide +kernel
theorem dX3_hangAll_65 : decode cX3_hangAll 65 = .ok (.iload_n 1, 1) := by decide +kernel
theorem dX3_hangAll_66 : decode cX3_hangAll 66 = .ok (.putfield 20, 3) := by decide +kernel
theorem dX3_hangAll_69 : decode cX3_hangAll 69 = .ok (.return_, 1) := by decide +kernel
theorem dX3_joinAll_0 : decode cX3_joinAll 0 = .ok (.aload_n 0, 1) := by decide +kernel
theorem dX3_joinAll_1 : decode cX3_joinAll 1 = .ok (.getfield 13, 3) := by decide +kernel
theorem dX3_joinAll_4 : decode cX3_joinAll 4 = .ok (.iload_n 1, 1) := by decide +kernel
theorem dX3_joinAll_5 : decode cX3_joinAll 5 = .ok (.iaload, 1) := by decide +kernel
theorem dX3_joinAll_6 : decode cX3_joinAll 6 = .ok (.istore_n 3, 1) := by decide +kernel
theorem dX3_joinAll_7 : decode cX3_joinAll 7 = .ok (.iload_n 3, 1) := by decide +kernel
theorem dX3_joinAll_8 : decode cX3_joinAll 8 = .ok (.aload_n 0, 1) := by decide +kernel
theorem dX3_joinAll_9 : decode cX3_joinAll 9 = .ok (.getfield 13, 3) := by decide +kernel
theorem dX3_joinAll_12 : decode cX3_joinAll 12 = .ok (.iload_n 1, 1) := by decide +kernel
theorem dX3_joinAll_13 : decode cX3_joinAll 13 = .ok (.iconst 1, 1) := by decide +kernel
theorem dX3_joinAll_14 : decode cX3_joinAll 14 = .ok (.iadd, 1) := by decide +kernel
theorem dX3_joinAll_15 : decode cX3_joinAll 15 = .ok (.iaload, 1) := by decide +kernel
theorem dX3_joinAll_16 : decode cX3_joinAll 16 = .ok (.if_icmp .ge 72, 3) := by decide +kernel
theorem dX3_joinAll_19 : decode cX3_joinAll 19 = .ok (.aload_n 0, 1) := by decide +kernel
theorem dX3_joinAll_20 : decode cX3_joinAll 20 = .ok (.getfield 13, 3) := by decide +kernel
theorem dX3_joinAll_23 : decode cX3_joinAll 23 = .ok (.iload_n 2, 1) := by decide +kernel
theorem dX3_joinAll_24 : decode cX3_joinAll 24 = .ok (.iaload, 1) := by decide +kernel
theorem dX3_joinAll_25 : decode cX3_joinAll 25 = .ok (.istore 4, 2) := by decide +kernel
theorem dX3_joinAll_27 : decode cX3_joinAll 27 = .ok (.iload 4, 2) := by decide +kernel
theorem dX3_joinAll_29 : decode cX3_joinAll 29 = .ok (.aload_n 0, 1) := by decide +kernel
theorem dX3_joinAll_30 : decode cX3_joinAll 30 = .ok (.getfield 13, 3) := by decide +kernel
theorem dX3_joinAll_33 : decode cX3_joinAll 33 = .ok (.iload_n 2, 1) := by decide +kernel
theorem dX3_joinAll_34 : decode cX3_joinAll 34 = .ok (.iconst 1, 1) := by decide +kernel
theorem dX3_joinAll_35 : decode cX3_joinAll 35 = .ok (.iadd, 1) := by decide +kernel
theorem dX3_joinAll_36 : decode cX3_joinAll 36 = .ok (.iaload, 1) := by decide +kernel
theorem dX3_joinAll_37 : decode cX3_joinAll 37 = .ok (.if_icmp .ge 45, 3) := by decide +kernel
theorem dX3_joinAll_40 : decode cX3_joinAll 40 = .ok (.aload_n 0, 1) := by decide +kernel
theorem dX3_joinAll_41 : decode cX3_joinAll 41 = .ok (.aload_n 0, 1) := by decide +kernel
theorem dX3_joinAll_42 : decode cX3_joinAll 42 = .ok (.getfield 9, 3) := by decide +kernel
theorem dX3_joinAll_45 : decode cX3_joinAll 45 = .ok (.iload_n 3, 1) := by decide +kernel
theorem dX3_joinAll_46 : decode cX3_joinAll 46 = .ok (.iaload, 1) := by decide +kernel
theorem dX3_joinAll_47 : decode cX3_joinAll 47 = .ok (.aload_n 0, 1) := by decide +kernel
theorem dX3_joinAll_48 : decode cX3_joinAll 48 = .ok (.getfield 9, 3) := by decide +kernel
theorem dX3_joinAll_51 : decode cX3_joinAll 51 = .ok (.iload 4, 2) := by decide +kernel
theorem dX3_joinAll_53 : decode cX3_joinAll 53 = .ok (.iaload, 1) := by decide +kernel
theorem dX3_joinAll_54 : decode cX3_joinAll 54 = .ok (.ior, 1) := by decide +kernel
theorem dX3_joinAll_55 : decode cX3_joinAll 55 = .ok (.invokevirtual 29, 3) := by decide +kernel
theorem dX3_joinAll_58 : decode cX3_joinAll 58 = .ok (.aload_n 0, 1) := by decide +kernel
theorem dX3_joinAll_59 : decode cX3_joinAll 59 = .ok (.aload_n 0, 1) := by decide +kernel
theorem dX3_joinAll_60 : decode cX3_joinAll 60 = .ok (.getfield 9, 3) := by decide +kernel
theorem dX3_joinAll_63 : decode cX3_joinAll 63 = .ok (.iload_n 3, 1) := by decide +kernel
theorem dX3_joinAll_64 : decode cX3_joinAll 64 = .ok (.iaload, 1) := by decide +kernel
theorem dX3_joinAll_65 : decode cX3_joinAll 65 = .ok (.aload_n 0, 1) := by decide +kernel
theorem dX3_joinAll_66 : decode cX3_joinAll 66 = .ok (.getfield 9, 3) := by decide +kernel
theorem dX3_joinAll_69 : decode cX3_joinAll 69 = .ok (.iload 4, 2) := by decide +kernel
theorem dX3_joinAll_71 : decode cX3_joinAll 71 = .ok (.iaload, 1) := by decide +kernel
theorem dX3_joinAll_72 : decode cX3_joinAll 72 = .ok (.iand, 1) := by decide +kernel
theorem dX3_joinAll_73 : decode cX3_joinAll 73 = .ok (.invokevirtual 29, 3) := by decide +kernel
theorem dX3_joinAll_76 : decode cX3_joinAll 76 = .ok (.iinc 4 1, 3) := by decide +kernel
theorem dX3_joinAll_79 : decode cX3_joinAll 79 = .ok (.goto (-52), 3) := by decide +kernel
theorem dX3_joinAll_82 : decode cX3_joinAll 82 = .ok (.iinc 3 1, 3) := by decide +kernel
theorem dX3_joinAll_85 : decode cX3_joinAll 85 = .ok (.goto (-78), 3) := by decide +kernel
theorem dX3_joinAll_88 : decode cX3_joinAll 88 = .ok (.return_, 1) := by decide +kernel
theorem dX3_addTruth_0 : decode cX3_addTruth 0 = .ok (.lconst 1, 1) := by decide +kernel
theorem dX3_addTruth_1 : decode cX3_addTruth 1 = .ok (.iload_n 1, 1) := by decide +kernel
theorem dX3_addTruth_2 : decode cX3_addTruth 2 = .ok (.bipush 63, 2) := by decide +kernel
theorem dX3_addTruth_4 : decode cX3_addTruth 4 = .ok (.iand, 1) := by decide +kernel
theorem dX3_addTruth_5 : decode cX3_addTruth 5 = .ok (.lshl, 1) := by decide +kernel
theorem dX3_addTruth_6 : decode cX3_addTruth 6 = .ok (.lstore_n 2, 1) := by decide +kernel
theorem dX3_addTruth_7 : decode cX3_addTruth 7 = .ok (.iload_n 1, 1) := by decide +kernel
theorem dX3_addTruth_8 : decode cX3_addTruth 8 = .ok (.ifCond .eq 29, 3) := by decide +kernel
theorem dX3_addTruth_11 : decode cX3_addTruth 11 = .ok (.aload_n 0, 1) := by decide +kernel
theorem dX3_addTruth_12 : decode cX3_addTruth 12 = .ok (.getfield 16, 3) := by decide +kernel
theorem dX3_addTruth_15 : decode cX3_addTruth 15 = .ok (.iload_n 1, 1) := by decide +kernel
theorem dX3_addTruth_16 : decode cX3_addTruth 16 = .ok (.bipush 6, 2) := by decide +kernel
theorem dX3_addTruth_18 : decode cX3_addTruth 18 = .ok (.ishr, 1) := by decide +kernel
theorem dX3_addTruth_19 : decode cX3_addTruth 19 = .ok (.laload, 1) := by decide +kernel
theorem dX3_addTruth_20 : decode cX3_addTruth 20 = .ok (.lload_n 2, 1) := by decide +kernel
theorem dX3_addTruth_21 : decode cX3_addTruth 21 = .ok (.land, 1) := by decide +kernel
theorem dX3_addTruth_22 : decode cX3_addTruth 22 = .ok (.lconst 0, 1) := by decide +kernel
theorem dX3_addTruth_23 : decode cX3_addTruth 23 = .ok (.lcmp, 1) := by decide +kernel
theorem dX3_addTruth_24 : decode cX3_addTruth 24 = .ok (.ifCond .ne 13, 3) := by decide +kernel
theorem dX3_addTruth_27 : decode cX3_addTruth 27 = .ok (.aload_n 0, 1) := by decide +kernel
theorem dX3_addTruth_28 : decode cX3_addTruth 28 = .ok (.getfield 39, 3) := by decide +kernel
theorem dX3_addTruth_31 : decode cX3_addTruth 31 = .ok (.sipush 166, 3) := by decide +kernel
theorem dX3_addTruth_34 : decode cX3_addTruth 34 = .ok (.if_icmp .lt 4, 3) := by decide +kernel
theorem dX3_addTruth_37 : decode cX3_addTruth 37 = .ok (.return_, 1) := by decide +kernel
theorem dX3_addTruth_38 : decode cX3_addTruth 38 = .ok (.aload_n 0, 1) := by decide +kernel
theorem dX3_addTruth_39 : decode cX3_addTruth 39 = .ok (.getfield 16, 3) := by decide +kernel
theorem dX3_addTruth_42 : decode cX3_addTruth 42 = .ok (.iload_n 1, 1) := by decide +kernel
theorem dX3_addTruth_43 : decode cX3_addTruth 43 = .ok (.bipush 6, 2) := by decide +kernel
theorem dX3_addTruth_45 : decode cX3_addTruth 45 = .ok (.ishr, 1) := by decide +kernel
theorem dX3_addTruth_46 : decode cX3_addTruth 46 = .ok (.dup2, 1) := by decide +kernel
theorem dX3_addTruth_47 : decode cX3_addTruth 47 = .ok (.laload, 1) := by decide +kernel
theorem dX3_addTruth_48 : decode cX3_addTruth 48 = .ok (.lload_n 2, 1) := by decide +kernel
theorem dX3_addTruth_49 : decode cX3_addTruth 49 = .ok (.lor, 1) := by decide +kernel
theorem dX3_addTruth_50 : decode cX3_addTruth 50 = .ok (.lastore, 1) := by decide +kernel
theorem dX3_addTruth_51 : decode cX3_addTruth 51 = .ok (.aload_n 0, 1) := by decide +kernel
theorem dX3_addTruth_52 : decode cX3_addTruth 52 = .ok (.getfield 9, 3) := by decide +kernel
theorem dX3_addTruth_55 : decode cX3_addTruth 55 = .ok (.aload_n 0, 1) := by decide +kernel
theorem dX3_addTruth_56 : decode cX3_addTruth 56 = .ok (.getfield 39, 3) := by decide +kernel
theorem dX3_addTruth_59 : decode cX3_addTruth 59 = .ok (.iload_n 1, 1) := by decide +kernel
theorem dX3_addTruth_60 : decode cX3_addTruth 60 = .ok (.iastore, 1) := by decide +kernel
theorem dX3_addTruth_61 : decode cX3_addTruth 61 = .ok (.aload_n 0, 1) := by decide +kernel
theorem dX3_addTruth_62 : decode cX3_addTruth 62 = .ok (.dup, 1) := by decide +kernel
theorem dX3_addTruth_63 : decode cX3_addTruth 63 = .ok (.getfield 39, 3) := by decide +kernel
theorem dX3_addTruth_66 : decode cX3_addTruth 66 = .ok (.iconst 1, 1) := by decide +kernel
theorem dX3_addTruth_67 : decode cX3_addTruth 67 = .ok (.iadd, 1) := by decide +kernel
theorem dX3_addTruth_68 : decode cX3_addTruth 68 = .ok (.putfield 39, 3) := by decide +kernel
theorem dX3_addTruth_71 : decode cX3_addTruth 71 = .ok (.return_, 1) := by decide +kernel
theorem dX4_init_0 : decode cX4_init 0 = .ok (.aload_n 0, 1) := by decide +kernel
theorem dX4_init_1 : decode cX4_init 1 = .ok (.invokespecial 3, 3) := by decide +kernel
theorem dX4_init_4 : decode cX4_init 4 = .ok (.aload_n 0, 1) := by decide +kernel
theorem dX4_init_5 : decode cX4_init 5 = .ok (.bipush 40, 2) := by decide +kernel
theorem dX4_init_7 : decode cX4_init 7 = .ok (.newarray .int, 2) := by decide +kernel
theorem dX4_init_9 : decode cX4_init 9 = .ok (.putfield 9, 3) := by decide +kernel
theorem dX4_init_12 : decode cX4_init 12 = .ok (.aload_n 0, 1) := by decide +kernel
theorem dX4_init_13 : decode cX4_init 13 = .ok (.bipush 40, 2) := by decide +kernel
theorem dX4_init_15 : decode cX4_init 15 = .ok (.newarray .int, 2) := by decide +kernel
theorem dX4_init_17 : decode cX4_init 17 = .ok (.putfield 15, 3) := by decide +kernel
theorem dX4_init_20 : decode cX4_init 20 = .ok (.aload_n 0, 1) := by decide +kernel
theorem dX4_init_21 : decode cX4_init 21 = .ok (.bipush 40, 2) := by decide +kernel
theorem dX4_init_23 : decode cX4_init 23 = .ok (.newarray .int, 2) := by decide +kernel
theorem dX4_init_25 : decode cX4_init 25 = .ok (.putfield 18, 3) := by decide +kernel
theorem dX4_init_28 : decode cX4_init 28 = .ok (.aload_n 0, 1) := by decide +kernel
theorem dX4_init_29 : decode cX4_init 29 = .ok (.bipush 40, 2) := by decide +kernel
theorem dX4_init_31 : decode cX4_init 31 = .ok (.newarray .int, 2) := by decide +kernel
theorem dX4_init_33 : decode cX4_init 33 = .ok (.putfield 21, 3) := by decide +kernel
theorem dX4_init_36 : decode cX4_init 36 = .ok (.aload_n 0, 1) := by decide +kernel
theorem dX4_init_37 : decode cX4_init 37 = .ok (.bipush 40, 2) := by decide +kernel
theorem dX4_init_39 : decode cX4_init 39 = .ok (.newarray .int, 2) := by decide +kernel
theorem dX4_init_41 : decode cX4_init 41 = .ok (.putfield 24, 3) := by decide +kernel
theorem dX4_init_44 : decode cX4_init 44 = .ok (.aload_n 0, 1) := by decide +kernel
theorem dX4_init_45 : decode cX4_init 45 = .ok (.bipush 40, 2) := by decide +kernel
theorem dX4_init_47 : decode cX4_init 47 = .ok (.newarray .int, 2) := by decide +kernel
theorem dX4_init_49 : decode cX4_init 49 = .ok (.putfield 27, 3) := by decide +kernel
theorem dX4_init_52 : decode cX4_init 52 = .ok (.aload_n 0, 1) := by decide +kernel
theorem dX4_init_53 : decode cX4_init 53 = .ok (.bipush 40, 2) := by decide +kernel
theorem dX4_init_55 : decode cX4_init 55 = .ok (.newarray .int, 2) := by decide +kernel
theorem dX4_init_57 : decode cX4_init 57 = .ok (.putfield 30, 3) := by decide +kernel
theorem dX4_init_60 : decode cX4_init 60 = .ok (.return_, 1) := by decide +kernel
theorem dX4_has_0 : decode cX4_has 0 = .ok (.iload_n 1, 1) := by decide +kernel
theorem dX4_has_1 : decode cX4_has 1 = .ok (.ifCond .lt 15, 3) := by decide +kernel
theorem dX4_has_4 : decode cX4_has 4 = .ok (.iload_n 1, 1) := by decide +kernel
theorem dX4_has_5 : decode cX4_has 5 = .ok (.aload_n 0, 1) := by decide +kernel
theorem dX4_has_6 : decode cX4_has 6 = .ok (.getfield 33, 3) := by decide +kernel
theorem dX4_has_9 : decode cX4_has 9 = .ok (.if_icmp .ge 7, 3) := by decide +kernel
theorem dX4_has_12 : decode cX4_has 12 = .ok (.iconst 1, 1) := by decide +kernel
theorem dX4_has_13 : decode cX4_has 13 = .ok (.goto 4, 3) := by decide +kernel
theorem dX4_has_16 : decode cX4_has 16 = .ok (.iconst 0, 1) := by decide +kernel
theorem dX4_has_17 : decode cX4_has 17 = .ok (.ireturn, 1) := by decide +kernel
theorem dX4_hasRoomFor_0 : decode cX4_hasRoomFor 0 = .ok (.iload_n 1, 1) := by decide +kernel
theorem dX4_hasRoomFor_1 : decode cX4_hasRoomFor 1 = .ok (.bipush 40, 2) := by decide +kernel
theorem dX4_hasRoomFor_3 : decode cX4_hasRoomFor 3 = .ok (.aload_n 0, 1) := by decide +kernel
theorem dX4_hasRoomFor_4 : decode cX4_hasRoomFor 4 = .ok (.getfield 33, 3) := by decide +kernel
theorem dX4_hasRoomFor_7 : decode cX4_hasRoomFor 7 = .ok (.isub, 1) := by decide +kernel
theorem dX4_hasRoomFor_8 : decode cX4_hasRoomFor 8 = .ok (.if_icmp .gt 7, 3) := by decide +kernel
theorem dX4_hasRoomFor_11 : decode cX4_hasRoomFor 11 = .ok (.iconst 1, 1) := by decide +kernel
theorem dX4_hasRoomFor_12 : decode cX4_hasRoomFor 12 = .ok (.goto 4, 3) := by decide +kernel
theorem dX4_hasRoomFor_15 : decode cX4_hasRoomFor 15 = .ok (.iconst 0, 1) := by decide +kernel
theorem dX4_hasRoomFor_16 : decode cX4_hasRoomFor 16 = .ok (.ireturn, 1) := by decide +kernel
theorem dX4_isOf_0 : decode cX4_isOf 0 = .ok (.aload_n 0, 1) := by decide +kernel
theorem dX4_isOf_1 : decode cX4_isOf 1 = .ok (.getfield 9, 3) := by decide +kernel
theorem dX4_isOf_4 : decode cX4_isOf 4 = .ok (.iload_n 1, 1) := by decide +kernel
theorem dX4_isOf_5 : decode cX4_isOf 5 = .ok (.iaload, 1) := by decide +kernel
theorem dX4_isOf_6 : decode cX4_isOf 6 = .ok (.istore_n 3, 1) := by decide +kernel
theorem dX4_isOf_7 : decode cX4_isOf 7 = .ok (.iload_n 2, 1) := by decide +kernel
theorem dX4_isOf_8 : decode cX4_isOf 8 = .ok (.ifCond .eq 28, 3) := by decide +kernel
theorem dX4_isOf_11 : decode cX4_isOf 11 = .ok (.iload_n 3, 1) := by decide +kernel
theorem dX4_isOf_12 : decode cX4_isOf 12 = .ok (.iload_n 2, 1) := by decide +kernel
theorem dX4_isOf_13 : decode cX4_isOf 13 = .ok (.if_icmp .eq 23, 3) := by decide +kernel
theorem dX4_isOf_16 : decode cX4_isOf 16 = .ok (.iload_n 3, 1) := by decide +kernel
theorem dX4_isOf_17 : decode cX4_isOf 17 = .ok (.iconst 5, 1) := by decide +kernel
theorem dX4_isOf_18 : decode cX4_isOf 18 = .ok (.if_icmp .ne 8, 3) := by decide +kernel
theorem dX4_isOf_21 : decode cX4_isOf 21 = .ok (.iload_n 2, 1) := by decide +kernel
theorem dX4_isOf_22 : decode cX4_isOf 22 = .ok (.iconst 1, 1) := by decide +kernel
theorem dX4_isOf_23 : decode cX4_isOf 23 = .ok (.if_icmp .eq 13, 3) := by decide +kernel
theorem dX4_isOf_26 : decode cX4_isOf 26 = .ok (.iload_n 3, 1) := by decide +kernel
theorem dX4_isOf_27 : decode cX4_isOf 27 = .ok (.iconst 3, 1) := by decide +kernel
theorem dX4_isOf_28 : decode cX4_isOf 28 = .ok (.if_icmp .ne 12, 3) := by decide +kernel
theorem dX4_isOf_31 : decode cX4_isOf 31 = .ok (.iload_n 2, 1) := by decide +kernel
theorem dX4_isOf_32 : decode cX4_isOf 32 = .ok (.iconst 2, 1) := by decide +kernel
theorem dX4_isOf_33 : decode cX4_isOf 33 = .ok (.if_icmp .ne 7, 3) := by decide +kernel
theorem dX4_isOf_36 : decode cX4_isOf 36 = .ok (.iconst 1, 1) := by decide +kernel
theorem dX4_isOf_37 : decode cX4_isOf 37 = .ok (.goto 4, 3) := by decide +kernel
theorem dX4_isOf_40 : decode cX4_isOf 40 = .ok (.iconst 0, 1) := by decide +kernel
theorem dX4_isOf_41 : decode cX4_isOf 41 = .ok (.ireturn, 1) := by decide +kernel
theorem dX4_addLock_0 : decode cX4_addLock 0 = .ok (.aload_n 0, 1) := by decide +kernel
theorem dX4_addLock_1 : decode cX4_addLock 1 = .ok (.iload_n 2, 1) := by decide +kernel
theorem dX4_addLock_2 : decode cX4_addLock 2 = .ok (.ifCond .eq 7, 3) := by decide +kernel
theorem dX4_addLock_5 : decode cX4_addLock 5 = .ok (.iconst 5, 1) := by decide +kernel
theorem dX4_addLock_6 : decode cX4_addLock 6 = .ok (.goto 4, 3) := by decide +kernel
theorem dX4_addLock_9 : decode cX4_addLock 9 = .ok (.iconst 1, 1) := by decide +kernel
theorem dX4_addLock_10 : decode cX4_addLock 10 = .ok (.iload_n 1, 1) := by decide +kernel
theorem dX4_addLock_11 : decode cX4_addLock 11 = .ok (.iconst 0, 1) := by decide +kernel
theorem dX4_addLock_12 : decode cX4_addLock 12 = .ok (.iconst 0, 1) := by decide +kernel
theorem dX4_addLock_13 : decode cX4_addLock 13 = .ok (.iload_n 2, 1) := by decide +kernel
theorem dX4_addLock_14 : decode cX4_addLock 14 = .ok (.ifCond .eq 7, 3) := by decide +kernel
theorem dX4_addLock_17 : decode cX4_addLock 17 = .ok (.iconst 2, 1) := by decide +kernel
theorem dX4_addLock_18 : decode cX4_addLock 18 = .ok (.goto 4, 3) := by decide +kernel
theorem dX4_addLock_21 : decode cX4_addLock 21 = .ok (.iconst 3, 1) := by decide +kernel
theorem dX4_addLock_22 : decode cX4_addLock 22 = .ok (.iconst 1, 1) := by decide +kernel
theorem dX4_addLock_23 : decode cX4_addLock 23 = .ok (.invokevirtual 37, 3) := by decide +kernel
theorem dX4_addLock_26 : decode cX4_addLock 26 = .ok (.ireturn, 1) := by decide +kernel
theorem dX4_addChain_0 : decode cX4_addChain 0 = .ok (.iload_n 3, 1) := by decide +kernel
theorem dX4_addChain_1 : decode cX4_addChain 1 = .ok (.ifCond .eq 7, 3) := by decide +kernel
theorem dX4_addChain_4 : decode cX4_addChain 4 = .ok (.iconst 2, 1) := by decide +kernel
theorem dX4_addChain_5 : decode cX4_addChain 5 = .ok (.goto 4, 3) := by decide +kernel
theorem dX4_addChain_8 : decode cX4_addChain 8 = .ok (.iconst 1, 1) := by decide +kernel
theorem dX4_addChain_9 : decode cX4_addChain 9 = .ok (.aload_n 0, 1) := by decide +kernel
theorem dX4_addChain_10 : decode cX4_addChain 10 = .ok (.getfield 27, 3) := by decide +kernel
theorem dX4_addChain_13 : decode cX4_addChain 13 = .ok (.iload_n 1, 1) := by decide +kernel
theorem dX4_addChain_14 : decode cX4_addChain 14 = .ok (.iaload, 1) := by decide +kernel
theorem dX4_addChain_15 : decode cX4_addChain 15 = .ok (.iadd, 1) := by decide +kernel
theorem dX4_addChain_16 : decode cX4_addChain 16 = .ok (.aload_n 0, 1) := by decide +kernel
theorem dX4_addChain_17 : decode cX4_addChain 17 = .ok (.getfield 27, 3) := by decide +kernel
theorem dX4_addChain_20 : decode cX4_addChain 20 = .ok (.iload_n 2, 1) := by decide +kernel
theorem dX4_addChain_21 : decode cX4_addChain 21 = .ok (.iaload, 1) := by decide +kernel
theorem dX4_addChain_22 : decode cX4_addChain 22 = .ok (.iadd, 1) := by decide +kernel
theorem dX4_addChain_23 : decode cX4_addChain 23 = .ok (.istore 4, 2) := by decide +kernel
theorem dX4_addChain_25 : decode cX4_addChain 25 = .ok (.aload_n 0, 1) := by decide +kernel
theorem dX4_addChain_26 : decode cX4_addChain 26 = .ok (.iload_n 3, 1) := by decide +kernel
theorem dX4_addChain_27 : decode cX4_addChain 27 = .ok (.ifCond .eq 7, 3) := by decide +kernel
theorem dX4_addChain_30 : decode cX4_addChain 30 = .ok (.iconst 3, 1) := by decide +kernel
theorem dX4_addChain_31 : decode cX4_addChain 31 = .ok (.goto 4, 3) := by decide +kernel
theorem dX4_addChain_34 : decode cX4_addChain 34 = .ok (.iconst 2, 1) := by decide +kernel
theorem dX4_addChain_35 : decode cX4_addChain 35 = .ok (.iconst 0, 1) := by decide +kernel
theorem dX4_addChain_36 : decode cX4_addChain 36 = .ok (.iload_n 1, 1) := by decide +kernel
theorem dX4_addChain_37 : decode cX4_addChain 37 = .ok (.iload_n 2, 1) := by decide +kernel
theorem dX4_addChain_38 : decode cX4_addChain 38 = .ok (.iload 4, 2) := by decide +kernel
theorem dX4_addChain_40 : decode cX4_addChain 40 = .ok (.aload_n 0, 1) := by decide +kernel
theorem dX4_addChain_41 : decode cX4_addChain 41 = .ok (.getfield 30, 3) := by decide +kernel
theorem dX4_addChain_44 : decode cX4_addChain 44 = .ok (.iload_n 1, 1) := by decide +kernel
theorem dX4_addChain_45 : decode cX4_addChain 45 = .ok (.iaload, 1) := by decide +kernel
theorem dX4_addChain_46 : decode cX4_addChain 46 = .ok (.aload_n 0, 1) := by decide +kernel
theorem dX4_addChain_47 : decode cX4_addChain 47 = .ok (.getfield 30, 3) := by decide +kernel
theorem dX4_addChain_50 : decode cX4_addChain 50 = .ok (.iload_n 2, 1) := by decide +kernel
theorem dX4_addChain_51 : decode cX4_addChain 51 = .ok (.iaload, 1) := by decide +kernel
theorem dX4_addChain_52 : decode cX4_addChain 52 = .ok (.iadd, 1) := by decide +kernel
theorem dX4_addChain_53 : decode cX4_addChain 53 = .ok (.invokevirtual 37, 3) := by decide +kernel
theorem dX4_addChain_56 : decode cX4_addChain 56 = .ok (.ireturn, 1) := by decide +kernel
theorem dX4_addBox_0 : decode cX4_addBox 0 = .ok (.aload_n 0, 1) := by decide +kernel
theorem dX4_addBox_1 : decode cX4_addBox 1 = .ok (.iconst 4, 1) := by decide +kernel
theorem dX4_addBox_2 : decode cX4_addBox 2 = .ok (.iload_n 2, 1) := by decide +kernel
theorem dX4_addBox_3 : decode cX4_addBox 3 = .ok (.iload_n 1, 1) := by decide +kernel
theorem dX4_addBox_4 : decode cX4_addBox 4 = .ok (.iconst 0, 1) := by decide +kernel
theorem dX4_addBox_5 : decode cX4_addBox 5 = .ok (.iconst 4, 1) := by decide +kernel
theorem dX4_addBox_6 : decode cX4_addBox 6 = .ok (.aload_n 0, 1) := by decide +kernel
theorem dX4_addBox_7 : decode cX4_addBox 7 = .ok (.getfield 27, 3) := by decide +kernel
theorem dX4_addBox_10 : decode cX4_addBox 10 = .ok (.iload_n 1, 1) := by decide +kernel
theorem dX4_addBox_11 : decode cX4_addBox 11 = .ok (.iaload, 1) := by decide +kernel
theorem dX4_addBox_12 : decode cX4_addBox 12 = .ok (.iadd, 1) := by decide +kernel
theorem dX4_addBox_13 : decode cX4_addBox 13 = .ok (.aload_n 0, 1) := by decide +kernel
theorem dX4_addBox_14 : decode cX4_addBox 14 = .ok (.getfield 30, 3) := by decide +kernel
theorem dX4_addBox_17 : decode cX4_addBox 17 = .ok (.iload_n 1, 1) := by decide +kernel
theorem dX4_addBox_18 : decode cX4_addBox 18 = .ok (.iaload, 1) := by decide +kernel
theorem dX4_addBox_19 : decode cX4_addBox 19 = .ok (.invokevirtual 37, 3) := by decide +kernel
theorem dX4_addBox_22 : decode cX4_addBox 22 = .ok (.ireturn, 1) := by decide +kernel
theorem dX4_add_0 : decode cX4_add 0 = .ok (.aload_n 0, 1) := by decide +kernel
theorem dX4_add_1 : decode cX4_add 1 = .ok (.getfield 9, 3) := by decide +kernel
theorem dX4_add_4 : decode cX4_add 4 = .ok (.aload_n 0, 1) := by decide +kernel
theorem dX4_add_5 : decode cX4_add 5 = .ok (.getfield 33, 3) := by decide +kernel
theorem dX4_add_8 : decode cX4_add 8 = .ok (.iload_n 1, 1) := by decide +kernel
theorem dX4_add_9 : decode cX4_add 9 = .ok (.iastore, 1) := by decide +kernel
theorem dX4_add_10 : decode cX4_add 10 = .ok (.aload_n 0, 1) := by decide +kernel
theorem dX4_add_11 : decode cX4_add 11 = .ok (.getfield 15, 3) := by decide +kernel
theorem dX4_add_14 : decode cX4_add 14 = .ok (.aload_n 0, 1) := by decide +kernel
theorem dX4_add_15 : decode cX4_add 15 = .ok (.getfield 33, 3) := by decide +kernel
theorem dX4_add_18 : decode cX4_add 18 = .ok (.iload_n 2, 1) := by decide +kernel
theorem dX4_add_19 : decode cX4_add 19 = .ok (.iastore, 1) := by decide +kernel
theorem dX4_add_20 : decode cX4_add 20 = .ok (.aload_n 0, 1) := by decide +kernel
theorem dX4_add_21 : decode cX4_add 21 = .ok (.getfield 18, 3) := by decide +kernel
theorem dX4_add_24 : decode cX4_add 24 = .ok (.aload_n 0, 1) := by decide +kernel
theorem dX4_add_25 : decode cX4_add 25 = .ok (.getfield 33, 3) := by decide +kernel
theorem dX4_add_28 : decode cX4_add 28 = .ok (.iload_n 1, 1) := by decide +kernel
theorem dX4_add_29 : decode cX4_add 29 = .ok (.iload_n 2, 1) := by decide +kernel
theorem dX4_add_30 : decode cX4_add 30 = .ok (.invokestatic 41, 3) := by decide +kernel
theorem dX4_add_33 : decode cX4_add 33 = .ok (.iastore, 1) := by decide +kernel
theorem dX4_add_34 : decode cX4_add 34 = .ok (.aload_n 0, 1) := by decide +kernel
theorem dX4_add_35 : decode cX4_add 35 = .ok (.getfield 21, 3) := by decide +kernel
theorem dX4_add_38 : decode cX4_add 38 = .ok (.aload_n 0, 1) := by decide +kernel
theorem dX4_add_39 : decode cX4_add 39 = .ok (.getfield 33, 3) := by decide +kernel
theorem dX4_add_42 : decode cX4_add 42 = .ok (.iload_n 3, 1) := by decide +kernel
theorem dX4_add_43 : decode cX4_add 43 = .ok (.iastore, 1) := by decide +kernel
theorem dX4_add_44 : decode cX4_add 44 = .ok (.aload_n 0, 1) := by decide +kernel
theorem dX4_add_45 : decode cX4_add 45 = .ok (.getfield 24, 3) := by decide +kernel
theorem dX4_add_48 : decode cX4_add 48 = .ok (.aload_n 0, 1) := by decide +kernel
theorem dX4_add_49 : decode cX4_add 49 = .ok (.getfield 33, 3) := by decide +kernel
theorem dX4_add_52 : decode cX4_add 52 = .ok (.iload 4, 2) := by decide +kernel
theorem dX4_add_54 : decode cX4_add 54 = .ok (.iastore, 1) := by decide +kernel
theorem dX4_add_55 : decode cX4_add 55 = .ok (.aload_n 0, 1) := by decide +kernel
theorem dX4_add_56 : decode cX4_add 56 = .ok (.getfield 27, 3) := by decide +kernel
theorem dX4_add_59 : decode cX4_add 59 = .ok (.aload_n 0, 1) := by decide +kernel
theorem dX4_add_60 : decode cX4_add 60 = .ok (.getfield 33, 3) := by decide +kernel
theorem dX4_add_63 : decode cX4_add 63 = .ok (.iload 5, 2) := by decide +kernel
theorem dX4_add_65 : decode cX4_add 65 = .ok (.iastore, 1) := by decide +kernel
theorem dX4_add_66 : decode cX4_add 66 = .ok (.aload_n 0, 1) := by decide +kernel
theorem dX4_add_67 : decode cX4_add 67 = .ok (.getfield 30, 3) := by decide +kernel
theorem dX4_add_70 : decode cX4_add 70 = .ok (.aload_n 0, 1) := by decide +kernel
theorem dX4_add_71 : decode cX4_add 71 = .ok (.getfield 33, 3) := by decide +kernel
theorem dX4_add_74 : decode cX4_add 74 = .ok (.iload 6, 2) := by decide +kernel
theorem dX4_add_76 : decode cX4_add 76 = .ok (.iastore, 1) := by decide +kernel
theorem dX4_add_77 : decode cX4_add 77 = .ok (.aload_n 0, 1) := by decide +kernel
theorem dX4_add_78 : decode cX4_add 78 = .ok (.dup, 1) := by decide +kernel
theorem dX4_add_79 : decode cX4_add 79 = .ok (.getfield 45, 3) := by decide +kernel
theorem dX4_add_82 : decode cX4_add 82 = .ok (.iconst 1, 1) := by decide +kernel
theorem dX4_add_83 : decode cX4_add 83 = .ok (.iadd, 1) := by decide +kernel
theorem dX4_add_84 : decode cX4_add 84 = .ok (.putfield 45, 3) := by decide +kernel
theorem dX4_add_87 : decode cX4_add 87 = .ok (.aload_n 0, 1) := by decide +kernel
theorem dX4_add_88 : decode cX4_add 88 = .ok (.dup, 1) := by decide +kernel
theorem dX4_add_89 : decode cX4_add 89 = .ok (.getfield 33, 3) := by decide +kernel
theorem dX4_add_92 : decode cX4_add 92 = .ok (.dup_x1, 1) := by decide +kernel
theorem dX4_add_93 : decode cX4_add 93 = .ok (.iconst 1, 1) := by decide +kernel
theorem dX4_add_94 : decode cX4_add 94 = .ok (.iadd, 1) := by decide +kernel
theorem dX4_add_95 : decode cX4_add 95 = .ok (.putfield 33, 3) := by decide +kernel
theorem dX4_add_98 : decode cX4_add 98 = .ok (.ireturn, 1) := by decide +kernel
theorem dX4_openersOf_0 : decode cX4_openersOf 0 = .ok (.iload_n 0, 1) := by decide +kernel
theorem dX4_openersOf_1 : decode cX4_openersOf 1 = .ok (.lookupswitch 44 #[(1, 27), (5, 31)], 27) := by decide +kernel
theorem dX4_openersOf_28 : decode cX4_openersOf 28 = .ok (.iconst 1, 1) := by decide +kernel
theorem dX4_openersOf_29 : decode cX4_openersOf 29 = .ok (.iload_n 1, 1) := by decide +kernel
theorem dX4_openersOf_30 : decode cX4_openersOf 30 = .ok (.ishl, 1) := by decide +kernel
theorem dX4_openersOf_31 : decode cX4_openersOf 31 = .ok (.ireturn, 1) := by decide +kernel
theorem dX4_openersOf_32 : decode cX4_openersOf 32 = .ok (.iconst 1, 1) := by decide +kernel
theorem dX4_openersOf_33 : decode cX4_openersOf 33 = .ok (.iload_n 1, 1) := by decide +kernel
theorem dX4_openersOf_34 : decode cX4_openersOf 34 = .ok (.ishl, 1) := by decide +kernel
theorem dX4_openersOf_35 : decode cX4_openersOf 35 = .ok (.iconst 1, 1) := by decide +kernel
theorem dX4_openersOf_36 : decode cX4_openersOf 36 = .ok (.iload_n 1, 1) := by decide +kernel
theorem dX4_openersOf_37 : decode cX4_openersOf 37 = .ok (.iconst 1, 1) := by decide +kernel
theorem dX4_openersOf_38 : decode cX4_openersOf 38 = .ok (.iadd, 1) := by decide +kernel
theorem dX4_openersOf_39 : decode cX4_openersOf 39 = .ok (.bipush 24, 2) := by decide +kernel
theorem dX4_openersOf_41 : decode cX4_openersOf 41 = .ok (.irem, 1) := by decide +kernel
theorem dX4_openersOf_42 : decode cX4_openersOf 42 = .ok (.ishl, 1) := by decide +kernel
theorem dX4_openersOf_43 : decode cX4_openersOf 43 = .ok (.ior, 1) := by decide +kernel
theorem dX4_openersOf_44 : decode cX4_openersOf 44 = .ok (.ireturn, 1) := by decide +kernel
theorem dX4_openersOf_45 : decode cX4_openersOf 45 = .ok (.iconst 0, 1) := by decide +kernel
theorem dX4_openersOf_46 : decode cX4_openersOf 46 = .ok (.ireturn, 1) := by decide +kernel
theorem dX4_keysOfLocks_0 : decode cX4_keysOfLocks 0 = .ok (.iconst 0, 1) := by decide +kernel
theorem dX4_keysOfLocks_1 : decode cX4_keysOfLocks 1 = .ok (.istore_n 1, 1) := by decide +kernel
theorem dX4_keysOfLocks_2 : decode cX4_keysOfLocks 2 = .ok (.iconst 0, 1) := by decide +kernel
theorem dX4_keysOfLocks_3 : decode cX4_keysOfLocks 3 = .ok (.istore_n 2, 1) := by decide +kernel
theorem dX4_keysOfLocks_4 : decode cX4_keysOfLocks 4 = .ok (.iload_n 2, 1) := by decide +kernel
theorem dX4_keysOfLocks_5 : decode cX4_keysOfLocks 5 = .ok (.aload_n 0, 1) := by decide +kernel
theorem dX4_keysOfLocks_6 : decode cX4_keysOfLocks 6 = .ok (.getfield 33, 3) := by decide +kernel
theorem dX4_keysOfLocks_9 : decode cX4_keysOfLocks 9 = .ok (.if_icmp .ge 18, 3) := by decide +kernel
theorem dX4_keysOfLocks_12 : decode cX4_keysOfLocks 12 = .ok (.iload_n 1, 1) := by decide +kernel
theorem dX4_keysOfLocks_13 : decode cX4_keysOfLocks 13 = .ok (.aload_n 0, 1) := by decide +kernel
theorem dX4_keysOfLocks_14 : decode cX4_keysOfLocks 14 = .ok (.getfield 18, 3) := by decide +kernel
theorem dX4_keysOfLocks_17 : decode cX4_keysOfLocks 17 = .ok (.iload_n 2, 1) := by decide +kernel
theorem dX4_keysOfLocks_18 : decode cX4_keysOfLocks 18 = .ok (.iaload, 1) := by decide +kernel
theorem dX4_keysOfLocks_19 : decode cX4_keysOfLocks 19 = .ok (.ior, 1) := by decide +kernel
theorem dX4_keysOfLocks_20 : decode cX4_keysOfLocks 20 = .ok (.istore_n 1, 1) := by decide +kernel
theorem dX4_keysOfLocks_21 : decode cX4_keysOfLocks 21 = .ok (.iinc 2 1, 3) := by decide +kernel
theorem dX4_keysOfLocks_24 : decode cX4_keysOfLocks 24 = .ok (.goto (-20), 3) := by decide +kernel
theorem dX4_keysOfLocks_27 : decode cX4_keysOfLocks 27 = .ok (.iload_n 1, 1) := by decide +kernel
theorem dX4_keysOfLocks_28 : decode cX4_keysOfLocks 28 = .ok (.ireturn, 1) := by decide +kernel
theorem dX4_openWith_0 : decode cX4_openWith 0 = .ok (.lconst 0, 1) := by decide +kernel
theorem dX4_openWith_1 : decode cX4_openWith 1 = .ok (.lstore_n 2, 1) := by decide +kernel
theorem dX4_openWith_2 : decode cX4_openWith 2 = .ok (.iconst 0, 1) := by decide +kernel
theorem dX4_openWith_3 : decode cX4_openWith 3 = .ok (.istore 4, 2) := by decide +kernel
theorem dX4_openWith_5 : decode cX4_openWith 5 = .ok (.iload 4, 2) := by decide +kernel
theorem dX4_openWith_7 : decode cX4_openWith 7 = .ok (.aload_n 0, 1) := by decide +kernel
theorem dX4_openWith_8 : decode cX4_openWith 8 = .ok (.getfield 33, 3) := by decide +kernel
theorem dX4_openWith_11 : decode cX4_openWith 11 = .ok (.if_icmp .ge 27, 3) := by decide +kernel
theorem dX4_openWith_14 : decode cX4_openWith 14 = .ok (.aload_n 0, 1) := by decide +kernel
theorem dX4_openWith_15 : decode cX4_openWith 15 = .ok (.iload 4, 2) := by decide +kernel
theorem dX4_openWith_17 : decode cX4_openWith 17 = .ok (.iload_n 1, 1) := by decide +kernel
theorem dX4_openWith_18 : decode cX4_openWith 18 = .ok (.lload_n 2, 1) := by decide +kernel
theorem dX4_openWith_19 : decode cX4_openWith 19 = .ok (.invokevirtual 48, 3) := by decide +kernel
theorem dX4_openWith_22 : decode cX4_openWith 22 = .ok (.ifCond .eq 10, 3) := by decide +kernel
theorem dX4_openWith_25 : decode cX4_openWith 25 = .ok (.lload_n 2, 1) := by decide +kernel
theorem dX4_openWith_26 : decode cX4_openWith 26 = .ok (.lconst 1, 1) := by decide +kernel
theorem dX4_openWith_27 : decode cX4_openWith 27 = .ok (.iload 4, 2) := by decide +kernel
theorem dX4_openWith_29 : decode cX4_openWith 29 = .ok (.lshl, 1) := by decide +kernel
theorem dX4_openWith_30 : decode cX4_openWith 30 = .ok (.lor, 1) := by decide +kernel
theorem dX4_openWith_31 : decode cX4_openWith 31 = .ok (.lstore_n 2, 1) := by decide +kernel
theorem dX4_openWith_32 : decode cX4_openWith 32 = .ok (.iinc 4 1, 3) := by decide +kernel
theorem dX4_openWith_35 : decode cX4_openWith 35 = .ok (.goto (-30), 3) := by decide +kernel
theorem dX4_openWith_38 : decode cX4_openWith 38 = .ok (.lload_n 2, 1) := by decide +kernel
theorem dX4_openWith_39 : decode cX4_openWith 39 = .ok (.lreturn, 1) := by decide +kernel
theorem dX4_opensWith_0 : decode cX4_opensWith 0 = .ok (.lload_n 3, 1) := by decide +kernel
theorem dX4_opensWith_1 : decode cX4_opensWith 1 = .ok (.aload_n 0, 1) := by decide +kernel
theorem dX4_opensWith_2 : decode cX4_opensWith 2 = .ok (.getfield 21, 3) := by decide +kernel
theorem dX4_opensWith_5 : decode cX4_opensWith 5 = .ok (.iload_n 1, 1) := by decide +kernel
theorem dX4_opensWith_6 : decode cX4_opensWith 6 = .ok (.iaload, 1) := by decide +kernel
theorem dX4_opensWith_7 : decode cX4_opensWith 7 = .ok (.lshr, 1) := by decide +kernel
theorem dX4_opensWith_8 : decode cX4_opensWith 8 = .ok (.lconst 1, 1) := by decide +kernel
theorem dX4_opensWith_9 : decode cX4_opensWith 9 = .ok (.land, 1) := by decide +kernel
theorem dX4_opensWith_10 : decode cX4_opensWith 10 = .ok (.lstore 5, 2) := by decide +kernel
theorem dX4_opensWith_12 : decode cX4_opensWith 12 = .ok (.lload_n 3, 1) := by decide +kernel
theorem dX4_opensWith_13 : decode cX4_opensWith 13 = .ok (.aload_n 0, 1) := by decide +kernel
theorem dX4_opensWith_14 : decode cX4_opensWith 14 = .ok (.getfield 24, 3) := by decide +kernel
theorem dX4_opensWith_17 : decode cX4_opensWith 17 = .ok (.iload_n 1, 1) := by decide +kernel
theorem dX4_opensWith_18 : decode cX4_opensWith 18 = .ok (.iaload, 1) := by decide +kernel
theorem dX4_opensWith_19 : decode cX4_opensWith 19 = .ok (.lshr, 1) := by decide +kernel
theorem dX4_opensWith_20 : decode cX4_opensWith 20 = .ok (.lconst 1, 1) := by decide +kernel
theorem dX4_opensWith_21 : decode cX4_opensWith 21 = .ok (.land, 1) := by decide +kernel
theorem dX4_opensWith_22 : decode cX4_opensWith 22 = .ok (.lstore 7, 2) := by decide +kernel
theorem dX4_opensWith_24 : decode cX4_opensWith 24 = .ok (.aload_n 0, 1) := by decide +kernel
theorem dX4_opensWith_25 : decode cX4_opensWith 25 = .ok (.getfield 9, 3) := by decide +kernel
theorem dX4_opensWith_28 : decode cX4_opensWith 28 = .ok (.iload_n 1, 1) := by decide +kernel
theorem dX4_opensWith_29 : decode cX4_opensWith 29 = .ok (.iaload, 1) := by decide +kernel
theorem dX4_opensWith_30 : decode cX4_opensWith 30 = .ok (.tableswitch 71 2 4 #[26, 42, 58], 26) := by decide +kernel
theorem dX4_opensWith_56 : decode cX4_opensWith 56 = .ok (.lload 5, 2) := by decide +kernel
theorem dX4_opensWith_58 : decode cX4_opensWith 58 = .ok (.lload 7, 2) := by decide +kernel
theorem dX4_opensWith_60 : decode cX4_opensWith 60 = .ok (.lor, 1) := by decide +kernel
theorem dX4_opensWith_61 : decode cX4_opensWith 61 = .ok (.lconst 0, 1) := by decide +kernel
theorem dX4_opensWith_62 : decode cX4_opensWith 62 = .ok (.lcmp, 1) := by decide +kernel
theorem dX4_opensWith_63 : decode cX4_opensWith 63 = .ok (.ifCond .eq 7, 3) := by decide +kernel
theorem dX4_opensWith_66 : decode cX4_opensWith 66 = .ok (.iconst 1, 1) := by decide +kernel
theorem dX4_opensWith_67 : decode cX4_opensWith 67 = .ok (.goto 4, 3) := by decide +kernel
theorem dX4_opensWith_70 : decode cX4_opensWith 70 = .ok (.iconst 0, 1) := by decide +kernel
theorem dX4_opensWith_71 : decode cX4_opensWith 71 = .ok (.ireturn, 1) := by decide +kernel
theorem dX4_opensWith_72 : decode cX4_opensWith 72 = .ok (.lload 5, 2) := by decide +kernel
theorem dX4_opensWith_74 : decode cX4_opensWith 74 = .ok (.lload 7, 2) := by decide +kernel
theorem dX4_opensWith_76 : decode cX4_opensWith 76 = .ok (.land, 1) := by decide +kernel
theorem dX4_opensWith_77 : decode cX4_opensWith 77 = .ok (.lconst 0, 1) := by decide +kernel
theorem dX4_opensWith_78 : decode cX4_opensWith 78 = .ok (.lcmp, 1) := by decide +kernel
theorem dX4_opensWith_79 : decode cX4_opensWith 79 = .ok (.ifCond .eq 7, 3) := by decide +kernel
theorem dX4_opensWith_82 : decode cX4_opensWith 82 = .ok (.iconst 1, 1) := by decide +kernel
theorem dX4_opensWith_83 : decode cX4_opensWith 83 = .ok (.goto 4, 3) := by decide +kernel
theorem dX4_opensWith_86 : decode cX4_opensWith 86 = .ok (.iconst 0, 1) := by decide +kernel
theorem dX4_opensWith_87 : decode cX4_opensWith 87 = .ok (.ireturn, 1) := by decide +kernel
theorem dX4_opensWith_88 : decode cX4_opensWith 88 = .ok (.lload 5, 2) := by decide +kernel
theorem dX4_opensWith_90 : decode cX4_opensWith 90 = .ok (.lconst 0, 1) := by decide +kernel
theorem dX4_opensWith_91 : decode cX4_opensWith 91 = .ok (.lcmp, 1) := by decide +kernel
theorem dX4_opensWith_92 : decode cX4_opensWith 92 = .ok (.ifCond .eq 7, 3) := by decide +kernel
theorem dX4_opensWith_95 : decode cX4_opensWith 95 = .ok (.iconst 1, 1) := by decide +kernel
theorem dX4_opensWith_96 : decode cX4_opensWith 96 = .ok (.goto 4, 3) := by decide +kernel
theorem dX4_opensWith_99 : decode cX4_opensWith 99 = .ok (.iconst 0, 1) := by decide +kernel
theorem dX4_opensWith_100 : decode cX4_opensWith 100 = .ok (.ireturn, 1) := by decide +kernel
theorem dX4_opensWith_101 : decode cX4_opensWith 101 = .ok (.iload_n 2, 1) := by decide +kernel
theorem dX4_opensWith_102 : decode cX4_opensWith 102 = .ok (.aload_n 0, 1) := by decide +kernel
theorem dX4_opensWith_103 : decode cX4_opensWith 103 = .ok (.getfield 18, 3) := by decide +kernel
theorem dX4_opensWith_106 : decode cX4_opensWith 106 = .ok (.iload_n 1, 1) := by decide +kernel
theorem dX4_opensWith_107 : decode cX4_opensWith 107 = .ok (.iaload, 1) := by decide +kernel
theorem dX4_opensWith_108 : decode cX4_opensWith 108 = .ok (.iand, 1) := by decide +kernel
theorem dX4_opensWith_109 : decode cX4_opensWith 109 = .ok (.ifCond .eq 7, 3) := by decide +kernel
theorem dX4_opensWith_112 : decode cX4_opensWith 112 = .ok (.iconst 1, 1) := by decide +kernel
theorem dX4_opensWith_113 : decode cX4_opensWith 113 = .ok (.goto 4, 3) := by decide +kernel
theorem dX4_opensWith_116 : decode cX4_opensWith 116 = .ok (.iconst 0, 1) := by decide +kernel
theorem dX4_opensWith_117 : decode cX4_opensWith 117 = .ok (.ireturn, 1) := by decide +kernel
theorem dX4_keysInBoxes_0 : decode cX4_keysInBoxes 0 = .ok (.iconst 0, 1) := by decide +kernel
theorem dX4_keysInBoxes_1 : decode cX4_keysInBoxes 1 = .ok (.istore_n 3, 1) := by decide +kernel
theorem dX4_keysInBoxes_2 : decode cX4_keysInBoxes 2 = .ok (.iconst 0, 1) := by decide +kernel
theorem dX4_keysInBoxes_3 : decode cX4_keysInBoxes 3 = .ok (.istore 4, 2) := by decide +kernel
theorem dX4_keysInBoxes_5 : decode cX4_keysInBoxes 5 = .ok (.iload 4, 2) := by decide +kernel
theorem dX4_keysInBoxes_7 : decode cX4_keysInBoxes 7 = .ok (.aload_n 0, 1) := by decide +kernel
theorem dX4_keysInBoxes_8 : decode cX4_keysInBoxes 8 = .ok (.getfield 33, 3) := by decide +kernel
theorem dX4_keysInBoxes_11 : decode cX4_keysInBoxes 11 = .ok (.if_icmp .ge 43, 3) := by decide +kernel
theorem dX4_keysInBoxes_14 : decode cX4_keysInBoxes 14 = .ok (.aload_n 0, 1) := by decide +kernel
theorem dX4_keysInBoxes_15 : decode cX4_keysInBoxes 15 = .ok (.getfield 9, 3) := by decide +kernel
theorem dX4_keysInBoxes_18 : decode cX4_keysInBoxes 18 = .ok (.iload 4, 2) := by decide +kernel
theorem dX4_keysInBoxes_20 : decode cX4_keysInBoxes 20 = .ok (.iaload, 1) := by decide +kernel
theorem dX4_keysInBoxes_21 : decode cX4_keysInBoxes 21 = .ok (.iconst 4, 1) := by decide +kernel
theorem dX4_keysInBoxes_22 : decode cX4_keysInBoxes 22 = .ok (.if_icmp .ne 26, 3) := by decide +kernel
theorem dX4_keysInBoxes_25 : decode cX4_keysInBoxes 25 = .ok (.lload_n 1, 1) := by decide +kernel
theorem dX4_keysInBoxes_26 : decode cX4_keysInBoxes 26 = .ok (.iload 4, 2) := by decide +kernel
theorem dX4_keysInBoxes_28 : decode cX4_keysInBoxes 28 = .ok (.lshr, 1) := by decide +kernel
theorem dX4_keysInBoxes_29 : decode cX4_keysInBoxes 29 = .ok (.lconst 1, 1) := by decide +kernel
theorem dX4_keysInBoxes_30 : decode cX4_keysInBoxes 30 = .ok (.land, 1) := by decide +kernel
theorem dX4_keysInBoxes_31 : decode cX4_keysInBoxes 31 = .ok (.lconst 0, 1) := by decide +kernel
theorem dX4_keysInBoxes_32 : decode cX4_keysInBoxes 32 = .ok (.lcmp, 1) := by decide +kernel
theorem dX4_keysInBoxes_33 : decode cX4_keysInBoxes 33 = .ok (.ifCond .eq 15, 3) := by decide +kernel
theorem dX4_keysInBoxes_36 : decode cX4_keysInBoxes 36 = .ok (.iload_n 3, 1) := by decide +kernel
theorem dX4_keysInBoxes_37 : decode cX4_keysInBoxes 37 = .ok (.iconst 1, 1) := by decide +kernel
theorem dX4_keysInBoxes_38 : decode cX4_keysInBoxes 38 = .ok (.aload_n 0, 1) := by decide +kernel
theorem dX4_keysInBoxes_39 : decode cX4_keysInBoxes 39 = .ok (.getfield 15, 3) := by decide +kernel
theorem dX4_keysInBoxes_42 : decode cX4_keysInBoxes 42 = .ok (.iload 4, 2) := by decide +kernel
theorem dX4_keysInBoxes_44 : decode cX4_keysInBoxes 44 = .ok (.iaload, 1) := by decide +kernel
theorem dX4_keysInBoxes_45 : decode cX4_keysInBoxes 45 = .ok (.ishl, 1) := by decide +kernel
theorem dX4_keysInBoxes_46 : decode cX4_keysInBoxes 46 = .ok (.ior, 1) := by decide +kernel
theorem dX4_keysInBoxes_47 : decode cX4_keysInBoxes 47 = .ok (.istore_n 3, 1) := by decide +kernel
theorem dX4_keysInBoxes_48 : decode cX4_keysInBoxes 48 = .ok (.iinc 4 1, 3) := by decide +kernel
theorem dX4_keysInBoxes_51 : decode cX4_keysInBoxes 51 = .ok (.goto (-46), 3) := by decide +kernel
theorem dX4_keysInBoxes_54 : decode cX4_keysInBoxes 54 = .ok (.iload_n 3, 1) := by decide +kernel
theorem dX4_keysInBoxes_55 : decode cX4_keysInBoxes 55 = .ok (.ireturn, 1) := by decide +kernel
theorem dX4_openInTheEnd_0 : decode cX4_openInTheEnd 0 = .ok (.iload_n 1, 1) := by decide +kernel
theorem dX4_openInTheEnd_1 : decode cX4_openInTheEnd 1 = .ok (.istore_n 2, 1) := by decide +kernel
theorem dX4_openInTheEnd_2 : decode cX4_openInTheEnd 2 = .ok (.aload_n 0, 1) := by decide +kernel
theorem dX4_openInTheEnd_3 : decode cX4_openInTheEnd 3 = .ok (.iload_n 2, 1) := by decide +kernel
theorem dX4_openInTheEnd_4 : decode cX4_openInTheEnd 4 = .ok (.invokevirtual 52, 3) := by decide +kernel
theorem dX4_openInTheEnd_7 : decode cX4_openInTheEnd 7 = .ok (.lstore_n 3, 1) := by decide +kernel
theorem dX4_openInTheEnd_8 : decode cX4_openInTheEnd 8 = .ok (.iconst 1, 1) := by decide +kernel
theorem dX4_openInTheEnd_9 : decode cX4_openInTheEnd 9 = .ok (.istore 5, 2) := by decide +kernel
theorem dX4_openInTheEnd_11 : decode cX4_openInTheEnd 11 = .ok (.iload 5, 2) := by decide +kernel
theorem dX4_openInTheEnd_13 : decode cX4_openInTheEnd 13 = .ok (.bipush 40, 2) := by decide +kernel
theorem dX4_openInTheEnd_15 : decode cX4_openInTheEnd 15 = .ok (.if_icmp .gt 36, 3) := by decide +kernel
theorem dX4_openInTheEnd_18 : decode cX4_openInTheEnd 18 = .ok (.iload_n 2, 1) := by decide +kernel
theorem dX4_openInTheEnd_19 : decode cX4_openInTheEnd 19 = .ok (.aload_n 0, 1) := by decide +kernel
theorem dX4_openInTheEnd_20 : decode cX4_openInTheEnd 20 = .ok (.lload_n 3, 1) := by decide +kernel
theorem dX4_openInTheEnd_21 : decode cX4_openInTheEnd 21 = .ok (.invokevirtual 56, 3) := by decide +kernel
theorem dX4_openInTheEnd_24 : decode cX4_openInTheEnd 24 = .ok (.ior, 1) := by decide +kernel
theorem dX4_openInTheEnd_25 : decode cX4_openInTheEnd 25 = .ok (.istore 6, 2) := by decide +kernel
theorem dX4_openInTheEnd_27 : decode cX4_openInTheEnd 27 = .ok (.iload 6, 2) := by decide +kernel
theorem dX4_openInTheEnd_29 : decode cX4_openInTheEnd 29 = .ok (.iload_n 2, 1) := by decide +kernel
theorem dX4_openInTheEnd_30 : decode cX4_openInTheEnd 30 = .ok (.if_icmp .ne 6, 3) := by decide +kernel
theorem dX4_openInTheEnd_33 : decode cX4_openInTheEnd 33 = .ok (.goto 18, 3) := by decide +kernel
theorem dX4_openInTheEnd_36 : decode cX4_openInTheEnd 36 = .ok (.iload 6, 2) := by decide +kernel
theorem dX4_openInTheEnd_38 : decode cX4_openInTheEnd 38 = .ok (.istore_n 2, 1) := by decide +kernel
theorem dX4_openInTheEnd_39 : decode cX4_openInTheEnd 39 = .ok (.aload_n 0, 1) := by decide +kernel
theorem dX4_openInTheEnd_40 : decode cX4_openInTheEnd 40 = .ok (.iload_n 2, 1) := by decide +kernel
theorem dX4_openInTheEnd_41 : decode cX4_openInTheEnd 41 = .ok (.invokevirtual 52, 3) := by decide +kernel
theorem dX4_openInTheEnd_44 : decode cX4_openInTheEnd 44 = .ok (.lstore_n 3, 1) := by decide +kernel
theorem dX4_openInTheEnd_45 : decode cX4_openInTheEnd 45 = .ok (.iinc 5 1, 3) := by decide +kernel
theorem dX4_openInTheEnd_48 : decode cX4_openInTheEnd 48 = .ok (.goto (-37), 3) := by decide +kernel
theorem dX4_openInTheEnd_51 : decode cX4_openInTheEnd 51 = .ok (.lload_n 3, 1) := by decide +kernel
theorem dX4_openInTheEnd_52 : decode cX4_openInTheEnd 52 = .ok (.lreturn, 1) := by decide +kernel
theorem dX4_isOpenInTheEnd_0 : decode cX4_isOpenInTheEnd 0 = .ok (.aload_n 0, 1) := by decide +kernel
theorem dX4_isOpenInTheEnd_1 : decode cX4_isOpenInTheEnd 1 = .ok (.iload_n 2, 1) := by decide +kernel
theorem dX4_isOpenInTheEnd_2 : decode cX4_isOpenInTheEnd 2 = .ok (.invokevirtual 60, 3) := by decide +kernel
theorem dX4_isOpenInTheEnd_5 : decode cX4_isOpenInTheEnd 5 = .ok (.iload_n 1, 1) := by decide +kernel
theorem dX4_isOpenInTheEnd_6 : decode cX4_isOpenInTheEnd 6 = .ok (.lshr, 1) := by decide +kernel
theorem dX4_isOpenInTheEnd_7 : decode cX4_isOpenInTheEnd 7 = .ok (.lconst 1, 1) := by decide +kernel
theorem dX4_isOpenInTheEnd_8 : decode cX4_isOpenInTheEnd 8 = .ok (.land, 1) := by decide +kernel
theorem dX4_isOpenInTheEnd_9 : decode cX4_isOpenInTheEnd 9 = .ok (.lconst 0, 1) := by decide +kernel
theorem dX4_isOpenInTheEnd_10 : decode cX4_isOpenInTheEnd 10 = .ok (.lcmp, 1) := by decide +kernel
theorem dX4_isOpenInTheEnd_11 : decode cX4_isOpenInTheEnd 11 = .ok (.ifCond .eq 7, 3) := by decide +kernel
theorem dX4_isOpenInTheEnd_14 : decode cX4_isOpenInTheEnd 14 = .ok (.iconst 1, 1) := by decide +kernel
theorem dX4_isOpenInTheEnd_15 : decode cX4_isOpenInTheEnd 15 = .ok (.goto 4, 3) := by decide +kernel
theorem dX4_isOpenInTheEnd_18 : decode cX4_isOpenInTheEnd 18 = .ok (.iconst 0, 1) := by decide +kernel
theorem dX4_isOpenInTheEnd_19 : decode cX4_isOpenInTheEnd 19 = .ok (.ireturn, 1) := by decide +kernel
theorem dX4_keysInTheEnd_0 : decode cX4_keysInTheEnd 0 = .ok (.iload_n 1, 1) := by decide +kernel
theorem dX4_keysInTheEnd_1 : decode cX4_keysInTheEnd 1 = .ok (.aload_n 0, 1) := by decide +kernel
theorem dX4_keysInTheEnd_2 : decode cX4_keysInTheEnd 2 = .ok (.aload_n 0, 1) := by decide +kernel
theorem dX4_keysInTheEnd_3 : decode cX4_keysInTheEnd 3 = .ok (.iload_n 1, 1) := by decide +kernel
theorem dX4_keysInTheEnd_4 : decode cX4_keysInTheEnd 4 = .ok (.invokevirtual 60, 3) := by decide +kernel
theorem dX4_keysInTheEnd_7 : decode cX4_keysInTheEnd 7 = .ok (.invokevirtual 56, 3) := by decide +kernel
theorem dX4_keysInTheEnd_10 : decode cX4_keysInTheEnd 10 = .ok (.ior, 1) := by decide +kernel
theorem dX4_keysInTheEnd_11 : decode cX4_keysInTheEnd 11 = .ok (.ireturn, 1) := by decide +kernel
theorem dX4_roundOf_0 : decode cX4_roundOf 0 = .ok (.iload_n 2, 1) := by decide +kernel
theorem dX4_roundOf_1 : decode cX4_roundOf 1 = .ok (.istore_n 3, 1) := by decide +kernel
theorem dX4_roundOf_2 : decode cX4_roundOf 2 = .ok (.iconst 1, 1) := by decide +kernel
theorem dX4_roundOf_3 : decode cX4_roundOf 3 = .ok (.istore 4, 2) := by decide +kernel
theorem dX4_roundOf_5 : decode cX4_roundOf 5 = .ok (.iload 4, 2) := by decide +kernel
theorem dX4_roundOf_7 : decode cX4_roundOf 7 = .ok (.bipush 40, 2) := by decide +kernel
theorem dX4_roundOf_9 : decode cX4_roundOf 9 = .ok (.if_icmp .gt 51, 3) := by decide +kernel
theorem dX4_roundOf_12 : decode cX4_roundOf 12 = .ok (.aload_n 0, 1) := by decide +kernel
theorem dX4_roundOf_13 : decode cX4_roundOf 13 = .ok (.iload_n 3, 1) := by decide +kernel
theorem dX4_roundOf_14 : decode cX4_roundOf 14 = .ok (.invokevirtual 52, 3) := by decide +kernel
theorem dX4_roundOf_17 : decode cX4_roundOf 17 = .ok (.lstore 5, 2) := by decide +kernel
theorem dX4_roundOf_19 : decode cX4_roundOf 19 = .ok (.lload 5, 2) := by decide +kernel
theorem dX4_roundOf_21 : decode cX4_roundOf 21 = .ok (.iload_n 1, 1) := by decide +kernel
theorem dX4_roundOf_22 : decode cX4_roundOf 22 = .ok (.lshr, 1) := by decide +kernel
theorem dX4_roundOf_23 : decode cX4_roundOf 23 = .ok (.lconst 1, 1) := by decide +kernel
theorem dX4_roundOf_24 : decode cX4_roundOf 24 = .ok (.land, 1) := by decide +kernel
theorem dX4_roundOf_25 : decode cX4_roundOf 25 = .ok (.lconst 0, 1) := by decide +kernel
theorem dX4_roundOf_26 : decode cX4_roundOf 26 = .ok (.lcmp, 1) := by decide +kernel
theorem dX4_roundOf_27 : decode cX4_roundOf 27 = .ok (.ifCond .eq 6, 3) := by decide +kernel
theorem dX4_roundOf_30 : decode cX4_roundOf 30 = .ok (.iload 4, 2) := by decide +kernel
theorem dX4_roundOf_32 : decode cX4_roundOf 32 = .ok (.ireturn, 1) := by decide +kernel
theorem dX4_roundOf_33 : decode cX4_roundOf 33 = .ok (.iload_n 3, 1) := by decide +kernel
theorem dX4_roundOf_34 : decode cX4_roundOf 34 = .ok (.aload_n 0, 1) := by decide +kernel
theorem dX4_roundOf_35 : decode cX4_roundOf 35 = .ok (.lload 5, 2) := by decide +kernel
theorem dX4_roundOf_37 : decode cX4_roundOf 37 = .ok (.invokevirtual 56, 3) := by decide +kernel
theorem dX4_roundOf_40 : decode cX4_roundOf 40 = .ok (.ior, 1) := by decide +kernel
theorem dX4_roundOf_41 : decode cX4_roundOf 41 = .ok (.istore 7, 2) := by decide +kernel
theorem dX4_roundOf_43 : decode cX4_roundOf 43 = .ok (.iload 7, 2) := by decide +kernel
theorem dX4_roundOf_45 : decode cX4_roundOf 45 = .ok (.iload_n 3, 1) := by decide +kernel
theorem dX4_roundOf_46 : decode cX4_roundOf 46 = .ok (.if_icmp .ne 5, 3) := by decide +kernel
theorem dX4_roundOf_49 : decode cX4_roundOf 49 = .ok (.iconst 0, 1) := by decide +kernel
theorem dX4_roundOf_50 : decode cX4_roundOf 50 = .ok (.ireturn, 1) := by decide +kernel
theorem dX4_roundOf_51 : decode cX4_roundOf 51 = .ok (.iload 7, 2) := by decide +kernel
theorem dX4_roundOf_53 : decode cX4_roundOf 53 = .ok (.istore_n 3, 1) := by decide +kernel
theorem dX4_roundOf_54 : decode cX4_roundOf 54 = .ok (.iinc 4 1, 3) := by decide +kernel
theorem dX4_roundOf_57 : decode cX4_roundOf 57 = .ok (.goto (-52), 3) := by decide +kernel
theorem dX4_roundOf_60 : decode cX4_roundOf 60 = .ok (.iconst 0, 1) := by decide +kernel
theorem dX4_roundOf_61 : decode cX4_roundOf 61 = .ok (.ireturn, 1) := by decide +kernel
theorem dX4_goBack_0 : decode cX4_goBack 0 = .ok (.aload_n 0, 1) := by decide +kernel
theorem dX4_goBack_1 : decode cX4_goBack 1 = .ok (.iload_n 1, 1) := by decide +kernel
theorem dX4_goBack_2 : decode cX4_goBack 2 = .ok (.putfield 33, 3) := by decide +kernel
theorem dX4_goBack_5 : decode cX4_goBack 5 = .ok (.aload_n 0, 1) := by decide +kernel
theorem dX4_goBack_6 : decode cX4_goBack 6 = .ok (.dup, 1) := by decide +kernel
theorem dX4_goBack_7 : decode cX4_goBack 7 = .ok (.getfield 45, 3) := by decide +kernel
theorem dX4_goBack_10 : decode cX4_goBack 10 = .ok (.iconst 1, 1) := by decide +kernel
theorem dX4_goBack_11 : decode cX4_goBack 11 = .ok (.iadd, 1) := by decide +kernel
theorem dX4_goBack_12 : decode cX4_goBack 12 = .ok (.putfield 45, 3) := by decide +kernel
theorem dX4_goBack_15 : decode cX4_goBack 15 = .ok (.return_, 1) := by decide +kernel
theorem dX5_init_0 : decode cX5_init 0 = .ok (.aload_n 0, 1) := by decide +kernel
theorem dX5_init_1 : decode cX5_init 1 = .ok (.invokespecial 3, 3) := by decide +kernel
theorem dX5_init_4 : decode cX5_init 4 = .ok (.aload_n 0, 1) := by decide +kernel
theorem dX5_init_5 : decode cX5_init 5 = .ok (.sipush 1024, 3) := by decide +kernel
theorem dX5_init_8 : decode cX5_init 8 = .ok (.newarray .int, 2) := by decide +kernel
theorem dX5_init_10 : decode cX5_init 10 = .ok (.putfield 9, 3) := by decide +kernel
theorem dX5_init_13 : decode cX5_init 13 = .ok (.aload_n 0, 1) := by decide +kernel
theorem dX5_init_14 : decode cX5_init 14 = .ok (.sipush 1024, 3) := by decide +kernel
theorem dX5_init_17 : decode cX5_init 17 = .ok (.newarray .long, 2) := by decide +kernel
theorem dX5_init_19 : decode cX5_init 19 = .ok (.putfield 15, 3) := by decide +kernel
theorem dX5_init_22 : decode cX5_init 22 = .ok (.aload_n 0, 1) := by decide +kernel
theorem dX5_init_23 : decode cX5_init 23 = .ok (.iconst (-1), 1) := by decide +kernel
theorem dX5_init_24 : decode cX5_init 24 = .ok (.putfield 19, 3) := by decide +kernel
theorem dX5_init_27 : decode cX5_init 27 = .ok (.return_, 1) := by decide +kernel
theorem dX5_refresh_0 : decode cX5_refresh 0 = .ok (.aload_n 1, 1) := by decide +kernel
theorem dX5_refresh_1 : decode cX5_refresh 1 = .ok (.getfield 23, 3) := by decide +kernel
theorem dX5_refresh_4 : decode cX5_refresh 4 = .ok (.aload_n 2, 1) := by decide +kernel
theorem dX5_refresh_5 : decode cX5_refresh 5 = .ok (.getfield 28, 3) := by decide +kernel
theorem dX5_refresh_8 : decode cX5_refresh 8 = .ok (.iadd, 1) := by decide +kernel
theorem dX5_refresh_9 : decode cX5_refresh 9 = .ok (.istore_n 3, 1) := by decide +kernel
theorem dX5_refresh_10 : decode cX5_refresh 10 = .ok (.aload_n 0, 1) := by decide +kernel
theorem dX5_refresh_11 : decode cX5_refresh 11 = .ok (.getfield 19, 3) := by decide +kernel
theorem dX5_refresh_14 : decode cX5_refresh 14 = .ok (.iload_n 3, 1) := by decide +kernel
theorem dX5_refresh_15 : decode cX5_refresh 15 = .ok (.if_icmp .ne 4, 3) := by decide +kernel
theorem dX5_refresh_18 : decode cX5_refresh 18 = .ok (.return_, 1) := by decide +kernel
theorem dX5_refresh_19 : decode cX5_refresh 19 = .ok (.aload_n 0, 1) := by decide +kernel
theorem dX5_refresh_20 : decode cX5_refresh 20 = .ok (.iload_n 3, 1) := by decide +kernel
theorem dX5_refresh_21 : decode cX5_refresh 21 = .ok (.putfield 19, 3) := by decide +kernel
theorem dX5_refresh_24 : decode cX5_refresh 24 = .ok (.aload_n 1, 1) := by decide +kernel
theorem dX5_refresh_25 : decode cX5_refresh 25 = .ok (.invokevirtual 31, 3) := by decide +kernel
theorem dX5_refresh_28 : decode cX5_refresh 28 = .ok (.istore 4, 2) := by decide +kernel
theorem dX5_refresh_30 : decode cX5_refresh 30 = .ok (.iconst 1, 1) := by decide +kernel
theorem dX5_refresh_31 : decode cX5_refresh 31 = .ok (.istore 5, 2) := by decide +kernel
theorem dX5_refresh_33 : decode cX5_refresh 33 = .ok (.iload 5, 2) := by decide +kernel
theorem dX5_refresh_35 : decode cX5_refresh 35 = .ok (.iload 4, 2) := by decide +kernel
theorem dX5_refresh_37 : decode cX5_refresh 37 = .ok (.if_icmp .gt 36, 3) := by decide +kernel
theorem dX5_refresh_40 : decode cX5_refresh 40 = .ok (.iload 5, 2) := by decide +kernel
theorem dX5_refresh_42 : decode cX5_refresh 42 = .ok (.iload 4, 2) := by decide +kernel
theorem dX5_refresh_44 : decode cX5_refresh 44 = .ok (.iconst (-1), 1) := by decide +kernel
theorem dX5_refresh_45 : decode cX5_refresh 45 = .ok (.ixor, 1) := by decide +kernel
theorem dX5_refresh_46 : decode cX5_refresh 46 = .ok (.iand, 1) := by decide +kernel
theorem dX5_refresh_47 : decode cX5_refresh 47 = .ok (.ifCond .ne 20, 3) := by decide +kernel
theorem dX5_refresh_50 : decode cX5_refresh 50 = .ok (.aload_n 0, 1) := by decide +kernel
theorem dX5_refresh_51 : decode cX5_refresh 51 = .ok (.iload 5, 2) := by decide +kernel
theorem dX5_refresh_53 : decode cX5_refresh 53 = .ok (.aload_n 1, 1) := by decide +kernel
theorem dX5_refresh_54 : decode cX5_refresh 54 = .ok (.getfield 35, 3) := by decide +kernel
theorem dX5_refresh_57 : decode cX5_refresh 57 = .ok (.iload 5, 2) := by decide +kernel
theorem dX5_refresh_59 : decode cX5_refresh 59 = .ok (.invokestatic 38, 3) := by decide +kernel
theorem dX5_refresh_62 : decode cX5_refresh 62 = .ok (.iaload, 1) := by decide +kernel
theorem dX5_refresh_63 : decode cX5_refresh 63 = .ok (.aload_n 2, 1) := by decide +kernel
theorem dX5_refresh_64 : decode cX5_refresh 64 = .ok (.invokevirtual 44, 3) := by decide +kernel
theorem dX5_refresh_67 : decode cX5_refresh 67 = .ok (.iinc 5 1, 3) := by decide +kernel
theorem dX5_refresh_70 : decode cX5_refresh 70 = .ok (.goto (-37), 3) := by decide +kernel
theorem dX5_refresh_73 : decode cX5_refresh 73 = .ok (.return_, 1) := by decide +kernel
theorem dX5_fill_0 : decode cX5_fill 0 = .ok (.iload_n 1, 1) := by decide +kernel
theorem dX5_fill_1 : decode cX5_fill 1 = .ok (.iload_n 1, 1) := by decide +kernel
theorem dX5_fill_2 : decode cX5_fill 2 = .ok (.iconst 1, 1) := by decide +kernel
theorem dX5_fill_3 : decode cX5_fill 3 = .ok (.isub, 1) := by decide +kernel
theorem dX5_fill_4 : decode cX5_fill 4 = .ok (.iand, 1) := by decide +kernel
theorem dX5_fill_5 : decode cX5_fill 5 = .ok (.istore 4, 2) := by decide +kernel
theorem dX5_fill_7 : decode cX5_fill 7 = .ok (.aload_n 0, 1) := by decide +kernel
theorem dX5_fill_8 : decode cX5_fill 8 = .ok (.getfield 9, 3) := by decide +kernel
theorem dX5_fill_11 : decode cX5_fill 11 = .ok (.iload 4, 2) := by decide +kernel
theorem dX5_fill_13 : decode cX5_fill 13 = .ok (.iaload, 1) := by decide +kernel
theorem dX5_fill_14 : decode cX5_fill 14 = .ok (.iload_n 2, 1) := by decide +kernel
theorem dX5_fill_15 : decode cX5_fill 15 = .ok (.ior, 1) := by decide +kernel
theorem dX5_fill_16 : decode cX5_fill 16 = .ok (.istore 5, 2) := by decide +kernel
theorem dX5_fill_18 : decode cX5_fill 18 = .ok (.iload 5, 2) := by decide +kernel
theorem dX5_fill_20 : decode cX5_fill 20 = .ok (.aload_n 0, 1) := by decide +kernel
theorem dX5_fill_21 : decode cX5_fill 21 = .ok (.getfield 9, 3) := by decide +kernel
theorem dX5_fill_24 : decode cX5_fill 24 = .ok (.iload 4, 2) := by decide +kernel
theorem dX5_fill_26 : decode cX5_fill 26 = .ok (.iaload, 1) := by decide +kernel
theorem dX5_fill_27 : decode cX5_fill 27 = .ok (.if_icmp .ne 27, 3) := by decide +kernel
theorem dX5_fill_30 : decode cX5_fill 30 = .ok (.aload_n 0, 1) := by decide +kernel
theorem dX5_fill_31 : decode cX5_fill 31 = .ok (.getfield 9, 3) := by decide +kernel
theorem dX5_fill_34 : decode cX5_fill 34 = .ok (.iload_n 1, 1) := by decide +kernel
theorem dX5_fill_35 : decode cX5_fill 35 = .ok (.iload 5, 2) := by decide +kernel
theorem dX5_fill_37 : decode cX5_fill 37 = .ok (.iastore, 1) := by decide +kernel
theorem dX5_fill_38 : decode cX5_fill 38 = .ok (.aload_n 0, 1) := by decide +kernel
theorem dX5_fill_39 : decode cX5_fill 39 = .ok (.getfield 15, 3) := by decide +kernel
theorem dX5_fill_42 : decode cX5_fill 42 = .ok (.iload_n 1, 1) := by decide +kernel
theorem dX5_fill_43 : decode cX5_fill 43 = .ok (.aload_n 0, 1) := by decide +kernel
theorem dX5_fill_44 : decode cX5_fill 44 = .ok (.getfield 15, 3) := by decide +kernel
theorem dX5_fill_47 : decode cX5_fill 47 = .ok (.iload 4, 2) := by decide +kernel
theorem dX5_fill_49 : decode cX5_fill 49 = .ok (.laload, 1) := by decide +kernel
theorem dX5_fill_50 : decode cX5_fill 50 = .ok (.lastore, 1) := by decide +kernel
theorem dX5_fill_51 : decode cX5_fill 51 = .ok (.goto 34, 3) := by decide +kernel
theorem dX5_fill_54 : decode cX5_fill 54 = .ok (.aload_n 0, 1) := by decide +kernel
theorem dX5_fill_55 : decode cX5_fill 55 = .ok (.getfield 15, 3) := by decide +kernel
theorem dX5_fill_58 : decode cX5_fill 58 = .ok (.iload_n 1, 1) := by decide +kernel
theorem dX5_fill_59 : decode cX5_fill 59 = .ok (.aload_n 3, 1) := by decide +kernel
theorem dX5_fill_60 : decode cX5_fill 60 = .ok (.iload 5, 2) := by decide +kernel
theorem dX5_fill_62 : decode cX5_fill 62 = .ok (.invokevirtual 48, 3) := by decide +kernel
theorem dX5_fill_65 : decode cX5_fill 65 = .ok (.lastore, 1) := by decide +kernel
theorem dX5_fill_66 : decode cX5_fill 66 = .ok (.aload_n 0, 1) := by decide +kernel
theorem dX5_fill_67 : decode cX5_fill 67 = .ok (.getfield 9, 3) := by decide +kernel
theorem dX5_fill_70 : decode cX5_fill 70 = .ok (.iload_n 1, 1) := by decide +kernel
theorem dX5_fill_71 : decode cX5_fill 71 = .ok (.iload 5, 2) := by decide +kernel
theorem dX5_fill_73 : decode cX5_fill 73 = .ok (.aload_n 3, 1) := by decide +kernel
theorem dX5_fill_74 : decode cX5_fill 74 = .ok (.aload_n 0, 1) := by decide +kernel
theorem dX5_fill_75 : decode cX5_fill 75 = .ok (.getfield 15, 3) := by decide +kernel
theorem dX5_fill_78 : decode cX5_fill 78 = .ok (.iload_n 1, 1) := by decide +kernel
theorem dX5_fill_79 : decode cX5_fill 79 = .ok (.laload, 1) := by decide +kernel
theorem dX5_fill_80 : decode cX5_fill 80 = .ok (.invokevirtual 52, 3) := by decide +kernel
theorem dX5_fill_83 : decode cX5_fill 83 = .ok (.ior, 1) := by decide +kernel
theorem dX5_fill_84 : decode cX5_fill 84 = .ok (.iastore, 1) := by decide +kernel
theorem dX5_fill_85 : decode cX5_fill 85 = .ok (.return_, 1) := by decide +kernel
theorem dX5_isOpen_0 : decode cX5_isOpen 0 = .ok (.aload_n 0, 1) := by decide +kernel
theorem dX5_isOpen_1 : decode cX5_isOpen 1 = .ok (.getfield 15, 3) := by decide +kernel
theorem dX5_isOpen_4 : decode cX5_isOpen 4 = .ok (.iload_n 2, 1) := by decide +kernel
theorem dX5_isOpen_5 : decode cX5_isOpen 5 = .ok (.laload, 1) := by decide +kernel
theorem dX5_isOpen_6 : decode cX5_isOpen 6 = .ok (.iload_n 1, 1) := by decide +kernel
theorem dX5_isOpen_7 : decode cX5_isOpen 7 = .ok (.lshr, 1) := by decide +kernel
theorem dX5_isOpen_8 : decode cX5_isOpen 8 = .ok (.lconst 1, 1) := by decide +kernel
theorem dX5_isOpen_9 : decode cX5_isOpen 9 = .ok (.land, 1) := by decide +kernel
theorem dX5_isOpen_10 : decode cX5_isOpen 10 = .ok (.lconst 0, 1) := by decide +kernel
theorem dX5_isOpen_11 : decode cX5_isOpen 11 = .ok (.lcmp, 1) := by decide +kernel
theorem dX5_isOpen_12 : decode cX5_isOpen 12 = .ok (.ifCond .eq 7, 3) := by decide +kernel
theorem dX5_isOpen_15 : decode cX5_isOpen 15 = .ok (.iconst 1, 1) := by decide +kernel
theorem dX5_isOpen_16 : decode cX5_isOpen 16 = .ok (.goto 4, 3) := by decide +kernel
theorem dX5_isOpen_19 : decode cX5_isOpen 19 = .ok (.iconst 0, 1) := by decide +kernel
theorem dX5_isOpen_20 : decode cX5_isOpen 20 = .ok (.ireturn, 1) := by decide +kernel
theorem dX6_init_0 : decode cX6_init 0 = .ok (.aload_n 0, 1) := by decide +kernel
theorem dX6_init_1 : decode cX6_init 1 = .ok (.invokespecial 3, 3) := by decide +kernel
theorem dX6_init_4 : decode cX6_init 4 = .ok (.aload_n 0, 1) := by decide +kernel
theorem dX6_init_5 : decode cX6_init 5 = .ok (.sipush 252, 3) := by decide +kernel
theorem dX6_init_8 : decode cX6_init 8 = .ok (.newarray .int, 2) := by decide +kernel
theorem dX6_init_10 : decode cX6_init 10 = .ok (.putfield 11, 3) := by decide +kernel
theorem dX6_init_13 : decode cX6_init 13 = .ok (.aload_n 0, 1) := by decide +kernel
theorem dX6_init_14 : decode cX6_init 14 = .ok (.sipush 1024, 3) := by decide +kernel
theorem dX6_init_17 : decode cX6_init 17 = .ok (.newarray .boolean, 2) := by decide +kernel
theorem dX6_init_19 : decode cX6_init 19 = .ok (.putfield 15, 3) := by decide +kernel
theorem dX6_init_22 : decode cX6_init 22 = .ok (.return_, 1) := by decide +kernel
theorem dX6_findLeast_0 : decode cX6_findLeast 0 = .ok (.aload_n 0, 1) := by decide +kernel
theorem dX6_findLeast_1 : decode cX6_findLeast 1 = .ok (.iconst 0, 1) := by decide +kernel
theorem dX6_findLeast_2 : decode cX6_findLeast 2 = .ok (.putfield 19, 3) := by decide +kernel
theorem dX6_findLeast_5 : decode cX6_findLeast 5 = .ok (.iconst 0, 1) := by decide +kernel
theorem dX6_findLeast_6 : decode cX6_findLeast 6 = .ok (.istore_n 2, 1) := by decide +kernel
theorem dX6_findLeast_7 : decode cX6_findLeast 7 = .ok (.iload_n 2, 1) := by decide +kernel
theorem dX6_findLeast_8 : decode cX6_findLeast 8 = .ok (.aload_n 1, 1) := by decide +kernel
theorem dX6_findLeast_9 : decode cX6_findLeast 9 = .ok (.getfield 23, 3) := by decide +kernel
theorem dX6_findLeast_12 : decode cX6_findLeast 12 = .ok (.if_icmp .gt 115, 3) := by decide +kernel
theorem dX6_findLeast_15 : decode cX6_findLeast 15 = .ok (.iload_n 2, 1) := by decide +kernel
theorem dX6_findLeast_16 : decode cX6_findLeast 16 = .ok (.aload_n 1, 1) := by decide +kernel
theorem dX6_findLeast_17 : decode cX6_findLeast 17 = .ok (.getfield 23, 3) := by decide +kernel
theorem dX6_findLeast_20 : decode cX6_findLeast 20 = .ok (.iconst (-1), 1) := by decide +kernel
theorem dX6_findLeast_21 : decode cX6_findLeast 21 = .ok (.ixor, 1) := by decide +kernel
theorem dX6_findLeast_22 : decode cX6_findLeast 22 = .ok (.iand, 1) := by decide +kernel
theorem dX6_findLeast_23 : decode cX6_findLeast 23 = .ok (.ifCond .ne 98, 3) := by decide +kernel
theorem dX6_findLeast_26 : decode cX6_findLeast 26 = .ok (.iconst 0, 1) := by decide +kernel
theorem dX6_findLeast_27 : decode cX6_findLeast 27 = .ok (.istore_n 3, 1) := by decide +kernel
theorem dX6_findLeast_28 : decode cX6_findLeast 28 = .ok (.iconst 0, 1) := by decide +kernel
theorem dX6_findLeast_29 : decode cX6_findLeast 29 = .ok (.istore 4, 2) := by decide +kernel
theorem dX6_findLeast_31 : decode cX6_findLeast 31 = .ok (.iload 4, 2) := by decide +kernel
theorem dX6_findLeast_33 : decode cX6_findLeast 33 = .ok (.bipush 10, 2) := by decide +kernel
theorem dX6_findLeast_35 : decode cX6_findLeast 35 = .ok (.if_icmp .ge 44, 3) := by decide +kernel
theorem dX6_findLeast_38 : decode cX6_findLeast 38 = .ok (.iload_n 3, 1) := by decide +kernel
theorem dX6_findLeast_39 : decode cX6_findLeast 39 = .ok (.ifCond .ne 40, 3) := by decide +kernel
theorem dX6_findLeast_42 : decode cX6_findLeast 42 = .ok (.iload_n 2, 1) := by decide +kernel
theorem dX6_findLeast_43 : decode cX6_findLeast 43 = .ok (.iload 4, 2) := by decide +kernel
theorem dX6_findLeast_45 : decode cX6_findLeast 45 = .ok (.ishr, 1) := by decide +kernel
theorem dX6_findLeast_46 : decode cX6_findLeast 46 = .ok (.iconst 1, 1) := by decide +kernel
theorem dX6_findLeast_47 : decode cX6_findLeast 47 = .ok (.iand, 1) := by decide +kernel
theorem dX6_findLeast_48 : decode cX6_findLeast 48 = .ok (.ifCond .eq 23, 3) := by decide +kernel
theorem dX6_findLeast_51 : decode cX6_findLeast 51 = .ok (.aload_n 0, 1) := by decide +kernel
theorem dX6_findLeast_52 : decode cX6_findLeast 52 = .ok (.getfield 15, 3) := by decide +kernel
theorem dX6_findLeast_55 : decode cX6_findLeast 55 = .ok (.iload_n 2, 1) := by decide +kernel
theorem dX6_findLeast_56 : decode cX6_findLeast 56 = .ok (.iconst 1, 1) := by decide +kernel
theorem dX6_findLeast_57 : decode cX6_findLeast 57 = .ok (.iload 4, 2) := by decide +kernel
theorem dX6_findLeast_59 : decode cX6_findLeast 59 = .ok (.ishl, 1) := by decide +kernel
theorem dX6_findLeast_60 : decode cX6_findLeast 60 = .ok (.iconst (-1), 1) := by decide +kernel
theorem dX6_findLeast_61 : decode cX6_findLeast 61 = .ok (.ixor, 1) := by decide +kernel
theorem dX6_findLeast_62 : decode cX6_findLeast 62 = .ok (.iand, 1) := by decide +kernel
theorem dX6_findLeast_63 : decode cX6_findLeast 63 = .ok (.baload, 1) := by decide +kernel
theorem dX6_findLeast_64 : decode cX6_findLeast 64 = .ok (.ifCond .eq 7, 3) := by decide +kernel
theorem dX6_findLeast_67 : decode cX6_findLeast 67 = .ok (.iconst 1, 1) := by decide +kernel
theorem dX6_findLeast_68 : decode cX6_findLeast 68 = .ok (.goto 4, 3) := by decide +kernel
theorem dX6_findLeast_71 : decode cX6_findLeast 71 = .ok (.iconst 0, 1) := by decide +kernel
theorem dX6_findLeast_72 : decode cX6_findLeast 72 = .ok (.istore_n 3, 1) := by decide +kernel
theorem dX6_findLeast_73 : decode cX6_findLeast 73 = .ok (.iinc 4 1, 3) := by decide +kernel
theorem dX6_findLeast_76 : decode cX6_findLeast 76 = .ok (.goto (-45), 3) := by decide +kernel
theorem dX6_findLeast_79 : decode cX6_findLeast 79 = .ok (.aload_n 0, 1) := by decide +kernel
theorem dX6_findLeast_80 : decode cX6_findLeast 80 = .ok (.getfield 15, 3) := by decide +kernel
theorem dX6_findLeast_83 : decode cX6_findLeast 83 = .ok (.iload_n 2, 1) := by decide +kernel
theorem dX6_findLeast_84 : decode cX6_findLeast 84 = .ok (.iload_n 3, 1) := by decide +kernel
theorem dX6_findLeast_85 : decode cX6_findLeast 85 = .ok (.ifCond .ne 12, 3) := by decide +kernel
theorem dX6_findLeast_88 : decode cX6_findLeast 88 = .ok (.aload_n 1, 1) := by decide +kernel
theorem dX6_findLeast_89 : decode cX6_findLeast 89 = .ok (.getfield 28, 3) := by decide +kernel
theorem dX6_findLeast_92 : decode cX6_findLeast 92 = .ok (.iload_n 2, 1) := by decide +kernel
theorem dX6_findLeast_93 : decode cX6_findLeast 93 = .ok (.baload, 1) := by decide +kernel
theorem dX6_findLeast_94 : decode cX6_findLeast 94 = .ok (.ifCond .eq 7, 3) := by decide +kernel
theorem dX6_findLeast_97 : decode cX6_findLeast 97 = .ok (.iconst 1, 1) := by decide +kernel
theorem dX6_findLeast_98 : decode cX6_findLeast 98 = .ok (.goto 4, 3) := by decide +kernel
theorem dX6_findLeast_101 : decode cX6_findLeast 101 = .ok (.iconst 0, 1) := by decide +kernel
theorem dX6_findLeast_102 : decode cX6_findLeast 102 = .ok (.bastore, 1) := by decide +kernel
theorem dX6_findLeast_103 : decode cX6_findLeast 103 = .ok (.aload_n 0, 1) := by decide +kernel
theorem dX6_findLeast_104 : decode cX6_findLeast 104 = .ok (.getfield 15, 3) := by decide +kernel
theorem dX6_findLeast_107 : decode cX6_findLeast 107 = .ok (.iload_n 2, 1) := by decide +kernel
theorem dX6_findLeast_108 : decode cX6_findLeast 108 = .ok (.baload, 1) := by decide +kernel
theorem dX6_findLeast_109 : decode cX6_findLeast 109 = .ok (.ifCond .eq 12, 3) := by decide +kernel
theorem dX6_findLeast_112 : decode cX6_findLeast 112 = .ok (.iload_n 3, 1) := by decide +kernel
theorem dX6_findLeast_113 : decode cX6_findLeast 113 = .ok (.ifCond .ne 8, 3) := by decide +kernel
theorem dX6_findLeast_116 : decode cX6_findLeast 116 = .ok (.aload_n 0, 1) := by decide +kernel
theorem dX6_findLeast_117 : decode cX6_findLeast 117 = .ok (.iload_n 2, 1) := by decide +kernel
theorem dX6_findLeast_118 : decode cX6_findLeast 118 = .ok (.invokevirtual 31, 3) := by decide +kernel
theorem dX6_findLeast_121 : decode cX6_findLeast 121 = .ok (.iinc 2 1, 3) := by decide +kernel
theorem dX6_findLeast_124 : decode cX6_findLeast 124 = .ok (.goto (-117), 3) := by decide +kernel
theorem dX6_findLeast_127 : decode cX6_findLeast 127 = .ok (.return_, 1) := by decide +kernel
theorem dX6_findMost_0 : decode cX6_findMost 0 = .ok (.aload_n 0, 1) := by decide +kernel
theorem dX6_findMost_1 : decode cX6_findMost 1 = .ok (.iconst 0, 1) := by decide +kernel
theorem dX6_findMost_2 : decode cX6_findMost 2 = .ok (.putfield 19, 3) := by decide +kernel
theorem dX6_findMost_5 : decode cX6_findMost 5 = .ok (.aload_n 1, 1) := by decide +kernel
theorem dX6_findMost_6 : decode cX6_findMost 6 = .ok (.getfield 23, 3) := by decide +kernel
theorem dX6_findMost_9 : decode cX6_findMost 9 = .ok (.istore_n 2, 1) := by decide +kernel
theorem dX6_findMost_10 : decode cX6_findMost 10 = .ok (.iload_n 2, 1) := by decide +kernel
theorem dX6_findMost_11 : decode cX6_findMost 11 = .ok (.ifCond .lt 120, 3) := by decide +kernel
theorem dX6_findMost_14 : decode cX6_findMost 14 = .ok (.iload_n 2, 1) := by decide +kernel
theorem dX6_findMost_15 : decode cX6_findMost 15 = .ok (.aload_n 1, 1) := by decide +kernel
theorem dX6_findMost_16 : decode cX6_findMost 16 = .ok (.getfield 23, 3) := by decide +kernel
theorem dX6_findMost_19 : decode cX6_findMost 19 = .ok (.iconst (-1), 1) := by decide +kernel
theorem dX6_findMost_20 : decode cX6_findMost 20 = .ok (.ixor, 1) := by decide +kernel
theorem dX6_findMost_21 : decode cX6_findMost 21 = .ok (.iand, 1) := by decide +kernel
theorem dX6_findMost_22 : decode cX6_findMost 22 = .ok (.ifCond .ne 103, 3) := by decide +kernel
theorem dX6_findMost_25 : decode cX6_findMost 25 = .ok (.iconst 0, 1) := by decide +kernel
theorem dX6_findMost_26 : decode cX6_findMost 26 = .ok (.istore_n 3, 1) := by decide +kernel
theorem dX6_findMost_27 : decode cX6_findMost 27 = .ok (.iconst 0, 1) := by decide +kernel
theorem dX6_findMost_28 : decode cX6_findMost 28 = .ok (.istore 4, 2) := by decide +kernel
theorem dX6_findMost_30 : decode cX6_findMost 30 = .ok (.iload 4, 2) := by decide +kernel
theorem dX6_findMost_32 : decode cX6_findMost 32 = .ok (.bipush 10, 2) := by decide +kernel
theorem dX6_findMost_34 : decode cX6_findMost 34 = .ok (.if_icmp .ge 49, 3) := by decide +kernel
theorem dX6_findMost_37 : decode cX6_findMost 37 = .ok (.iload_n 3, 1) := by decide +kernel
theorem dX6_findMost_38 : decode cX6_findMost 38 = .ok (.ifCond .ne 45, 3) := by decide +kernel
theorem dX6_findMost_41 : decode cX6_findMost 41 = .ok (.aload_n 1, 1) := by decide +kernel
theorem dX6_findMost_42 : decode cX6_findMost 42 = .ok (.getfield 23, 3) := by decide +kernel
theorem dX6_findMost_45 : decode cX6_findMost 45 = .ok (.iload_n 2, 1) := by decide +kernel
theorem dX6_findMost_46 : decode cX6_findMost 46 = .ok (.iconst (-1), 1) := by decide +kernel
theorem dX6_findMost_47 : decode cX6_findMost 47 = .ok (.ixor, 1) := by decide +kernel
theorem dX6_findMost_48 : decode cX6_findMost 48 = .ok (.iand, 1) := by decide +kernel
theorem dX6_findMost_49 : decode cX6_findMost 49 = .ok (.iconst 1, 1) := by decide +kernel
theorem dX6_findMost_50 : decode cX6_findMost 50 = .ok (.iload 4, 2) := by decide +kernel
theorem dX6_findMost_52 : decode cX6_findMost 52 = .ok (.ishl, 1) := by decide +kernel
theorem dX6_findMost_53 : decode cX6_findMost 53 = .ok (.iand, 1) := by decide +kernel
theorem dX6_findMost_54 : decode cX6_findMost 54 = .ok (.ifCond .eq 21, 3) := by decide +kernel
theorem dX6_findMost_57 : decode cX6_findMost 57 = .ok (.aload_n 0, 1) := by decide +kernel
theorem dX6_findMost_58 : decode cX6_findMost 58 = .ok (.getfield 15, 3) := by decide +kernel
theorem dX6_findMost_61 : decode cX6_findMost 61 = .ok (.iload_n 2, 1) := by decide +kernel
theorem dX6_findMost_62 : decode cX6_findMost 62 = .ok (.iconst 1, 1) := by decide +kernel
theorem dX6_findMost_63 : decode cX6_findMost 63 = .ok (.iload 4, 2) := by decide +kernel
theorem dX6_findMost_65 : decode cX6_findMost 65 = .ok (.ishl, 1) := by decide +kernel
theorem dX6_findMost_66 : decode cX6_findMost 66 = .ok (.ior, 1) := by decide +kernel
theorem dX6_findMost_67 : decode cX6_findMost 67 = .ok (.baload, 1) := by decide +kernel
theorem dX6_findMost_68 : decode cX6_findMost 68 = .ok (.ifCond .eq 7, 3) := by decide +kernel
theorem dX6_findMost_71 : decode cX6_findMost 71 = .ok (.iconst 1, 1) := by decide +kernel
theorem dX6_findMost_72 : decode cX6_findMost 72 = .ok (.goto 4, 3) := by decide +kernel
theorem dX6_findMost_75 : decode cX6_findMost 75 = .ok (.iconst 0, 1) := by decide +kernel
theorem dX6_findMost_76 : decode cX6_findMost 76 = .ok (.istore_n 3, 1) := by decide +kernel
theorem dX6_findMost_77 : decode cX6_findMost 77 = .ok (.iinc 4 1, 3) := by decide +kernel
theorem dX6_findMost_80 : decode cX6_findMost 80 = .ok (.goto (-50), 3) := by decide +kernel
theorem dX6_findMost_83 : decode cX6_findMost 83 = .ok (.aload_n 0, 1) := by decide +kernel
theorem dX6_findMost_84 : decode cX6_findMost 84 = .ok (.getfield 15, 3) := by decide +kernel
theorem dX6_findMost_87 : decode cX6_findMost 87 = .ok (.iload_n 2, 1) := by decide +kernel
theorem dX6_findMost_88 : decode cX6_findMost 88 = .ok (.iload_n 3, 1) := by decide +kernel
theorem dX6_findMost_89 : decode cX6_findMost 89 = .ok (.ifCond .ne 12, 3) := by decide +kernel
theorem dX6_findMost_92 : decode cX6_findMost 92 = .ok (.aload_n 1, 1) := by decide +kernel
theorem dX6_findMost_93 : decode cX6_findMost 93 = .ok (.getfield 28, 3) := by decide +kernel
theorem dX6_findMost_96 : decode cX6_findMost 96 = .ok (.iload_n 2, 1) := by decide +kernel
theorem dX6_findMost_97 : decode cX6_findMost 97 = .ok (.baload, 1) := by decide +kernel
theorem dX6_findMost_98 : decode cX6_findMost 98 = .ok (.ifCond .ne 7, 3) := by decide +kernel
theorem dX6_findMost_101 : decode cX6_findMost 101 = .ok (.iconst 1, 1) := by decide +kernel
theorem dX6_findMost_102 : decode cX6_findMost 102 = .ok (.goto 4, 3) := by decide +kernel
theorem dX6_findMost_105 : decode cX6_findMost 105 = .ok (.iconst 0, 1) := by decide +kernel
theorem dX6_findMost_106 : decode cX6_findMost 106 = .ok (.bastore, 1) := by decide +kernel
theorem dX6_findMost_107 : decode cX6_findMost 107 = .ok (.aload_n 0, 1) := by decide +kernel
theorem dX6_findMost_108 : decode cX6_findMost 108 = .ok (.getfield 15, 3) := by decide +kernel
theorem dX6_findMost_111 : decode cX6_findMost 111 = .ok (.iload_n 2, 1) := by decide +kernel
theorem dX6_findMost_112 : decode cX6_findMost 112 = .ok (.baload, 1) := by decide +kernel
theorem dX6_findMost_113 : decode cX6_findMost 113 = .ok (.ifCond .eq 12, 3) := by decide +kernel
theorem dX6_findMost_116 : decode cX6_findMost 116 = .ok (.iload_n 3, 1) := by decide +kernel
theorem dX6_findMost_117 : decode cX6_findMost 117 = .ok (.ifCond .ne 8, 3) := by decide +kernel
theorem dX6_findMost_120 : decode cX6_findMost 120 = .ok (.aload_n 0, 1) := by decide +kernel
theorem dX6_findMost_121 : decode cX6_findMost 121 = .ok (.iload_n 2, 1) := by decide +kernel
theorem dX6_findMost_122 : decode cX6_findMost 122 = .ok (.invokevirtual 31, 3) := by decide +kernel
theorem dX6_findMost_125 : decode cX6_findMost 125 = .ok (.iinc 2 (-1), 3) := by decide +kernel
theorem dX6_findMost_128 : decode cX6_findMost 128 = .ok (.goto (-118), 3) := by decide +kernel
theorem dX6_findMost_131 : decode cX6_findMost 131 = .ok (.aload_n 0, 1) := by decide +kernel
theorem dX6_findMost_132 : decode cX6_findMost 132 = .ok (.invokevirtual 35, 3) := by decide +kernel
theorem dX6_findMost_135 : decode cX6_findMost 135 = .ok (.return_, 1) := by decide +kernel
theorem dX6_add_0 : decode cX6_add 0 = .ok (.aload_n 0, 1) := by decide +kernel
theorem dX6_add_1 : decode cX6_add 1 = .ok (.getfield 19, 3) := by decide +kernel
theorem dX6_add_4 : decode cX6_add 4 = .ok (.sipush 252, 3) := by decide +kernel
theorem dX6_add_7 : decode cX6_add 7 = .ok (.if_icmp .ge 23, 3) := by decide +kernel
theorem dX6_add_10 : decode cX6_add 10 = .ok (.aload_n 0, 1) := by decide +kernel
theorem dX6_add_11 : decode cX6_add 11 = .ok (.getfield 11, 3) := by decide +kernel
theorem dX6_add_14 : decode cX6_add 14 = .ok (.aload_n 0, 1) := by decide +kernel
theorem dX6_add_15 : decode cX6_add 15 = .ok (.getfield 19, 3) := by decide +kernel
theorem dX6_add_18 : decode cX6_add 18 = .ok (.iload_n 1, 1) := by decide +kernel
theorem dX6_add_19 : decode cX6_add 19 = .ok (.iastore, 1) := by decide +kernel
theorem dX6_add_20 : decode cX6_add 20 = .ok (.aload_n 0, 1) := by decide +kernel
theorem dX6_add_21 : decode cX6_add 21 = .ok (.dup, 1) := by decide +kernel
theorem dX6_add_22 : decode cX6_add 22 = .ok (.getfield 19, 3) := by decide +kernel
theorem dX6_add_25 : decode cX6_add 25 = .ok (.iconst 1, 1) := by decide +kernel
theorem dX6_add_26 : decode cX6_add 26 = .ok (.iadd, 1) := by decide +kernel
theorem dX6_add_27 : decode cX6_add 27 = .ok (.putfield 19, 3) := by decide +kernel
theorem dX6_add_30 : decode cX6_add 30 = .ok (.return_, 1) := by decide +kernel
theorem dX6_turn_0 : decode cX6_turn 0 = .ok (.iconst 0, 1) := by decide +kernel
theorem dX6_turn_1 : decode cX6_turn 1 = .ok (.istore_n 1, 1) := by decide +kernel
theorem dX6_turn_2 : decode cX6_turn 2 = .ok (.iload_n 1, 1) := by decide +kernel
theorem dX6_turn_3 : decode cX6_turn 3 = .ok (.aload_n 0, 1) := by decide +kernel
theorem dX6_turn_4 : decode cX6_turn 4 = .ok (.getfield 19, 3) := by decide +kernel
theorem dX6_turn_7 : decode cX6_turn 7 = .ok (.iconst 2, 1) := by decide +kernel
theorem dX6_turn_8 : decode cX6_turn 8 = .ok (.idiv, 1) := by decide +kernel
theorem dX6_turn_9 : decode cX6_turn 9 = .ok (.if_icmp .ge 49, 3) := by decide +kernel
theorem dX6_turn_12 : decode cX6_turn 12 = .ok (.aload_n 0, 1) := by decide +kernel
theorem dX6_turn_13 : decode cX6_turn 13 = .ok (.getfield 11, 3) := by decide +kernel
theorem dX6_turn_16 : decode cX6_turn 16 = .ok (.aload_n 0, 1) := by decide +kernel
theorem dX6_turn_17 : decode cX6_turn 17 = .ok (.getfield 19, 3) := by decide +kernel
theorem dX6_turn_20 : decode cX6_turn 20 = .ok (.iconst 1, 1) := by decide +kernel
theorem dX6_turn_21 : decode cX6_turn 21 = .ok (.isub, 1) := by decide +kernel
theorem dX6_turn_22 : decode cX6_turn 22 = .ok (.iload_n 1, 1) := by decide +kernel
theorem dX6_turn_23 : decode cX6_turn 23 = .ok (.isub, 1) := by decide +kernel
theorem dX6_turn_24 : decode cX6_turn 24 = .ok (.iaload, 1) := by decide +kernel
theorem dX6_turn_25 : decode cX6_turn 25 = .ok (.istore_n 2, 1) := by decide +kernel
theorem dX6_turn_26 : decode cX6_turn 26 = .ok (.aload_n 0, 1) := by decide +kernel
theorem dX6_turn_27 : decode cX6_turn 27 = .ok (.getfield 11, 3) := by decide +kernel
theorem dX6_turn_30 : decode cX6_turn 30 = .ok (.aload_n 0, 1) := by decide +kernel
theorem dX6_turn_31 : decode cX6_turn 31 = .ok (.getfield 19, 3) := by decide +kernel
theorem dX6_turn_34 : decode cX6_turn 34 = .ok (.iconst 1, 1) := by decide +kernel
theorem dX6_turn_35 : decode cX6_turn 35 = .ok (.isub, 1) := by decide +kernel
theorem dX6_turn_36 : decode cX6_turn 36 = .ok (.iload_n 1, 1) := by decide +kernel
theorem dX6_turn_37 : decode cX6_turn 37 = .ok (.isub, 1) := by decide +kernel
theorem dX6_turn_38 : decode cX6_turn 38 = .ok (.aload_n 0, 1) := by decide +kernel
theorem dX6_turn_39 : decode cX6_turn 39 = .ok (.getfield 11, 3) := by decide +kernel
theorem dX6_turn_42 : decode cX6_turn 42 = .ok (.iload_n 1, 1) := by decide +kernel
theorem dX6_turn_43 : decode cX6_turn 43 = .ok (.iaload, 1) := by decide +kernel
theorem dX6_turn_44 : decode cX6_turn 44 = .ok (.iastore, 1) := by decide +kernel
theorem dX6_turn_45 : decode cX6_turn 45 = .ok (.aload_n 0, 1) := by decide +kernel
theorem dX6_turn_46 : decode cX6_turn 46 = .ok (.getfield 11, 3) := by decide +kernel
theorem dX6_turn_49 : decode cX6_turn 49 = .ok (.iload_n 1, 1) := by decide +kernel
theorem dX6_turn_50 : decode cX6_turn 50 = .ok (.iload_n 2, 1) := by decide +kernel
theorem dX6_turn_51 : decode cX6_turn 51 = .ok (.iastore, 1) := by decide +kernel
theorem dX6_turn_52 : decode cX6_turn 52 = .ok (.iinc 1 1, 3) := by decide +kernel
theorem dX6_turn_55 : decode cX6_turn 55 = .ok (.goto (-53), 3) := by decide +kernel
theorem dX6_turn_58 : decode cX6_turn 58 = .ok (.return_, 1) := by decide +kernel
theorem dX7_init_0 : decode cX7_init 0 = .ok (.aload_n 0, 1) := by decide +kernel
theorem dX7_init_1 : decode cX7_init 1 = .ok (.invokespecial 3, 3) := by decide +kernel
theorem dX7_init_4 : decode cX7_init 4 = .ok (.aload_n 0, 1) := by decide +kernel
theorem dX7_init_5 : decode cX7_init 5 = .ok (.bipush 40, 2) := by decide +kernel
theorem dX7_init_7 : decode cX7_init 7 = .ok (.newarray .long, 2) := by decide +kernel
theorem dX7_init_9 : decode cX7_init 9 = .ok (.putfield 9, 3) := by decide +kernel
theorem dX7_init_12 : decode cX7_init 12 = .ok (.return_, 1) := by decide +kernel
theorem dX7_isMissing_0 : decode cX7_isMissing 0 = .ok (.aload_n 0, 1) := by decide +kernel
theorem dX7_isMissing_1 : decode cX7_isMissing 1 = .ok (.getfield 15, 3) := by decide +kernel
theorem dX7_isMissing_4 : decode cX7_isMissing 4 = .ok (.ifCond .ne 7, 3) := by decide +kernel
theorem dX7_isMissing_7 : decode cX7_isMissing 7 = .ok (.iconst 1, 1) := by decide +kernel
theorem dX7_isMissing_8 : decode cX7_isMissing 8 = .ok (.goto 4, 3) := by decide +kernel
theorem dX7_isMissing_11 : decode cX7_isMissing 11 = .ok (.iconst 0, 1) := by decide +kernel
theorem dX7_isMissing_12 : decode cX7_isMissing 12 = .ok (.ireturn, 1) := by decide +kernel
theorem dX7_clear_0 : decode cX7_clear 0 = .ok (.aload_n 0, 1) := by decide +kernel
theorem dX7_clear_1 : decode cX7_clear 1 = .ok (.iload_n 1, 1) := by decide +kernel
theorem dX7_clear_2 : decode cX7_clear 2 = .ok (.putfield 15, 3) := by decide +kernel
theorem dX7_clear_5 : decode cX7_clear 5 = .ok (.aload_n 0, 1) := by decide +kernel
theorem dX7_clear_6 : decode cX7_clear 6 = .ok (.iload_n 1, 1) := by decide +kernel
theorem dX7_clear_7 : decode cX7_clear 7 = .ok (.ifCond .ne 7, 3) := by decide +kernel
theorem dX7_clear_10 : decode cX7_clear 10 = .ok (.iconst 0, 1) := by decide +kernel
theorem dX7_clear_11 : decode cX7_clear 11 = .ok (.goto 4, 3) := by decide +kernel
theorem dX7_clear_14 : decode cX7_clear 14 = .ok (.iload_n 2, 1) := by decide +kernel
theorem dX7_clear_15 : decode cX7_clear 15 = .ok (.putfield 19, 3) := by decide +kernel
theorem dX7_clear_18 : decode cX7_clear 18 = .ok (.aload_n 0, 1) := by decide +kernel
theorem dX7_clear_19 : decode cX7_clear 19 = .ok (.getfield 9, 3) := by decide +kernel
theorem dX7_clear_22 : decode cX7_clear 22 = .ok (.lconst 0, 1) := by decide +kernel
theorem dX7_clear_23 : decode cX7_clear 23 = .ok (.invokestatic 22, 3) := by decide +kernel
theorem dX7_clear_26 : decode cX7_clear 26 = .ok (.aload_n 0, 1) := by decide +kernel
theorem dX7_clear_27 : decode cX7_clear 27 = .ok (.getfield 19, 3) := by decide +kernel
theorem dX7_clear_30 : decode cX7_clear 30 = .ok (.ireturn, 1) := by decide +kernel
theorem dX7_change_0 : decode cX7_change 0 = .ok (.aload_n 0, 1) := by decide +kernel
theorem dX7_change_1 : decode cX7_change 1 = .ok (.getfield 9, 3) := by decide +kernel
theorem dX7_change_4 : decode cX7_change 4 = .ok (.iload_n 1, 1) := by decide +kernel
theorem dX7_change_5 : decode cX7_change 5 = .ok (.laload, 1) := by decide +kernel
theorem dX7_change_6 : decode cX7_change 6 = .ok (.lstore 4, 2) := by decide +kernel
theorem dX7_change_8 : decode cX7_change 8 = .ok (.aload_n 0, 1) := by decide +kernel
theorem dX7_change_9 : decode cX7_change 9 = .ok (.getfield 9, 3) := by decide +kernel
theorem dX7_change_12 : decode cX7_change 12 = .ok (.iload_n 1, 1) := by decide +kernel
theorem dX7_change_13 : decode cX7_change 13 = .ok (.aload_n 0, 1) := by decide +kernel
theorem dX7_change_14 : decode cX7_change 14 = .ok (.getfield 15, 3) := by decide +kernel
theorem dX7_change_17 : decode cX7_change 17 = .ok (.bipush 8, 2) := by decide +kernel
theorem dX7_change_19 : decode cX7_change 19 = .ok (.if_icmp .ne 10, 3) := by decide +kernel
theorem dX7_change_22 : decode cX7_change 22 = .ok (.lload_n 2, 1) := by decide +kernel
theorem dX7_change_23 : decode cX7_change 23 = .ok (.l2i, 1) := by decide +kernel
theorem dX7_change_24 : decode cX7_change 24 = .ok (.i2b, 1) := by decide +kernel
theorem dX7_change_25 : decode cX7_change 25 = .ok (.i2l, 1) := by decide +kernel
theorem dX7_change_26 : decode cX7_change 26 = .ok (.goto 20, 3) := by decide +kernel
theorem dX7_change_29 : decode cX7_change 29 = .ok (.aload_n 0, 1) := by decide +kernel
theorem dX7_change_30 : decode cX7_change 30 = .ok (.getfield 15, 3) := by decide +kernel
theorem dX7_change_33 : decode cX7_change 33 = .ok (.bipush 16, 2) := by decide +kernel
theorem dX7_change_35 : decode cX7_change 35 = .ok (.if_icmp .ne 10, 3) := by decide +kernel
theorem dX7_change_38 : decode cX7_change 38 = .ok (.lload_n 2, 1) := by decide +kernel
theorem dX7_change_39 : decode cX7_change 39 = .ok (.l2i, 1) := by decide +kernel
theorem dX7_change_40 : decode cX7_change 40 = .ok (.i2s, 1) := by decide +kernel
theorem dX7_change_41 : decode cX7_change 41 = .ok (.i2l, 1) := by decide +kernel
theorem dX7_change_42 : decode cX7_change 42 = .ok (.goto 4, 3) := by decide +kernel
theorem dX7_change_45 : decode cX7_change 45 = .ok (.lload_n 2, 1) := by decide +kernel
theorem dX7_change_46 : decode cX7_change 46 = .ok (.lastore, 1) := by decide +kernel
theorem dX7_change_47 : decode cX7_change 47 = .ok (.lload 4, 2) := by decide +kernel
theorem dX7_change_49 : decode cX7_change 49 = .ok (.lreturn, 1) := by decide +kernel
theorem dX7_hasFrom_0 : decode cX7_hasFrom 0 = .ok (.iload_n 1, 1) := by decide +kernel
theorem dX7_hasFrom_1 : decode cX7_hasFrom 1 = .ok (.ifCond .lt 21, 3) := by decide +kernel
theorem dX7_hasFrom_4 : decode cX7_hasFrom 4 = .ok (.iload_n 2, 1) := by decide +kernel
theorem dX7_hasFrom_5 : decode cX7_hasFrom 5 = .ok (.ifCond .lt 17, 3) := by decide +kernel
theorem dX7_hasFrom_8 : decode cX7_hasFrom 8 = .ok (.iload_n 1, 1) := by decide +kernel
theorem dX7_hasFrom_9 : decode cX7_hasFrom 9 = .ok (.aload_n 0, 1) := by decide +kernel
theorem dX7_hasFrom_10 : decode cX7_hasFrom 10 = .ok (.getfield 19, 3) := by decide +kernel
theorem dX7_hasFrom_13 : decode cX7_hasFrom 13 = .ok (.iload_n 2, 1) := by decide +kernel
theorem dX7_hasFrom_14 : decode cX7_hasFrom 14 = .ok (.isub, 1) := by decide +kernel
theorem dX7_hasFrom_15 : decode cX7_hasFrom 15 = .ok (.if_icmp .gt 7, 3) := by decide +kernel
theorem dX7_hasFrom_18 : decode cX7_hasFrom 18 = .ok (.iconst 1, 1) := by decide +kernel
theorem dX7_hasFrom_19 : decode cX7_hasFrom 19 = .ok (.goto 4, 3) := by decide +kernel
theorem dX7_hasFrom_22 : decode cX7_hasFrom 22 = .ok (.iconst 0, 1) := by decide +kernel
theorem dX7_hasFrom_23 : decode cX7_hasFrom 23 = .ok (.ireturn, 1) := by decide +kernel
theorem dX7_rightOnes_0 : decode cX7_rightOnes 0 = .ok (.iconst 0, 1) := by decide +kernel
theorem dX7_rightOnes_1 : decode cX7_rightOnes 1 = .ok (.istore_n 2, 1) := by decide +kernel
theorem dX7_rightOnes_2 : decode cX7_rightOnes 2 = .ok (.iload_n 2, 1) := by decide +kernel
theorem dX7_rightOnes_3 : decode cX7_rightOnes 3 = .ok (.aload_n 0, 1) := by decide +kernel
theorem dX7_rightOnes_4 : decode cX7_rightOnes 4 = .ok (.getfield 19, 3) := by decide +kernel
theorem dX7_rightOnes_7 : decode cX7_rightOnes 7 = .ok (.if_icmp .ge 34, 3) := by decide +kernel
theorem dX7_rightOnes_10 : decode cX7_rightOnes 10 = .ok (.iload_n 2, 1) := by decide +kernel
theorem dX7_rightOnes_11 : decode cX7_rightOnes 11 = .ok (.aload_n 1, 1) := by decide +kernel
theorem dX7_rightOnes_12 : decode cX7_rightOnes 12 = .ok (.getfield 28, 3) := by decide +kernel
theorem dX7_rightOnes_15 : decode cX7_rightOnes 15 = .ok (.if_icmp .ge 26, 3) := by decide +kernel
theorem dX7_rightOnes_18 : decode cX7_rightOnes 18 = .ok (.aload_n 0, 1) := by decide +kernel
theorem dX7_rightOnes_19 : decode cX7_rightOnes 19 = .ok (.getfield 9, 3) := by decide +kernel
theorem dX7_rightOnes_22 : decode cX7_rightOnes 22 = .ok (.iload_n 2, 1) := by decide +kernel
theorem dX7_rightOnes_23 : decode cX7_rightOnes 23 = .ok (.laload, 1) := by decide +kernel
theorem dX7_rightOnes_24 : decode cX7_rightOnes 24 = .ok (.aload_n 1, 1) := by decide +kernel
theorem dX7_rightOnes_25 : decode cX7_rightOnes 25 = .ok (.getfield 31, 3) := by decide +kernel
theorem dX7_rightOnes_28 : decode cX7_rightOnes 28 = .ok (.iload_n 2, 1) := by decide +kernel
theorem dX7_rightOnes_29 : decode cX7_rightOnes 29 = .ok (.iaload, 1) := by decide +kernel
theorem dX7_rightOnes_30 : decode cX7_rightOnes 30 = .ok (.i2l, 1) := by decide +kernel
theorem dX7_rightOnes_31 : decode cX7_rightOnes 31 = .ok (.lcmp, 1) := by decide +kernel
theorem dX7_rightOnes_32 : decode cX7_rightOnes 32 = .ok (.ifCond .ne 9, 3) := by decide +kernel
theorem dX7_rightOnes_35 : decode cX7_rightOnes 35 = .ok (.iinc 2 1, 3) := by decide +kernel
theorem dX7_rightOnes_38 : decode cX7_rightOnes 38 = .ok (.goto (-36), 3) := by decide +kernel
theorem dX7_rightOnes_41 : decode cX7_rightOnes 41 = .ok (.iload_n 2, 1) := by decide +kernel
theorem dX7_rightOnes_42 : decode cX7_rightOnes 42 = .ok (.ireturn, 1) := by decide +kernel
theorem dX8_init_0 : decode cX8_init 0 = .ok (.aload_n 0, 1) := by decide +kernel
theorem dX8_init_1 : decode cX8_init 1 = .ok (.invokespecial 3, 3) := by decide +kernel
theorem dX8_init_4 : decode cX8_init 4 = .ok (.aload_n 0, 1) := by decide +kernel
theorem dX8_init_5 : decode cX8_init 5 = .ok (.bipush 120, 2) := by decide +kernel
theorem dX8_init_7 : decode cX8_init 7 = .ok (.newarray .int, 2) := by decide +kernel
theorem dX8_init_9 : decode cX8_init 9 = .ok (.putfield 9, 3) := by decide +kernel
theorem dX8_init_12 : decode cX8_init 12 = .ok (.return_, 1) := by decide +kernel
theorem dX8_add_0 : decode cX8_add 0 = .ok (.iload_n 2, 1) := by decide +kernel
theorem dX8_add_1 : decode cX8_add 1 = .ok (.iconst 1, 1) := by decide +kernel
theorem dX8_add_2 : decode cX8_add 2 = .ok (.isub, 1) := by decide +kernel
theorem dX8_add_3 : decode cX8_add 3 = .ok (.istore_n 3, 1) := by decide +kernel
theorem dX8_add_4 : decode cX8_add 4 = .ok (.iload_n 3, 1) := by decide +kernel
theorem dX8_add_5 : decode cX8_add 5 = .ok (.ifCond .lt 38, 3) := by decide +kernel
theorem dX8_add_8 : decode cX8_add 8 = .ok (.aload_n 0, 1) := by decide +kernel
theorem dX8_add_9 : decode cX8_add 9 = .ok (.getfield 9, 3) := by decide +kernel
theorem dX8_add_12 : decode cX8_add 12 = .ok (.aload_n 0, 1) := by decide +kernel
theorem dX8_add_13 : decode cX8_add 13 = .ok (.getfield 15, 3) := by decide +kernel
theorem dX8_add_16 : decode cX8_add 16 = .ok (.iload_n 1, 1) := by decide +kernel
theorem dX8_add_17 : decode cX8_add 17 = .ok (.bipush 8, 2) := by decide +kernel
theorem dX8_add_19 : decode cX8_add 19 = .ok (.iload_n 3, 1) := by decide +kernel
theorem dX8_add_20 : decode cX8_add 20 = .ok (.imul, 1) := by decide +kernel
theorem dX8_add_21 : decode cX8_add 21 = .ok (.iushr, 1) := by decide +kernel
theorem dX8_add_22 : decode cX8_add 22 = .ok (.sipush 255, 3) := by decide +kernel
theorem dX8_add_25 : decode cX8_add 25 = .ok (.iand, 1) := by decide +kernel
theorem dX8_add_26 : decode cX8_add 26 = .ok (.iastore, 1) := by decide +kernel
theorem dX8_add_27 : decode cX8_add 27 = .ok (.aload_n 0, 1) := by decide +kernel
theorem dX8_add_28 : decode cX8_add 28 = .ok (.dup, 1) := by decide +kernel
theorem dX8_add_29 : decode cX8_add 29 = .ok (.getfield 15, 3) := by decide +kernel
theorem dX8_add_32 : decode cX8_add 32 = .ok (.iconst 1, 1) := by decide +kernel
theorem dX8_add_33 : decode cX8_add 33 = .ok (.iadd, 1) := by decide +kernel
theorem dX8_add_34 : decode cX8_add 34 = .ok (.putfield 15, 3) := by decide +kernel
theorem dX8_add_37 : decode cX8_add 37 = .ok (.iinc 3 (-1), 3) := by decide +kernel
theorem dX8_add_40 : decode cX8_add 40 = .ok (.goto (-36), 3) := by decide +kernel
theorem dX8_add_43 : decode cX8_add 43 = .ok (.aload_n 0, 1) := by decide +kernel
theorem dX8_add_44 : decode cX8_add 44 = .ok (.getfield 15, 3) := by decide +kernel
theorem dX8_add_47 : decode cX8_add 47 = .ok (.ireturn, 1) := by decide +kernel
theorem dX8_clear_0 : decode cX8_clear 0 = .ok (.aload_n 0, 1) := by decide +kernel
theorem dX8_clear_1 : decode cX8_clear 1 = .ok (.getfield 15, 3) := by decide +kernel
theorem dX8_clear_4 : decode cX8_clear 4 = .ok (.istore_n 1, 1) := by decide +kernel
theorem dX8_clear_5 : decode cX8_clear 5 = .ok (.aload_n 0, 1) := by decide +kernel
theorem dX8_clear_6 : decode cX8_clear 6 = .ok (.iconst 0, 1) := by decide +kernel
theorem dX8_clear_7 : decode cX8_clear 7 = .ok (.putfield 15, 3) := by decide +kernel
theorem dX8_clear_10 : decode cX8_clear 10 = .ok (.iload_n 1, 1) := by decide +kernel
theorem dX8_clear_11 : decode cX8_clear 11 = .ok (.ireturn, 1) := by decide +kernel
theorem dX9_init_0 : decode cX9_init 0 = .ok (.aload_n 0, 1) := by decide +kernel
theorem dX9_init_1 : decode cX9_init 1 = .ok (.invokespecial 3, 3) := by decide +kernel
theorem dX9_init_4 : decode cX9_init 4 = .ok (.aload_n 0, 1) := by decide +kernel
theorem dX9_init_5 : decode cX9_init 5 = .ok (.new 9, 3) := by decide +kernel
theorem dX9_init_8 : decode cX9_init 8 = .ok (.dup, 1) := by decide +kernel
theorem dX9_init_9 : decode cX9_init 9 = .ok (.invokespecial 11, 3) := by decide +kernel
theorem dX9_init_12 : decode cX9_init 12 = .ok (.putfield 12, 3) := by decide +kernel
theorem dX9_init_15 : decode cX9_init 15 = .ok (.aload_n 0, 1) := by decide +kernel
theorem dX9_init_16 : decode cX9_init 16 = .ok (.bipush 120, 2) := by decide +kernel
theorem dX9_init_18 : decode cX9_init 18 = .ok (.newarray .int, 2) := by decide +kernel
theorem dX9_init_20 : decode cX9_init 20 = .ok (.putfield 18, 3) := by decide +kernel
theorem dX9_init_23 : decode cX9_init 23 = .ok (.aload_n 0, 1) := by decide +kernel
theorem dX9_init_24 : decode cX9_init 24 = .ok (.bipush 121, 2) := by decide +kernel
theorem dX9_init_26 : decode cX9_init 26 = .ok (.newarray .int, 2) := by decide +kernel
theorem dX9_init_28 : decode cX9_init 28 = .ok (.putfield 22, 3) := by decide +kernel
theorem dX9_init_31 : decode cX9_init 31 = .ok (.aload_n 0, 1) := by decide +kernel
theorem dX9_init_32 : decode cX9_init 32 = .ok (.bipush 121, 2) := by decide +kernel
theorem dX9_init_34 : decode cX9_init 34 = .ok (.newarray .int, 2) := by decide +kernel
theorem dX9_init_36 : decode cX9_init 36 = .ok (.putfield 25, 3) := by decide +kernel
theorem dX9_init_39 : decode cX9_init 39 = .ok (.aload_n 0, 1) := by decide +kernel
theorem dX9_init_40 : decode cX9_init 40 = .ok (.bipush 121, 2) := by decide +kernel
theorem dX9_init_42 : decode cX9_init 42 = .ok (.newarray .int, 2) := by decide +kernel
theorem dX9_init_44 : decode cX9_init 44 = .ok (.putfield 28, 3) := by decide +kernel
theorem dX9_init_47 : decode cX9_init 47 = .ok (.return_, 1) := by decide +kernel
theorem dX9_readTape_0 : decode cX9_readTape 0 = .ok (.aload_n 0, 1) := by decide +kernel
theorem dX9_readTape_1 : decode cX9_readTape 1 = .ok (.invokevirtual 31, 3) := by decide +kernel
theorem dX9_readTape_4 : decode cX9_readTape 4 = .ok (.aload_n 0, 1) := by decide +kernel
theorem dX9_readTape_5 : decode cX9_readTape 5 = .ok (.iconst 0, 1) := by decide +kernel
theorem dX9_readTape_6 : decode cX9_readTape 6 = .ok (.putfield 34, 3) := by decide +kernel
theorem dX9_readTape_9 : decode cX9_readTape 9 = .ok (.aload_n 0, 1) := by decide +kernel
theorem dX9_readTape_10 : decode cX9_readTape 10 = .ok (.iconst 0, 1) := by decide +kernel
theorem dX9_readTape_11 : decode cX9_readTape 11 = .ok (.putfield 38, 3) := by decide +kernel
theorem dX9_readTape_14 : decode cX9_readTape 14 = .ok (.aload_n 0, 1) := by decide +kernel
theorem dX9_readTape_15 : decode cX9_readTape 15 = .ok (.bipush 7, 2) := by decide +kernel
theorem dX9_readTape_17 : decode cX9_readTape 17 = .ok (.invokevirtual 41, 3) := by decide +kernel
theorem dX9_readTape_20 : decode cX9_readTape 20 = .ok (.ifCond .eq 15, 3) := by decide +kernel
theorem dX9_readTape_23 : decode cX9_readTape 23 = .ok (.aload_n 0, 1) := by decide +kernel
theorem dX9_readTape_24 : decode cX9_readTape 24 = .ok (.iconst 0, 1) := by decide +kernel
theorem dX9_readTape_25 : decode cX9_readTape 25 = .ok (.invokevirtual 45, 3) := by decide +kernel
theorem dX9_readTape_28 : decode cX9_readTape 28 = .ok (.ifCond .eq 7, 3) := by decide +kernel
theorem dX9_readTape_31 : decode cX9_readTape 31 = .ok (.iconst 1, 1) := by decide +kernel
theorem dX9_readTape_32 : decode cX9_readTape 32 = .ok (.goto 4, 3) := by decide +kernel
theorem dX9_readTape_35 : decode cX9_readTape 35 = .ok (.iconst 0, 1) := by decide +kernel
theorem dX9_readTape_36 : decode cX9_readTape 36 = .ok (.istore_n 1, 1) := by decide +kernel
theorem dX9_readTape_37 : decode cX9_readTape 37 = .ok (.iload_n 1, 1) := by decide +kernel
theorem dX9_readTape_38 : decode cX9_readTape 38 = .ok (.ifCond .eq 34, 3) := by decide +kernel
theorem dX9_readTape_41 : decode cX9_readTape 41 = .ok (.aload_n 0, 1) := by decide +kernel
theorem dX9_readTape_42 : decode cX9_readTape 42 = .ok (.bipush 8, 2) := by decide +kernel
theorem dX9_readTape_44 : decode cX9_readTape 44 = .ok (.invokevirtual 41, 3) := by decide +kernel
theorem dX9_readTape_47 : decode cX9_readTape 47 = .ok (.ifCond .eq 25, 3) := by decide +kernel
theorem dX9_readTape_50 : decode cX9_readTape 50 = .ok (.aload_n 0, 1) := by decide +kernel
theorem dX9_readTape_51 : decode cX9_readTape 51 = .ok (.iconst 0, 1) := by decide +kernel
theorem dX9_readTape_52 : decode cX9_readTape 52 = .ok (.invokevirtual 45, 3) := by decide +kernel
theorem dX9_readTape_55 : decode cX9_readTape 55 = .ok (.istore_n 1, 1) := by decide +kernel
theorem dX9_readTape_56 : decode cX9_readTape 56 = .ok (.aload_n 0, 1) := by decide +kernel
theorem dX9_readTape_57 : decode cX9_readTape 57 = .ok (.iconst 4, 1) := by decide +kernel
theorem dX9_readTape_58 : decode cX9_readTape 58 = .ok (.iconst 0, 1) := by decide +kernel
theorem dX9_readTape_59 : decode cX9_readTape 59 = .ok (.iconst 0, 1) := by decide +kernel
theorem dX9_readTape_60 : decode cX9_readTape 60 = .ok (.invokevirtual 50, 3) := by decide +kernel
theorem dX9_readTape_63 : decode cX9_readTape 63 = .ok (.pop, 1) := by decide +kernel
theorem dX9_readTape_64 : decode cX9_readTape 64 = .ok (.aload_n 0, 1) := by decide +kernel
theorem dX9_readTape_65 : decode cX9_readTape 65 = .ok (.iconst 5, 1) := by decide +kernel
theorem dX9_readTape_66 : decode cX9_readTape 66 = .ok (.iconst 0, 1) := by decide +kernel
theorem dX9_readTape_67 : decode cX9_readTape 67 = .ok (.iconst 0, 1) := by decide +kernel
theorem dX9_readTape_68 : decode cX9_readTape 68 = .ok (.invokevirtual 50, 3) := by decide +kernel
theorem dX9_readTape_71 : decode cX9_readTape 71 = .ok (.pop, 1) := by decide +kernel
theorem dX9_readTape_72 : decode cX9_readTape 72 = .ok (.iload_n 1, 1) := by decide +kernel
theorem dX9_readTape_73 : decode cX9_readTape 73 = .ok (.ifCond .eq 19, 3) := by decide +kernel
theorem dX9_readTape_76 : decode cX9_readTape 76 = .ok (.aload_n 0, 1) := by decide +kernel
theorem dX9_readTape_77 : decode cX9_readTape 77 = .ok (.getfield 22, 3) := by decide +kernel
theorem dX9_readTape_80 : decode cX9_readTape 80 = .ok (.aload_n 0, 1) := by decide +kernel
theorem dX9_readTape_81 : decode cX9_readTape 81 = .ok (.getfield 38, 3) := by decide +kernel
theorem dX9_readTape_84 : decode cX9_readTape 84 = .ok (.iaload, 1) := by decide +kernel
theorem dX9_readTape_85 : decode cX9_readTape 85 = .ok (.ifCond .ne 7, 3) := by decide +kernel
theorem dX9_readTape_88 : decode cX9_readTape 88 = .ok (.iconst (-1), 1) := by decide +kernel
theorem dX9_readTape_89 : decode cX9_readTape 89 = .ok (.goto 12, 3) := by decide +kernel
theorem dX9_readTape_92 : decode cX9_readTape 92 = .ok (.aload_n 0, 1) := by decide +kernel
theorem dX9_readTape_93 : decode cX9_readTape 93 = .ok (.getfield 25, 3) := by decide +kernel
theorem dX9_readTape_96 : decode cX9_readTape 96 = .ok (.aload_n 0, 1) := by decide +kernel
theorem dX9_readTape_97 : decode cX9_readTape 97 = .ok (.getfield 38, 3) := by decide +kernel
theorem dX9_readTape_100 : decode cX9_readTape 100 = .ok (.iaload, 1) := by decide +kernel
theorem dX9_readTape_101 : decode cX9_readTape 101 = .ok (.ireturn, 1) := by decide +kernel
theorem dX9_readEither_0 : decode cX9_readEither 0 = .ok (.aload_n 0, 1) := by decide +kernel
theorem dX9_readEither_1 : decode cX9_readEither 1 = .ok (.iload_n 1, 1) := by decide +kernel
theorem dX9_readEither_2 : decode cX9_readEither 2 = .ok (.invokevirtual 54, 3) := by decide +kernel
theorem dX9_readEither_5 : decode cX9_readEither 5 = .ok (.istore_n 2, 1) := by decide +kernel
theorem dX9_readEither_6 : decode cX9_readEither 6 = .ok (.iconst 0, 1) := by decide +kernel
theorem dX9_readEither_7 : decode cX9_readEither 7 = .ok (.istore_n 3, 1) := by decide +kernel
theorem dX9_readEither_8 : decode cX9_readEither 8 = .ok (.iload_n 2, 1) := by decide +kernel
theorem dX9_readEither_9 : decode cX9_readEither 9 = .ok (.ifCond .eq 39, 3) := by decide +kernel
theorem dX9_readEither_12 : decode cX9_readEither 12 = .ok (.iload_n 3, 1) := by decide +kernel
theorem dX9_readEither_13 : decode cX9_readEither 13 = .ok (.bipush 120, 2) := by decide +kernel
theorem dX9_readEither_15 : decode cX9_readEither 15 = .ok (.if_icmp .ge 33, 3) := by decide +kernel
theorem dX9_readEither_18 : decode cX9_readEither 18 = .ok (.aload_n 0, 1) := by decide +kernel
theorem dX9_readEither_19 : decode cX9_readEither 19 = .ok (.bipush 9, 2) := by decide +kernel
theorem dX9_readEither_21 : decode cX9_readEither 21 = .ok (.invokevirtual 41, 3) := by decide +kernel
theorem dX9_readEither_24 : decode cX9_readEither 24 = .ok (.ifCond .eq 24, 3) := by decide +kernel
theorem dX9_readEither_27 : decode cX9_readEither 27 = .ok (.aload_n 0, 1) := by decide +kernel
theorem dX9_readEither_28 : decode cX9_readEither 28 = .ok (.iload_n 1, 1) := by decide +kernel
theorem dX9_readEither_29 : decode cX9_readEither 29 = .ok (.invokevirtual 54, 3) := by decide +kernel
theorem dX9_readEither_32 : decode cX9_readEither 32 = .ok (.istore_n 2, 1) := by decide +kernel
theorem dX9_readEither_33 : decode cX9_readEither 33 = .ok (.aload_n 0, 1) := by decide +kernel
theorem dX9_readEither_34 : decode cX9_readEither 34 = .ok (.bipush 6, 2) := by decide +kernel
theorem dX9_readEither_36 : decode cX9_readEither 36 = .ok (.iconst 0, 1) := by decide +kernel
theorem dX9_readEither_37 : decode cX9_readEither 37 = .ok (.iconst 0, 1) := by decide +kernel
theorem dX9_readEither_38 : decode cX9_readEither 38 = .ok (.invokevirtual 50, 3) := by decide +kernel
theorem dX9_readEither_41 : decode cX9_readEither 41 = .ok (.pop, 1) := by decide +kernel
theorem dX9_readEither_42 : decode cX9_readEither 42 = .ok (.iinc 3 1, 3) := by decide +kernel
theorem dX9_readEither_45 : decode cX9_readEither 45 = .ok (.goto (-37), 3) := by decide +kernel
theorem dX9_readEither_48 : decode cX9_readEither 48 = .ok (.iload_n 2, 1) := by decide +kernel
theorem dX9_readEither_49 : decode cX9_readEither 49 = .ok (.ireturn, 1) := by decide +kernel
theorem dX9_readBoth_0 : decode cX9_readBoth 0 = .ok (.aload_n 0, 1) := by decide +kernel
theorem dX9_readBoth_1 : decode cX9_readBoth 1 = .ok (.iload_n 1, 1) := by decide +kernel
theorem dX9_readBoth_2 : decode cX9_readBoth 2 = .ok (.invokevirtual 57, 3) := by decide +kernel
theorem dX9_readBoth_5 : decode cX9_readBoth 5 = .ok (.istore_n 2, 1) := by decide +kernel
theorem dX9_readBoth_6 : decode cX9_readBoth 6 = .ok (.iconst 0, 1) := by decide +kernel
theorem dX9_readBoth_7 : decode cX9_readBoth 7 = .ok (.istore_n 3, 1) := by decide +kernel
theorem dX9_readBoth_8 : decode cX9_readBoth 8 = .ok (.iload_n 2, 1) := by decide +kernel
theorem dX9_readBoth_9 : decode cX9_readBoth 9 = .ok (.ifCond .eq 38, 3) := by decide +kernel
theorem dX9_readBoth_12 : decode cX9_readBoth 12 = .ok (.iload_n 3, 1) := by decide +kernel
theorem dX9_readBoth_13 : decode cX9_readBoth 13 = .ok (.bipush 120, 2) := by decide +kernel
theorem dX9_readBoth_15 : decode cX9_readBoth 15 = .ok (.if_icmp .ge 32, 3) := by decide +kernel
theorem dX9_readBoth_18 : decode cX9_readBoth 18 = .ok (.aload_n 0, 1) := by decide +kernel
theorem dX9_readBoth_19 : decode cX9_readBoth 19 = .ok (.bipush 10, 2) := by decide +kernel
theorem dX9_readBoth_21 : decode cX9_readBoth 21 = .ok (.invokevirtual 41, 3) := by decide +kernel
theorem dX9_readBoth_24 : decode cX9_readBoth 24 = .ok (.ifCond .eq 23, 3) := by decide +kernel
theorem dX9_readBoth_27 : decode cX9_readBoth 27 = .ok (.aload_n 0, 1) := by decide +kernel
theorem dX9_readBoth_28 : decode cX9_readBoth 28 = .ok (.iload_n 1, 1) := by decide +kernel
theorem dX9_readBoth_29 : decode cX9_readBoth 29 = .ok (.invokevirtual 57, 3) := by decide +kernel
theorem dX9_readBoth_32 : decode cX9_readBoth 32 = .ok (.istore_n 2, 1) := by decide +kernel
theorem dX9_readBoth_33 : decode cX9_readBoth 33 = .ok (.aload_n 0, 1) := by decide +kernel
theorem dX9_readBoth_34 : decode cX9_readBoth 34 = .ok (.iconst 5, 1) := by decide +kernel
theorem dX9_readBoth_35 : decode cX9_readBoth 35 = .ok (.iconst 0, 1) := by decide +kernel
theorem dX9_readBoth_36 : decode cX9_readBoth 36 = .ok (.iconst 0, 1) := by decide +kernel
theorem dX9_readBoth_37 : decode cX9_readBoth 37 = .ok (.invokevirtual 50, 3) := by decide +kernel
theorem dX9_readBoth_40 : decode cX9_readBoth 40 = .ok (.pop, 1) := by decide +kernel
theorem dX9_readBoth_41 : decode cX9_readBoth 41 = .ok (.iinc 3 1, 3) := by decide +kernel
theorem dX9_readBoth_44 : decode cX9_readBoth 44 = .ok (.goto (-36), 3) := by decide +kernel
theorem dX9_readBoth_47 : decode cX9_readBoth 47 = .ok (.iload_n 2, 1) := by decide +kernel
theorem dX9_readBoth_48 : decode cX9_readBoth 48 = .ok (.ireturn, 1) := by decide +kernel
theorem dX9_readNot_0 : decode cX9_readNot 0 = .ok (.aload_n 0, 1) := by decide +kernel
theorem dX9_readNot_1 : decode cX9_readNot 1 = .ok (.getfield 22, 3) := by decide +kernel
theorem dX9_readNot_4 : decode cX9_readNot 4 = .ok (.aload_n 0, 1) := by decide +kernel
theorem dX9_readNot_5 : decode cX9_readNot 5 = .ok (.getfield 38, 3) := by decide +kernel
theorem dX9_readNot_8 : decode cX9_readNot 8 = .ok (.iaload, 1) := by decide +kernel
theorem dX9_readNot_9 : decode cX9_readNot 9 = .ok (.bipush 11, 2) := by decide +kernel
theorem dX9_readNot_11 : decode cX9_readNot 11 = .ok (.if_icmp .eq 9, 3) := by decide +kernel
theorem dX9_readNot_14 : decode cX9_readNot 14 = .ok (.aload_n 0, 1) := by decide +kernel
theorem dX9_readNot_15 : decode cX9_readNot 15 = .ok (.iload_n 1, 1) := by decide +kernel
theorem dX9_readNot_16 : decode cX9_readNot 16 = .ok (.invokevirtual 60, 3) := by decide +kernel
theorem dX9_readNot_19 : decode cX9_readNot 19 = .ok (.ireturn, 1) := by decide +kernel
theorem dX9_readNot_20 : decode cX9_readNot 20 = .ok (.iload_n 1, 1) := by decide +kernel
theorem dX9_readNot_21 : decode cX9_readNot 21 = .ok (.bipush 6, 2) := by decide +kernel
theorem dX9_readNot_23 : decode cX9_readNot 23 = .ok (.if_icmp .lt 5, 3) := by decide +kernel
theorem dX9_readNot_26 : decode cX9_readNot 26 = .ok (.iconst 0, 1) := by decide +kernel
theorem dX9_readNot_27 : decode cX9_readNot 27 = .ok (.ireturn, 1) := by decide +kernel
theorem dX9_readNot_28 : decode cX9_readNot 28 = .ok (.aload_n 0, 1) := by decide +kernel
theorem dX9_readNot_29 : decode cX9_readNot 29 = .ok (.dup, 1) := by decide +kernel
theorem dX9_readNot_30 : decode cX9_readNot 30 = .ok (.getfield 38, 3) := by decide +kernel
theorem dX9_readNot_33 : decode cX9_readNot 33 = .ok (.iconst 1, 1) := by decide +kernel
theorem dX9_readNot_34 : decode cX9_readNot 34 = .ok (.iadd, 1) := by decide +kernel
theorem dX9_readNot_35 : decode cX9_readNot 35 = .ok (.putfield 38, 3) := by decide +kernel
theorem dX9_readNot_38 : decode cX9_readNot 38 = .ok (.aload_n 0, 1) := by decide +kernel
theorem dX9_readNot_39 : decode cX9_readNot 39 = .ok (.iload_n 1, 1) := by decide +kernel
theorem dX9_readNot_40 : decode cX9_readNot 40 = .ok (.iconst 1, 1) := by decide +kernel
theorem dX9_readNot_41 : decode cX9_readNot 41 = .ok (.iadd, 1) := by decide +kernel
theorem dX9_readNot_42 : decode cX9_readNot 42 = .ok (.invokevirtual 57, 3) := by decide +kernel
theorem dX9_readNot_45 : decode cX9_readNot 45 = .ok (.istore_n 2, 1) := by decide +kernel
theorem dX9_readNot_46 : decode cX9_readNot 46 = .ok (.aload_n 0, 1) := by decide +kernel
theorem dX9_readNot_47 : decode cX9_readNot 47 = .ok (.iconst 4, 1) := by decide +kernel
theorem dX9_readNot_48 : decode cX9_readNot 48 = .ok (.iconst 0, 1) := by decide +kernel
theorem dX9_readNot_49 : decode cX9_readNot 49 = .ok (.iconst 0, 1) := by decide +kernel
theorem dX9_readNot_50 : decode cX9_readNot 50 = .ok (.invokevirtual 50, 3) := by decide +kernel
theorem dX9_readNot_53 : decode cX9_readNot 53 = .ok (.pop, 1) := by decide +kernel
theorem dX9_readNot_54 : decode cX9_readNot 54 = .ok (.iload_n 2, 1) := by decide +kernel
theorem dX9_readNot_55 : decode cX9_readNot 55 = .ok (.ireturn, 1) := by decide +kernel
theorem dX9_readOne_0 : decode cX9_readOne 0 = .ok (.aload_n 0, 1) := by decide +kernel
theorem dX9_readOne_1 : decode cX9_readOne 1 = .ok (.bipush 12, 2) := by decide +kernel
theorem dX9_readOne_3 : decode cX9_readOne 3 = .ok (.invokevirtual 41, 3) := by decide +kernel
theorem dX9_readOne_6 : decode cX9_readOne 6 = .ok (.ifCond .eq 56, 3) := by decide +kernel
theorem dX9_readOne_9 : decode cX9_readOne 9 = .ok (.aload_n 0, 1) := by decide +kernel
theorem dX9_readOne_10 : decode cX9_readOne 10 = .ok (.getfield 28, 3) := by decide +kernel
theorem dX9_readOne_13 : decode cX9_readOne 13 = .ok (.aload_n 0, 1) := by decide +kernel
theorem dX9_readOne_14 : decode cX9_readOne 14 = .ok (.getfield 38, 3) := by decide +kernel
theorem dX9_readOne_17 : decode cX9_readOne 17 = .ok (.iaload, 1) := by decide +kernel
theorem dX9_readOne_18 : decode cX9_readOne 18 = .ok (.istore_n 2, 1) := by decide +kernel
theorem dX9_readOne_19 : decode cX9_readOne 19 = .ok (.aload_n 0, 1) := by decide +kernel
theorem dX9_readOne_20 : decode cX9_readOne 20 = .ok (.iconst 2, 1) := by decide +kernel
theorem dX9_readOne_21 : decode cX9_readOne 21 = .ok (.invokevirtual 41, 3) := by decide +kernel
theorem dX9_readOne_24 : decode cX9_readOne 24 = .ok (.ifCond .eq 36, 3) := by decide +kernel
theorem dX9_readOne_27 : decode cX9_readOne 27 = .ok (.aload_n 0, 1) := by decide +kernel
theorem dX9_readOne_28 : decode cX9_readOne 28 = .ok (.bipush 13, 2) := by decide +kernel
theorem dX9_readOne_30 : decode cX9_readOne 30 = .ok (.invokevirtual 41, 3) := by decide +kernel
theorem dX9_readOne_33 : decode cX9_readOne 33 = .ok (.ifCond .eq 27, 3) := by decide +kernel
theorem dX9_readOne_36 : decode cX9_readOne 36 = .ok (.aload_n 0, 1) := by decide +kernel
theorem dX9_readOne_37 : decode cX9_readOne 37 = .ok (.invokevirtual 63, 3) := by decide +kernel
theorem dX9_readOne_40 : decode cX9_readOne 40 = .ok (.ifCond .eq 20, 3) := by decide +kernel
theorem dX9_readOne_43 : decode cX9_readOne 43 = .ok (.aload_n 0, 1) := by decide +kernel
theorem dX9_readOne_44 : decode cX9_readOne 44 = .ok (.iconst 0, 1) := by decide +kernel
theorem dX9_readOne_45 : decode cX9_readOne 45 = .ok (.iload_n 2, 1) := by decide +kernel
theorem dX9_readOne_46 : decode cX9_readOne 46 = .ok (.aload_n 0, 1) := by decide +kernel
theorem dX9_readOne_47 : decode cX9_readOne 47 = .ok (.getfield 67, 3) := by decide +kernel
theorem dX9_readOne_50 : decode cX9_readOne 50 = .ok (.invokevirtual 50, 3) := by decide +kernel
theorem dX9_readOne_53 : decode cX9_readOne 53 = .ok (.ifCond .eq 7, 3) := by decide +kernel
theorem dX9_readOne_56 : decode cX9_readOne 56 = .ok (.iconst 1, 1) := by decide +kernel
theorem dX9_readOne_57 : decode cX9_readOne 57 = .ok (.goto 4, 3) := by decide +kernel
theorem dX9_readOne_60 : decode cX9_readOne 60 = .ok (.iconst 0, 1) := by decide +kernel
theorem dX9_readOne_61 : decode cX9_readOne 61 = .ok (.ireturn, 1) := by decide +kernel
theorem dX9_readOne_62 : decode cX9_readOne 62 = .ok (.aload_n 0, 1) := by decide +kernel
theorem dX9_readOne_63 : decode cX9_readOne 63 = .ok (.bipush 14, 2) := by decide +kernel
theorem dX9_readOne_65 : decode cX9_readOne 65 = .ok (.invokevirtual 41, 3) := by decide +kernel
theorem dX9_readOne_68 : decode cX9_readOne 68 = .ok (.ifCond .eq 29, 3) := by decide +kernel
theorem dX9_readOne_71 : decode cX9_readOne 71 = .ok (.aload_n 0, 1) := by decide +kernel
theorem dX9_readOne_72 : decode cX9_readOne 72 = .ok (.invokevirtual 63, 3) := by decide +kernel
theorem dX9_readOne_75 : decode cX9_readOne 75 = .ok (.ifCond .eq 20, 3) := by decide +kernel
theorem dX9_readOne_78 : decode cX9_readOne 78 = .ok (.aload_n 0, 1) := by decide +kernel
theorem dX9_readOne_79 : decode cX9_readOne 79 = .ok (.iconst 1, 1) := by decide +kernel
theorem dX9_readOne_80 : decode cX9_readOne 80 = .ok (.iconst 0, 1) := by decide +kernel
theorem dX9_readOne_81 : decode cX9_readOne 81 = .ok (.aload_n 0, 1) := by decide +kernel
theorem dX9_readOne_82 : decode cX9_readOne 82 = .ok (.getfield 67, 3) := by decide +kernel
theorem dX9_readOne_85 : decode cX9_readOne 85 = .ok (.invokevirtual 50, 3) := by decide +kernel
theorem dX9_readOne_88 : decode cX9_readOne 88 = .ok (.ifCond .eq 7, 3) := by decide +kernel
theorem dX9_readOne_91 : decode cX9_readOne 91 = .ok (.iconst 1, 1) := by decide +kernel
theorem dX9_readOne_92 : decode cX9_readOne 92 = .ok (.goto 4, 3) := by decide +kernel
theorem dX9_readOne_95 : decode cX9_readOne 95 = .ok (.iconst 0, 1) := by decide +kernel
theorem dX9_readOne_96 : decode cX9_readOne 96 = .ok (.ireturn, 1) := by decide +kernel
theorem dX9_readOne_97 : decode cX9_readOne 97 = .ok (.aload_n 0, 1) := by decide +kernel
theorem dX9_readOne_98 : decode cX9_readOne 98 = .ok (.bipush 15, 2) := by decide +kernel
theorem dX9_readOne_100 : decode cX9_readOne 100 = .ok (.invokevirtual 41, 3) := by decide +kernel
theorem dX9_readOne_103 : decode cX9_readOne 103 = .ok (.ifCond .eq 29, 3) := by decide +kernel
theorem dX9_readOne_106 : decode cX9_readOne 106 = .ok (.aload_n 0, 1) := by decide +kernel
theorem dX9_readOne_107 : decode cX9_readOne 107 = .ok (.invokevirtual 63, 3) := by decide +kernel
theorem dX9_readOne_110 : decode cX9_readOne 110 = .ok (.ifCond .eq 20, 3) := by decide +kernel
theorem dX9_readOne_113 : decode cX9_readOne 113 = .ok (.aload_n 0, 1) := by decide +kernel
theorem dX9_readOne_114 : decode cX9_readOne 114 = .ok (.iconst 2, 1) := by decide +kernel
theorem dX9_readOne_115 : decode cX9_readOne 115 = .ok (.iconst 0, 1) := by decide +kernel
theorem dX9_readOne_116 : decode cX9_readOne 116 = .ok (.aload_n 0, 1) := by decide +kernel
theorem dX9_readOne_117 : decode cX9_readOne 117 = .ok (.getfield 67, 3) := by decide +kernel
theorem dX9_readOne_120 : decode cX9_readOne 120 = .ok (.invokevirtual 50, 3) := by decide +kernel
theorem dX9_readOne_123 : decode cX9_readOne 123 = .ok (.ifCond .eq 7, 3) := by decide +kernel
theorem dX9_readOne_126 : decode cX9_readOne 126 = .ok (.iconst 1, 1) := by decide +kernel
theorem dX9_readOne_127 : decode cX9_readOne 127 = .ok (.goto 4, 3) := by decide +kernel
theorem dX9_readOne_130 : decode cX9_readOne 130 = .ok (.iconst 0, 1) := by decide +kernel
theorem dX9_readOne_131 : decode cX9_readOne 131 = .ok (.ireturn, 1) := by decide +kernel
theorem dX9_readOne_132 : decode cX9_readOne 132 = .ok (.aload_n 0, 1) := by decide +kernel
theorem dX9_readOne_133 : decode cX9_readOne 133 = .ok (.bipush 16, 2) := by decide +kernel
theorem dX9_readOne_135 : decode cX9_readOne 135 = .ok (.invokevirtual 41, 3) := by decide +kernel
theorem dX9_readOne_138 : decode cX9_readOne 138 = .ok (.ifCond .eq 37, 3) := by decide +kernel
theorem dX9_readOne_141 : decode cX9_readOne 141 = .ok (.aload_n 0, 1) := by decide +kernel
theorem dX9_readOne_142 : decode cX9_readOne 142 = .ok (.getfield 28, 3) := by decide +kernel
theorem dX9_readOne_145 : decode cX9_readOne 145 = .ok (.aload_n 0, 1) := by decide +kernel
theorem dX9_readOne_146 : decode cX9_readOne 146 = .ok (.getfield 38, 3) := by decide +kernel
theorem dX9_readOne_149 : decode cX9_readOne 149 = .ok (.iaload, 1) := by decide +kernel
theorem dX9_readOne_150 : decode cX9_readOne 150 = .ok (.istore_n 2, 1) := by decide +kernel
theorem dX9_readOne_151 : decode cX9_readOne 151 = .ok (.aload_n 0, 1) := by decide +kernel
theorem dX9_readOne_152 : decode cX9_readOne 152 = .ok (.iconst 2, 1) := by decide +kernel
theorem dX9_readOne_153 : decode cX9_readOne 153 = .ok (.invokevirtual 41, 3) := by decide +kernel
theorem dX9_readOne_156 : decode cX9_readOne 156 = .ok (.ifCond .eq 17, 3) := by decide +kernel
theorem dX9_readOne_159 : decode cX9_readOne 159 = .ok (.aload_n 0, 1) := by decide +kernel
theorem dX9_readOne_160 : decode cX9_readOne 160 = .ok (.iconst 3, 1) := by decide +kernel
theorem dX9_readOne_161 : decode cX9_readOne 161 = .ok (.iload_n 2, 1) := by decide +kernel
theorem dX9_readOne_162 : decode cX9_readOne 162 = .ok (.iconst 0, 1) := by decide +kernel
theorem dX9_readOne_163 : decode cX9_readOne 163 = .ok (.invokevirtual 50, 3) := by decide +kernel
theorem dX9_readOne_166 : decode cX9_readOne 166 = .ok (.ifCond .eq 7, 3) := by decide +kernel
theorem dX9_readOne_169 : decode cX9_readOne 169 = .ok (.iconst 1, 1) := by decide +kernel
theorem dX9_readOne_170 : decode cX9_readOne 170 = .ok (.goto 4, 3) := by decide +kernel
theorem dX9_readOne_173 : decode cX9_readOne 173 = .ok (.iconst 0, 1) := by decide +kernel
theorem dX9_readOne_174 : decode cX9_readOne 174 = .ok (.ireturn, 1) := by decide +kernel
theorem dX9_readOne_175 : decode cX9_readOne 175 = .ok (.iload_n 1, 1) := by decide +kernel
theorem dX9_readOne_176 : decode cX9_readOne 176 = .ok (.bipush 6, 2) := by decide +kernel
theorem dX9_readOne_178 : decode cX9_readOne 178 = .ok (.if_icmp .ge 33, 3) := by decide +kernel
theorem dX9_readOne_181 : decode cX9_readOne 181 = .ok (.aload_n 0, 1) := by decide +kernel
theorem dX9_readOne_182 : decode cX9_readOne 182 = .ok (.iconst 3, 1) := by decide +kernel
theorem dX9_readOne_183 : decode cX9_readOne 183 = .ok (.invokevirtual 41, 3) := by decide +kernel
theorem dX9_readOne_186 : decode cX9_readOne 186 = .ok (.ifCond .eq 25, 3) := by decide +kernel
theorem dX9_readOne_189 : decode cX9_readOne 189 = .ok (.aload_n 0, 1) := by decide +kernel
theorem dX9_readOne_190 : decode cX9_readOne 190 = .ok (.iload_n 1, 1) := by decide +kernel
theorem dX9_readOne_191 : decode cX9_readOne 191 = .ok (.iconst 1, 1) := by decide +kernel
theorem dX9_readOne_192 : decode cX9_readOne 192 = .ok (.iadd, 1) := by decide +kernel
theorem dX9_readOne_193 : decode cX9_readOne 193 = .ok (.invokevirtual 45, 3) := by decide +kernel
theorem dX9_readOne_196 : decode cX9_readOne 196 = .ok (.ifCond .eq 15, 3) := by decide +kernel
theorem dX9_readOne_199 : decode cX9_readOne 199 = .ok (.aload_n 0, 1) := by decide +kernel
theorem dX9_readOne_200 : decode cX9_readOne 200 = .ok (.iconst 4, 1) := by decide +kernel
theorem dX9_readOne_201 : decode cX9_readOne 201 = .ok (.invokevirtual 41, 3) := by decide +kernel
theorem dX9_readOne_204 : decode cX9_readOne 204 = .ok (.ifCond .eq 7, 3) := by decide +kernel
theorem dX9_readOne_207 : decode cX9_readOne 207 = .ok (.iconst 1, 1) := by decide +kernel
theorem dX9_readOne_208 : decode cX9_readOne 208 = .ok (.goto 4, 3) := by decide +kernel
theorem dX9_readOne_211 : decode cX9_readOne 211 = .ok (.iconst 0, 1) := by decide +kernel
theorem dX9_readOne_212 : decode cX9_readOne 212 = .ok (.ireturn, 1) := by decide +kernel
theorem dX9_readPart_0 : decode cX9_readPart 0 = .ok (.aload_n 0, 1) := by decide +kernel
theorem dX9_readPart_1 : decode cX9_readPart 1 = .ok (.bipush 17, 2) := by decide +kernel
theorem dX9_readPart_3 : decode cX9_readPart 3 = .ok (.invokevirtual 41, 3) := by decide +kernel
theorem dX9_readPart_6 : decode cX9_readPart 6 = .ok (.ifCond .eq 12, 3) := by decide +kernel
theorem dX9_readPart_9 : decode cX9_readPart 9 = .ok (.aload_n 0, 1) := by decide +kernel
theorem dX9_readPart_10 : decode cX9_readPart 10 = .ok (.sipush 1023, 3) := by decide +kernel
theorem dX9_readPart_13 : decode cX9_readPart 13 = .ok (.putfield 67, 3) := by decide +kernel
theorem dX9_readPart_16 : decode cX9_readPart 16 = .ok (.iconst 1, 1) := by decide +kernel
theorem dX9_readPart_17 : decode cX9_readPart 17 = .ok (.ireturn, 1) := by decide +kernel
theorem dX9_readPart_18 : decode cX9_readPart 18 = .ok (.aload_n 0, 1) := by decide +kernel
theorem dX9_readPart_19 : decode cX9_readPart 19 = .ok (.iconst 0, 1) := by decide +kernel
theorem dX9_readPart_20 : decode cX9_readPart 20 = .ok (.putfield 67, 3) := by decide +kernel
theorem dX9_readPart_23 : decode cX9_readPart 23 = .ok (.aload_n 0, 1) := by decide +kernel
theorem dX9_readPart_24 : decode cX9_readPart 24 = .ok (.iconst 5, 1) := by decide +kernel
theorem dX9_readPart_25 : decode cX9_readPart 25 = .ok (.invokevirtual 41, 3) := by decide +kernel
theorem dX9_readPart_28 : decode cX9_readPart 28 = .ok (.ifCond .eq 20, 3) := by decide +kernel
theorem dX9_readPart_31 : decode cX9_readPart 31 = .ok (.aload_n 0, 1) := by decide +kernel
theorem dX9_readPart_32 : decode cX9_readPart 32 = .ok (.getfield 22, 3) := by decide +kernel
theorem dX9_readPart_35 : decode cX9_readPart 35 = .ok (.aload_n 0, 1) := by decide +kernel
theorem dX9_readPart_36 : decode cX9_readPart 36 = .ok (.getfield 38, 3) := by decide +kernel
theorem dX9_readPart_39 : decode cX9_readPart 39 = .ok (.iaload, 1) := by decide +kernel
theorem dX9_readPart_40 : decode cX9_readPart 40 = .ok (.iconst 2, 1) := by decide +kernel
theorem dX9_readPart_41 : decode cX9_readPart 41 = .ok (.if_icmp .ne 7, 3) := by decide +kernel
theorem dX9_readPart_44 : decode cX9_readPart 44 = .ok (.iconst 1, 1) := by decide +kernel
theorem dX9_readPart_45 : decode cX9_readPart 45 = .ok (.goto 4, 3) := by decide +kernel
theorem dX9_readPart_48 : decode cX9_readPart 48 = .ok (.iconst 0, 1) := by decide +kernel
theorem dX9_readPart_49 : decode cX9_readPart 49 = .ok (.istore_n 1, 1) := by decide +kernel
theorem dX9_readPart_50 : decode cX9_readPart 50 = .ok (.iconst 0, 1) := by decide +kernel
theorem dX9_readPart_51 : decode cX9_readPart 51 = .ok (.istore_n 2, 1) := by decide +kernel
theorem dX9_readPart_52 : decode cX9_readPart 52 = .ok (.iload_n 1, 1) := by decide +kernel
theorem dX9_readPart_53 : decode cX9_readPart 53 = .ok (.ifCond .eq 78, 3) := by decide +kernel
theorem dX9_readPart_56 : decode cX9_readPart 56 = .ok (.iload_n 2, 1) := by decide +kernel
theorem dX9_readPart_57 : decode cX9_readPart 57 = .ok (.bipush 120, 2) := by decide +kernel
theorem dX9_readPart_59 : decode cX9_readPart 59 = .ok (.if_icmp .ge 72, 3) := by decide +kernel
theorem dX9_readPart_62 : decode cX9_readPart 62 = .ok (.aload_n 0, 1) := by decide +kernel
theorem dX9_readPart_63 : decode cX9_readPart 63 = .ok (.getfield 28, 3) := by decide +kernel
theorem dX9_readPart_66 : decode cX9_readPart 66 = .ok (.aload_n 0, 1) := by decide +kernel
theorem dX9_readPart_67 : decode cX9_readPart 67 = .ok (.getfield 38, 3) := by decide +kernel
theorem dX9_readPart_70 : decode cX9_readPart 70 = .ok (.iaload, 1) := by decide +kernel
theorem dX9_readPart_71 : decode cX9_readPart 71 = .ok (.bipush 10, 2) := by decide +kernel
theorem dX9_readPart_73 : decode cX9_readPart 73 = .ok (.if_icmp .ge 58, 3) := by decide +kernel
theorem dX9_readPart_76 : decode cX9_readPart 76 = .ok (.aload_n 0, 1) := by decide +kernel
theorem dX9_readPart_77 : decode cX9_readPart 77 = .ok (.dup, 1) := by decide +kernel
theorem dX9_readPart_78 : decode cX9_readPart 78 = .ok (.getfield 67, 3) := by decide +kernel
theorem dX9_readPart_81 : decode cX9_readPart 81 = .ok (.iconst 1, 1) := by decide +kernel
theorem dX9_readPart_82 : decode cX9_readPart 82 = .ok (.aload_n 0, 1) := by decide +kernel
theorem dX9_readPart_83 : decode cX9_readPart 83 = .ok (.getfield 28, 3) := by decide +kernel
theorem dX9_readPart_86 : decode cX9_readPart 86 = .ok (.aload_n 0, 1) := by decide +kernel
theorem dX9_readPart_87 : decode cX9_readPart 87 = .ok (.getfield 38, 3) := by decide +kernel
theorem dX9_readPart_90 : decode cX9_readPart 90 = .ok (.iaload, 1) := by decide +kernel
theorem dX9_readPart_91 : decode cX9_readPart 91 = .ok (.ishl, 1) := by decide +kernel
theorem dX9_readPart_92 : decode cX9_readPart 92 = .ok (.ior, 1) := by decide +kernel
theorem dX9_readPart_93 : decode cX9_readPart 93 = .ok (.putfield 67, 3) := by decide +kernel
theorem dX9_readPart_96 : decode cX9_readPart 96 = .ok (.aload_n 0, 1) := by decide +kernel
theorem dX9_readPart_97 : decode cX9_readPart 97 = .ok (.dup, 1) := by decide +kernel
theorem dX9_readPart_98 : decode cX9_readPart 98 = .ok (.getfield 38, 3) := by decide +kernel
theorem dX9_readPart_101 : decode cX9_readPart 101 = .ok (.iconst 1, 1) := by decide +kernel
theorem dX9_readPart_102 : decode cX9_readPart 102 = .ok (.iadd, 1) := by decide +kernel
theorem dX9_readPart_103 : decode cX9_readPart 103 = .ok (.putfield 38, 3) := by decide +kernel
theorem dX9_readPart_106 : decode cX9_readPart 106 = .ok (.aload_n 0, 1) := by decide +kernel
theorem dX9_readPart_107 : decode cX9_readPart 107 = .ok (.getfield 22, 3) := by decide +kernel
theorem dX9_readPart_110 : decode cX9_readPart 110 = .ok (.aload_n 0, 1) := by decide +kernel
theorem dX9_readPart_111 : decode cX9_readPart 111 = .ok (.getfield 38, 3) := by decide +kernel
theorem dX9_readPart_114 : decode cX9_readPart 114 = .ok (.iaload, 1) := by decide +kernel
theorem dX9_readPart_115 : decode cX9_readPart 115 = .ok (.iconst 2, 1) := by decide +kernel
theorem dX9_readPart_116 : decode cX9_readPart 116 = .ok (.if_icmp .ne 7, 3) := by decide +kernel
theorem dX9_readPart_119 : decode cX9_readPart 119 = .ok (.iconst 1, 1) := by decide +kernel
theorem dX9_readPart_120 : decode cX9_readPart 120 = .ok (.goto 4, 3) := by decide +kernel
theorem dX9_readPart_123 : decode cX9_readPart 123 = .ok (.iconst 0, 1) := by decide +kernel
theorem dX9_readPart_124 : decode cX9_readPart 124 = .ok (.istore_n 1, 1) := by decide +kernel
theorem dX9_readPart_125 : decode cX9_readPart 125 = .ok (.iinc 2 1, 3) := by decide +kernel
theorem dX9_readPart_128 : decode cX9_readPart 128 = .ok (.goto (-76), 3) := by decide +kernel
theorem dX9_readPart_131 : decode cX9_readPart 131 = .ok (.aload_n 0, 1) := by decide +kernel
theorem dX9_readPart_132 : decode cX9_readPart 132 = .ok (.getfield 67, 3) := by decide +kernel
theorem dX9_readPart_135 : decode cX9_readPart 135 = .ok (.ifCond .eq 16, 3) := by decide +kernel
theorem dX9_readPart_138 : decode cX9_readPart 138 = .ok (.aload_n 0, 1) := by decide +kernel
theorem dX9_readPart_139 : decode cX9_readPart 139 = .ok (.bipush 6, 2) := by decide +kernel
theorem dX9_readPart_141 : decode cX9_readPart 141 = .ok (.invokevirtual 41, 3) := by decide +kernel
theorem dX9_readPart_144 : decode cX9_readPart 144 = .ok (.ifCond .eq 7, 3) := by decide +kernel
theorem dX9_readPart_147 : decode cX9_readPart 147 = .ok (.iconst 1, 1) := by decide +kernel
theorem dX9_readPart_148 : decode cX9_readPart 148 = .ok (.goto 4, 3) := by decide +kernel
theorem dX9_readPart_151 : decode cX9_readPart 151 = .ok (.iconst 0, 1) := by decide +kernel
theorem dX9_readPart_152 : decode cX9_readPart 152 = .ok (.ireturn, 1) := by decide +kernel
theorem dX9_pass_0 : decode cX9_pass 0 = .ok (.aload_n 0, 1) := by decide +kernel
theorem dX9_pass_1 : decode cX9_pass 1 = .ok (.getfield 22, 3) := by decide +kernel
theorem dX9_pass_4 : decode cX9_pass 4 = .ok (.aload_n 0, 1) := by decide +kernel
theorem dX9_pass_5 : decode cX9_pass 5 = .ok (.getfield 38, 3) := by decide +kernel
theorem dX9_pass_8 : decode cX9_pass 8 = .ok (.iaload, 1) := by decide +kernel
theorem dX9_pass_9 : decode cX9_pass 9 = .ok (.iload_n 1, 1) := by decide +kernel
theorem dX9_pass_10 : decode cX9_pass 10 = .ok (.if_icmp .ne 7, 3) := by decide +kernel
theorem dX9_pass_13 : decode cX9_pass 13 = .ok (.iconst 1, 1) := by decide +kernel
theorem dX9_pass_14 : decode cX9_pass 14 = .ok (.goto 4, 3) := by decide +kernel
theorem dX9_pass_17 : decode cX9_pass 17 = .ok (.iconst 0, 1) := by decide +kernel
theorem dX9_pass_18 : decode cX9_pass 18 = .ok (.istore_n 2, 1) := by decide +kernel
theorem dX9_pass_19 : decode cX9_pass 19 = .ok (.aload_n 0, 1) := by decide +kernel
theorem dX9_pass_20 : decode cX9_pass 20 = .ok (.dup, 1) := by decide +kernel
theorem dX9_pass_21 : decode cX9_pass 21 = .ok (.getfield 38, 3) := by decide +kernel
theorem dX9_pass_24 : decode cX9_pass 24 = .ok (.iload_n 2, 1) := by decide +kernel
theorem dX9_pass_25 : decode cX9_pass 25 = .ok (.ifCond .eq 7, 3) := by decide +kernel
theorem dX9_pass_28 : decode cX9_pass 28 = .ok (.iconst 1, 1) := by decide +kernel
theorem dX9_pass_29 : decode cX9_pass 29 = .ok (.goto 4, 3) := by decide +kernel
theorem dX9_pass_32 : decode cX9_pass 32 = .ok (.iconst 0, 1) := by decide +kernel
theorem dX9_pass_33 : decode cX9_pass 33 = .ok (.iadd, 1) := by decide +kernel
theorem dX9_pass_34 : decode cX9_pass 34 = .ok (.putfield 38, 3) := by decide +kernel
theorem dX9_pass_37 : decode cX9_pass 37 = .ok (.iload_n 2, 1) := by decide +kernel
theorem dX9_pass_38 : decode cX9_pass 38 = .ok (.ireturn, 1) := by decide +kernel
theorem dX9_emit_0 : decode cX9_emit 0 = .ok (.aload_n 0, 1) := by decide +kernel
theorem dX9_emit_1 : decode cX9_emit 1 = .ok (.getfield 34, 3) := by decide +kernel
theorem dX9_emit_4 : decode cX9_emit 4 = .ok (.bipush 120, 2) := by decide +kernel
theorem dX9_emit_6 : decode cX9_emit 6 = .ok (.if_icmp .ge 28, 3) := by decide +kernel
theorem dX9_emit_9 : decode cX9_emit 9 = .ok (.aload_n 0, 1) := by decide +kernel
theorem dX9_emit_10 : decode cX9_emit 10 = .ok (.getfield 18, 3) := by decide +kernel
theorem dX9_emit_13 : decode cX9_emit 13 = .ok (.aload_n 0, 1) := by decide +kernel
theorem dX9_emit_14 : decode cX9_emit 14 = .ok (.getfield 34, 3) := by decide +kernel
theorem dX9_emit_17 : decode cX9_emit 17 = .ok (.iload_n 1, 1) := by decide +kernel
theorem dX9_emit_18 : decode cX9_emit 18 = .ok (.iload_n 2, 1) := by decide +kernel
theorem dX9_emit_19 : decode cX9_emit 19 = .ok (.iload_n 3, 1) := by decide +kernel
theorem dX9_emit_20 : decode cX9_emit 20 = .ok (.invokestatic 70, 3) := by decide +kernel
theorem dX9_emit_23 : decode cX9_emit 23 = .ok (.iastore, 1) := by decide +kernel
theorem dX9_emit_24 : decode cX9_emit 24 = .ok (.aload_n 0, 1) := by decide +kernel
theorem dX9_emit_25 : decode cX9_emit 25 = .ok (.dup, 1) := by decide +kernel
theorem dX9_emit_26 : decode cX9_emit 26 = .ok (.getfield 34, 3) := by decide +kernel
theorem dX9_emit_29 : decode cX9_emit 29 = .ok (.iconst 1, 1) := by decide +kernel
theorem dX9_emit_30 : decode cX9_emit 30 = .ok (.iadd, 1) := by decide +kernel
theorem dX9_emit_31 : decode cX9_emit 31 = .ok (.putfield 34, 3) := by decide +kernel
theorem dX9_emit_34 : decode cX9_emit 34 = .ok (.iconst 1, 1) := by decide +kernel
theorem dX9_emit_35 : decode cX9_emit 35 = .ok (.ireturn, 1) := by decide +kernel
theorem dX9_findTokens_0 : decode cX9_findTokens 0 = .ok (.iconst 0, 1) := by decide +kernel
theorem dX9_findTokens_1 : decode cX9_findTokens 1 = .ok (.istore_n 1, 1) := by decide +kernel
theorem dX9_findTokens_2 : decode cX9_findTokens 2 = .ok (.iconst 0, 1) := by decide +kernel
theorem dX9_findTokens_3 : decode cX9_findTokens 3 = .ok (.istore_n 2, 1) := by decide +kernel
theorem dX9_findTokens_4 : decode cX9_findTokens 4 = .ok (.iconst 0, 1) := by decide +kernel
theorem dX9_findTokens_5 : decode cX9_findTokens 5 = .ok (.istore_n 3, 1) := by decide +kernel
theorem dX9_findTokens_6 : decode cX9_findTokens 6 = .ok (.iload_n 3, 1) := by decide +kernel
theorem dX9_findTokens_7 : decode cX9_findTokens 7 = .ok (.aload_n 0, 1) := by decide +kernel
theorem dX9_findTokens_8 : decode cX9_findTokens 8 = .ok (.getfield 12, 3) := by decide +kernel
theorem dX9_findTokens_11 : decode cX9_findTokens 11 = .ok (.getfield 74, 3) := by decide +kernel
theorem dX9_findTokens_14 : decode cX9_findTokens 14 = .ok (.if_icmp .ge 82, 3) := by decide +kernel
theorem dX9_findTokens_17 : decode cX9_findTokens 17 = .ok (.iload_n 3, 1) := by decide +kernel
theorem dX9_findTokens_18 : decode cX9_findTokens 18 = .ok (.iload_n 2, 1) := by decide +kernel
theorem dX9_findTokens_19 : decode cX9_findTokens 19 = .ok (.if_icmp .lt 71, 3) := by decide +kernel
theorem dX9_findTokens_22 : decode cX9_findTokens 22 = .ok (.aload_n 0, 1) := by decide +kernel
theorem dX9_findTokens_23 : decode cX9_findTokens 23 = .ok (.getfield 12, 3) := by decide +kernel
theorem dX9_findTokens_26 : decode cX9_findTokens 26 = .ok (.getfield 75, 3) := by decide +kernel
theorem dX9_findTokens_29 : decode cX9_findTokens 29 = .ok (.iload_n 3, 1) := by decide +kernel
theorem dX9_findTokens_30 : decode cX9_findTokens 30 = .ok (.iaload, 1) := by decide +kernel
theorem dX9_findTokens_31 : decode cX9_findTokens 31 = .ok (.bipush 32, 2) := by decide +kernel
theorem dX9_findTokens_33 : decode cX9_findTokens 33 = .ok (.if_icmp .eq 57, 3) := by decide +kernel
theorem dX9_findTokens_36 : decode cX9_findTokens 36 = .ok (.aload_n 0, 1) := by decide +kernel
theorem dX9_findTokens_37 : decode cX9_findTokens 37 = .ok (.iload_n 3, 1) := by decide +kernel
theorem dX9_findTokens_38 : decode cX9_findTokens 38 = .ok (.invokevirtual 78, 3) := by decide +kernel
theorem dX9_findTokens_41 : decode cX9_findTokens 41 = .ok (.istore_n 2, 1) := by decide +kernel
theorem dX9_findTokens_42 : decode cX9_findTokens 42 = .ok (.aload_n 0, 1) := by decide +kernel
theorem dX9_findTokens_43 : decode cX9_findTokens 43 = .ok (.getfield 22, 3) := by decide +kernel
theorem dX9_findTokens_46 : decode cX9_findTokens 46 = .ok (.iload_n 1, 1) := by decide +kernel
theorem dX9_findTokens_47 : decode cX9_findTokens 47 = .ok (.aload_n 0, 1) := by decide +kernel
theorem dX9_findTokens_48 : decode cX9_findTokens 48 = .ok (.iload_n 3, 1) := by decide +kernel
theorem dX9_findTokens_49 : decode cX9_findTokens 49 = .ok (.iload_n 2, 1) := by decide +kernel
theorem dX9_findTokens_50 : decode cX9_findTokens 50 = .ok (.invokevirtual 82, 3) := by decide +kernel
theorem dX9_findTokens_53 : decode cX9_findTokens 53 = .ok (.iastore, 1) := by decide +kernel
theorem dX9_findTokens_54 : decode cX9_findTokens 54 = .ok (.aload_n 0, 1) := by decide +kernel
theorem dX9_findTokens_55 : decode cX9_findTokens 55 = .ok (.getfield 25, 3) := by decide +kernel
theorem dX9_findTokens_58 : decode cX9_findTokens 58 = .ok (.iload_n 1, 1) := by decide +kernel
theorem dX9_findTokens_59 : decode cX9_findTokens 59 = .ok (.iload_n 3, 1) := by decide +kernel
theorem dX9_findTokens_60 : decode cX9_findTokens 60 = .ok (.iastore, 1) := by decide +kernel
theorem dX9_findTokens_61 : decode cX9_findTokens 61 = .ok (.aload_n 0, 1) := by decide +kernel
theorem dX9_findTokens_62 : decode cX9_findTokens 62 = .ok (.getfield 28, 3) := by decide +kernel
theorem dX9_findTokens_65 : decode cX9_findTokens 65 = .ok (.iload_n 1, 1) := by decide +kernel
theorem dX9_findTokens_66 : decode cX9_findTokens 66 = .ok (.aload_n 0, 1) := by decide +kernel
theorem dX9_findTokens_67 : decode cX9_findTokens 67 = .ok (.getfield 22, 3) := by decide +kernel
theorem dX9_findTokens_70 : decode cX9_findTokens 70 = .ok (.iload_n 1, 1) := by decide +kernel
theorem dX9_findTokens_71 : decode cX9_findTokens 71 = .ok (.iaload, 1) := by decide +kernel
theorem dX9_findTokens_72 : decode cX9_findTokens 72 = .ok (.iconst 2, 1) := by decide +kernel
theorem dX9_findTokens_73 : decode cX9_findTokens 73 = .ok (.if_icmp .ne 12, 3) := by decide +kernel
theorem dX9_findTokens_76 : decode cX9_findTokens 76 = .ok (.aload_n 0, 1) := by decide +kernel
theorem dX9_findTokens_77 : decode cX9_findTokens 77 = .ok (.iload_n 3, 1) := by decide +kernel
theorem dX9_findTokens_78 : decode cX9_findTokens 78 = .ok (.iload_n 2, 1) := by decide +kernel
theorem dX9_findTokens_79 : decode cX9_findTokens 79 = .ok (.invokevirtual 86, 3) := by decide +kernel
theorem dX9_findTokens_82 : decode cX9_findTokens 82 = .ok (.goto 4, 3) := by decide +kernel
theorem dX9_findTokens_85 : decode cX9_findTokens 85 = .ok (.iconst 0, 1) := by decide +kernel
theorem dX9_findTokens_86 : decode cX9_findTokens 86 = .ok (.iastore, 1) := by decide +kernel
theorem dX9_findTokens_87 : decode cX9_findTokens 87 = .ok (.iinc 1 1, 3) := by decide +kernel
theorem dX9_findTokens_90 : decode cX9_findTokens 90 = .ok (.iinc 3 1, 3) := by decide +kernel
theorem dX9_findTokens_93 : decode cX9_findTokens 93 = .ok (.goto (-87), 3) := by decide +kernel
theorem dX9_findTokens_96 : decode cX9_findTokens 96 = .ok (.aload_n 0, 1) := by decide +kernel
theorem dX9_findTokens_97 : decode cX9_findTokens 97 = .ok (.getfield 22, 3) := by decide +kernel
theorem dX9_findTokens_100 : decode cX9_findTokens 100 = .ok (.iload_n 1, 1) := by decide +kernel
theorem dX9_findTokens_101 : decode cX9_findTokens 101 = .ok (.iconst 0, 1) := by decide +kernel
theorem dX9_findTokens_102 : decode cX9_findTokens 102 = .ok (.iastore, 1) := by decide +kernel
theorem dX9_findTokens_103 : decode cX9_findTokens 103 = .ok (.aload_n 0, 1) := by decide +kernel
theorem dX9_findTokens_104 : decode cX9_findTokens 104 = .ok (.getfield 25, 3) := by decide +kernel
theorem dX9_findTokens_107 : decode cX9_findTokens 107 = .ok (.iload_n 1, 1) := by decide +kernel
theorem dX9_findTokens_108 : decode cX9_findTokens 108 = .ok (.aload_n 0, 1) := by decide +kernel
theorem dX9_findTokens_109 : decode cX9_findTokens 109 = .ok (.getfield 12, 3) := by decide +kernel
theorem dX9_findTokens_112 : decode cX9_findTokens 112 = .ok (.getfield 74, 3) := by decide +kernel
theorem dX9_findTokens_115 : decode cX9_findTokens 115 = .ok (.iastore, 1) := by decide +kernel
theorem dX9_findTokens_116 : decode cX9_findTokens 116 = .ok (.aload_n 0, 1) := by decide +kernel
theorem dX9_findTokens_117 : decode cX9_findTokens 117 = .ok (.getfield 28, 3) := by decide +kernel
theorem dX9_findTokens_120 : decode cX9_findTokens 120 = .ok (.iload_n 1, 1) := by decide +kernel
theorem dX9_findTokens_121 : decode cX9_findTokens 121 = .ok (.iconst 0, 1) := by decide +kernel
theorem dX9_findTokens_122 : decode cX9_findTokens 122 = .ok (.iastore, 1) := by decide +kernel
theorem dX9_findTokens_123 : decode cX9_findTokens 123 = .ok (.return_, 1) := by decide +kernel
theorem dX9_endOf_0 : decode cX9_endOf 0 = .ok (.aload_n 0, 1) := by decide +kernel
theorem dX9_endOf_1 : decode cX9_endOf 1 = .ok (.getfield 12, 3) := by decide +kernel
theorem dX9_endOf_4 : decode cX9_endOf 4 = .ok (.getfield 75, 3) := by decide +kernel
theorem dX9_endOf_7 : decode cX9_endOf 7 = .ok (.iload_n 1, 1) := by decide +kernel
theorem dX9_endOf_8 : decode cX9_endOf 8 = .ok (.iaload, 1) := by decide +kernel
theorem dX9_endOf_9 : decode cX9_endOf 9 = .ok (.invokestatic 89, 3) := by decide +kernel
theorem dX9_endOf_12 : decode cX9_endOf 12 = .ok (.istore_n 2, 1) := by decide +kernel
theorem dX9_endOf_13 : decode cX9_endOf 13 = .ok (.aload_n 0, 1) := by decide +kernel
theorem dX9_endOf_14 : decode cX9_endOf 14 = .ok (.getfield 12, 3) := by decide +kernel
theorem dX9_endOf_17 : decode cX9_endOf 17 = .ok (.getfield 75, 3) := by decide +kernel
theorem dX9_endOf_20 : decode cX9_endOf 20 = .ok (.iload_n 1, 1) := by decide +kernel
theorem dX9_endOf_21 : decode cX9_endOf 21 = .ok (.iaload, 1) := by decide +kernel
theorem dX9_endOf_22 : decode cX9_endOf 22 = .ok (.invokestatic 92, 3) := by decide +kernel
theorem dX9_endOf_25 : decode cX9_endOf 25 = .ok (.istore_n 3, 1) := by decide +kernel
theorem dX9_endOf_26 : decode cX9_endOf 26 = .ok (.iload_n 1, 1) := by decide +kernel
theorem dX9_endOf_27 : decode cX9_endOf 27 = .ok (.iconst 1, 1) := by decide +kernel
theorem dX9_endOf_28 : decode cX9_endOf 28 = .ok (.iadd, 1) := by decide +kernel
theorem dX9_endOf_29 : decode cX9_endOf 29 = .ok (.istore 4, 2) := by decide +kernel
theorem dX9_endOf_31 : decode cX9_endOf 31 = .ok (.iload 4, 2) := by decide +kernel
theorem dX9_endOf_33 : decode cX9_endOf 33 = .ok (.aload_n 0, 1) := by decide +kernel
theorem dX9_endOf_34 : decode cX9_endOf 34 = .ok (.getfield 12, 3) := by decide +kernel
theorem dX9_endOf_37 : decode cX9_endOf 37 = .ok (.getfield 74, 3) := by decide +kernel
theorem dX9_endOf_40 : decode cX9_endOf 40 = .ok (.if_icmp .ge 49, 3) := by decide +kernel
theorem dX9_endOf_43 : decode cX9_endOf 43 = .ok (.iload_n 2, 1) := by decide +kernel
theorem dX9_endOf_44 : decode cX9_endOf 44 = .ok (.ifCond .eq 19, 3) := by decide +kernel
theorem dX9_endOf_47 : decode cX9_endOf 47 = .ok (.aload_n 0, 1) := by decide +kernel
theorem dX9_endOf_48 : decode cX9_endOf 48 = .ok (.getfield 12, 3) := by decide +kernel
theorem dX9_endOf_51 : decode cX9_endOf 51 = .ok (.getfield 75, 3) := by decide +kernel
theorem dX9_endOf_54 : decode cX9_endOf 54 = .ok (.iload 4, 2) := by decide +kernel
theorem dX9_endOf_56 : decode cX9_endOf 56 = .ok (.iaload, 1) := by decide +kernel
theorem dX9_endOf_57 : decode cX9_endOf 57 = .ok (.invokestatic 89, 3) := by decide +kernel
theorem dX9_endOf_60 : decode cX9_endOf 60 = .ok (.ifCond .ne 23, 3) := by decide +kernel
theorem dX9_endOf_63 : decode cX9_endOf 63 = .ok (.iload_n 3, 1) := by decide +kernel
theorem dX9_endOf_64 : decode cX9_endOf 64 = .ok (.ifCond .eq 25, 3) := by decide +kernel
theorem dX9_endOf_67 : decode cX9_endOf 67 = .ok (.aload_n 0, 1) := by decide +kernel
theorem dX9_endOf_68 : decode cX9_endOf 68 = .ok (.getfield 12, 3) := by decide +kernel
theorem dX9_endOf_71 : decode cX9_endOf 71 = .ok (.getfield 75, 3) := by decide +kernel
theorem dX9_endOf_74 : decode cX9_endOf 74 = .ok (.iload 4, 2) := by decide +kernel
theorem dX9_endOf_76 : decode cX9_endOf 76 = .ok (.iaload, 1) := by decide +kernel
theorem dX9_endOf_77 : decode cX9_endOf 77 = .ok (.invokestatic 92, 3) := by decide +kernel
theorem dX9_endOf_80 : decode cX9_endOf 80 = .ok (.ifCond .eq 9, 3) := by decide +kernel
theorem dX9_endOf_83 : decode cX9_endOf 83 = .ok (.iinc 4 1, 3) := by decide +kernel
theorem dX9_endOf_86 : decode cX9_endOf 86 = .ok (.goto (-55), 3) := by decide +kernel
theorem dX9_endOf_89 : decode cX9_endOf 89 = .ok (.iload 4, 2) := by decide +kernel
theorem dX9_endOf_91 : decode cX9_endOf 91 = .ok (.ireturn, 1) := by decide +kernel
theorem dX9_tokenOf_0 : decode cX9_tokenOf 0 = .ok (.aload_n 0, 1) := by decide +kernel
theorem dX9_tokenOf_1 : decode cX9_tokenOf 1 = .ok (.getfield 12, 3) := by decide +kernel
theorem dX9_tokenOf_4 : decode cX9_tokenOf 4 = .ok (.getfield 75, 3) := by decide +kernel
theorem dX9_tokenOf_7 : decode cX9_tokenOf 7 = .ok (.iload_n 1, 1) := by decide +kernel
theorem dX9_tokenOf_8 : decode cX9_tokenOf 8 = .ok (.iaload, 1) := by decide +kernel
theorem dX9_tokenOf_9 : decode cX9_tokenOf 9 = .ok (.invokestatic 89, 3) := by decide +kernel
theorem dX9_tokenOf_12 : decode cX9_tokenOf 12 = .ok (.ifCond .eq 10, 3) := by decide +kernel
theorem dX9_tokenOf_15 : decode cX9_tokenOf 15 = .ok (.aload_n 0, 1) := by decide +kernel
theorem dX9_tokenOf_16 : decode cX9_tokenOf 16 = .ok (.iload_n 1, 1) := by decide +kernel
theorem dX9_tokenOf_17 : decode cX9_tokenOf 17 = .ok (.iload_n 2, 1) := by decide +kernel
theorem dX9_tokenOf_18 : decode cX9_tokenOf 18 = .ok (.invokevirtual 95, 3) := by decide +kernel
theorem dX9_tokenOf_21 : decode cX9_tokenOf 21 = .ok (.ireturn, 1) := by decide +kernel
theorem dX9_tokenOf_22 : decode cX9_tokenOf 22 = .ok (.aload_n 0, 1) := by decide +kernel
theorem dX9_tokenOf_23 : decode cX9_tokenOf 23 = .ok (.getfield 12, 3) := by decide +kernel
theorem dX9_tokenOf_26 : decode cX9_tokenOf 26 = .ok (.getfield 75, 3) := by decide +kernel
theorem dX9_tokenOf_29 : decode cX9_tokenOf 29 = .ok (.iload_n 1, 1) := by decide +kernel
theorem dX9_tokenOf_30 : decode cX9_tokenOf 30 = .ok (.iaload, 1) := by decide +kernel
theorem dX9_tokenOf_31 : decode cX9_tokenOf 31 = .ok (.invokestatic 92, 3) := by decide +kernel
theorem dX9_tokenOf_34 : decode cX9_tokenOf 34 = .ok (.ifCond .eq 20, 3) := by decide +kernel
theorem dX9_tokenOf_37 : decode cX9_tokenOf 37 = .ok (.aload_n 0, 1) := by decide +kernel
theorem dX9_tokenOf_38 : decode cX9_tokenOf 38 = .ok (.iload_n 1, 1) := by decide +kernel
theorem dX9_tokenOf_39 : decode cX9_tokenOf 39 = .ok (.iload_n 2, 1) := by decide +kernel
theorem dX9_tokenOf_40 : decode cX9_tokenOf 40 = .ok (.invokevirtual 86, 3) := by decide +kernel
theorem dX9_tokenOf_43 : decode cX9_tokenOf 43 = .ok (.bipush 99, 2) := by decide +kernel
theorem dX9_tokenOf_45 : decode cX9_tokenOf 45 = .ok (.if_icmp .le 7, 3) := by decide +kernel
theorem dX9_tokenOf_48 : decode cX9_tokenOf 48 = .ok (.iconst 1, 1) := by decide +kernel
theorem dX9_tokenOf_49 : decode cX9_tokenOf 49 = .ok (.goto 4, 3) := by decide +kernel
theorem dX9_tokenOf_52 : decode cX9_tokenOf 52 = .ok (.iconst 2, 1) := by decide +kernel
theorem dX9_tokenOf_53 : decode cX9_tokenOf 53 = .ok (.ireturn, 1) := by decide +kernel
theorem dX9_tokenOf_54 : decode cX9_tokenOf 54 = .ok (.aload_n 0, 1) := by decide +kernel
theorem dX9_tokenOf_55 : decode cX9_tokenOf 55 = .ok (.getfield 12, 3) := by decide +kernel
theorem dX9_tokenOf_58 : decode cX9_tokenOf 58 = .ok (.getfield 75, 3) := by decide +kernel
theorem dX9_tokenOf_61 : decode cX9_tokenOf 61 = .ok (.iload_n 1, 1) := by decide +kernel
theorem dX9_tokenOf_62 : decode cX9_tokenOf 62 = .ok (.iaload, 1) := by decide +kernel
theorem dX9_tokenOf_63 : decode cX9_tokenOf 63 = .ok (.invokestatic 98, 3) := by decide +kernel
theorem dX9_tokenOf_66 : decode cX9_tokenOf 66 = .ok (.ireturn, 1) := by decide +kernel
theorem dX9_isLetter_0 : decode cX9_isLetter 0 = .ok (.iload_n 0, 1) := by decide +kernel
theorem dX9_isLetter_1 : decode cX9_isLetter 1 = .ok (.bipush 97, 2) := by decide +kernel
theorem dX9_isLetter_3 : decode cX9_isLetter 3 = .ok (.if_icmp .lt 13, 3) := by decide +kernel
theorem dX9_isLetter_6 : decode cX9_isLetter 6 = .ok (.iload_n 0, 1) := by decide +kernel
theorem dX9_isLetter_7 : decode cX9_isLetter 7 = .ok (.bipush 122, 2) := by decide +kernel
theorem dX9_isLetter_9 : decode cX9_isLetter 9 = .ok (.if_icmp .gt 7, 3) := by decide +kernel
theorem dX9_isLetter_12 : decode cX9_isLetter 12 = .ok (.iconst 1, 1) := by decide +kernel
theorem dX9_isLetter_13 : decode cX9_isLetter 13 = .ok (.goto 4, 3) := by decide +kernel
theorem dX9_isLetter_16 : decode cX9_isLetter 16 = .ok (.iconst 0, 1) := by decide +kernel
theorem dX9_isLetter_17 : decode cX9_isLetter 17 = .ok (.ireturn, 1) := by decide +kernel
theorem dX9_isDigit_0 : decode cX9_isDigit 0 = .ok (.iload_n 0, 1) := by decide +kernel
theorem dX9_isDigit_1 : decode cX9_isDigit 1 = .ok (.bipush 48, 2) := by decide +kernel
theorem dX9_isDigit_3 : decode cX9_isDigit 3 = .ok (.if_icmp .lt 13, 3) := by decide +kernel
theorem dX9_isDigit_6 : decode cX9_isDigit 6 = .ok (.iload_n 0, 1) := by decide +kernel
theorem dX9_isDigit_7 : decode cX9_isDigit 7 = .ok (.bipush 57, 2) := by decide +kernel
theorem dX9_isDigit_9 : decode cX9_isDigit 9 = .ok (.if_icmp .gt 7, 3) := by decide +kernel
theorem dX9_isDigit_12 : decode cX9_isDigit 12 = .ok (.iconst 1, 1) := by decide +kernel
theorem dX9_isDigit_13 : decode cX9_isDigit 13 = .ok (.goto 4, 3) := by decide +kernel
theorem dX9_isDigit_16 : decode cX9_isDigit 16 = .ok (.iconst 0, 1) := by decide +kernel
theorem dX9_isDigit_17 : decode cX9_isDigit 17 = .ok (.ireturn, 1) := by decide +kernel
theorem dX9_numberOf_0 : decode cX9_numberOf 0 = .ok (.iconst 0, 1) := by decide +kernel
theorem dX9_numberOf_1 : decode cX9_numberOf 1 = .ok (.istore_n 3, 1) := by decide +kernel
theorem dX9_numberOf_2 : decode cX9_numberOf 2 = .ok (.iload_n 1, 1) := by decide +kernel
theorem dX9_numberOf_3 : decode cX9_numberOf 3 = .ok (.istore 4, 2) := by decide +kernel
theorem dX9_numberOf_5 : decode cX9_numberOf 5 = .ok (.iload 4, 2) := by decide +kernel
theorem dX9_numberOf_7 : decode cX9_numberOf 7 = .ok (.iload_n 2, 1) := by decide +kernel
theorem dX9_numberOf_8 : decode cX9_numberOf 8 = .ok (.if_icmp .ge 33, 3) := by decide +kernel
theorem dX9_numberOf_11 : decode cX9_numberOf 11 = .ok (.iload_n 3, 1) := by decide +kernel
theorem dX9_numberOf_12 : decode cX9_numberOf 12 = .ok (.bipush 10, 2) := by decide +kernel
theorem dX9_numberOf_14 : decode cX9_numberOf 14 = .ok (.imul, 1) := by decide +kernel
theorem dX9_numberOf_15 : decode cX9_numberOf 15 = .ok (.aload_n 0, 1) := by decide +kernel
theorem dX9_numberOf_16 : decode cX9_numberOf 16 = .ok (.getfield 12, 3) := by decide +kernel
theorem dX9_numberOf_19 : decode cX9_numberOf 19 = .ok (.getfield 75, 3) := by decide +kernel
theorem dX9_numberOf_22 : decode cX9_numberOf 22 = .ok (.iload 4, 2) := by decide +kernel
theorem dX9_numberOf_24 : decode cX9_numberOf 24 = .ok (.iaload, 1) := by decide +kernel
theorem dX9_numberOf_25 : decode cX9_numberOf 25 = .ok (.iadd, 1) := by decide +kernel
theorem dX9_numberOf_26 : decode cX9_numberOf 26 = .ok (.bipush 48, 2) := by decide +kernel
theorem dX9_numberOf_28 : decode cX9_numberOf 28 = .ok (.isub, 1) := by decide +kernel
theorem dX9_numberOf_29 : decode cX9_numberOf 29 = .ok (.bipush 100, 2) := by decide +kernel
theorem dX9_numberOf_31 : decode cX9_numberOf 31 = .ok (.invokestatic 101, 3) := by decide +kernel
theorem dX9_numberOf_34 : decode cX9_numberOf 34 = .ok (.istore_n 3, 1) := by decide +kernel
theorem dX9_numberOf_35 : decode cX9_numberOf 35 = .ok (.iinc 4 1, 3) := by decide +kernel
theorem dX9_numberOf_38 : decode cX9_numberOf 38 = .ok (.goto (-33), 3) := by decide +kernel
theorem dX9_numberOf_41 : decode cX9_numberOf 41 = .ok (.iload_n 3, 1) := by decide +kernel
theorem dX9_numberOf_42 : decode cX9_numberOf 42 = .ok (.ireturn, 1) := by decide +kernel
theorem dX9_signToken_0 : decode cX9_signToken 0 = .ok (.iload_n 0, 1) := by decide +kernel
theorem dX9_signToken_1 : decode cX9_signToken 1 = .ok (.lookupswitch 52 #[(40, 43), (41, 45), (91, 47), (93, 49)], 43) := by decide +kernel
theorem dX9_signToken_44 : decode cX9_signToken 44 = .ok (.iconst 3, 1) := by decide +kernel
theorem dX9_signToken_45 : decode cX9_signToken 45 = .ok (.ireturn, 1) := by decide +kernel
theorem dX9_signToken_46 : decode cX9_signToken 46 = .ok (.iconst 4, 1) := by decide +kernel
theorem dX9_signToken_47 : decode cX9_signToken 47 = .ok (.ireturn, 1) := by decide +kernel
theorem dX9_signToken_48 : decode cX9_signToken 48 = .ok (.iconst 5, 1) := by decide +kernel
theorem dX9_signToken_49 : decode cX9_signToken 49 = .ok (.ireturn, 1) := by decide +kernel
theorem dX9_signToken_50 : decode cX9_signToken 50 = .ok (.bipush 6, 2) := by decide +kernel
theorem dX9_signToken_52 : decode cX9_signToken 52 = .ok (.ireturn, 1) := by decide +kernel
theorem dX9_signToken_53 : decode cX9_signToken 53 = .ok (.iconst 1, 1) := by decide +kernel
theorem dX9_signToken_54 : decode cX9_signToken 54 = .ok (.ireturn, 1) := by decide +kernel
theorem dX9_wordToken_0 : decode cX9_wordToken 0 = .ok (.aload_n 0, 1) := by decide +kernel
theorem dX9_wordToken_1 : decode cX9_wordToken 1 = .ok (.ldc 106, 2) := by decide +kernel
theorem dX9_wordToken_3 : decode cX9_wordToken 3 = .ok (.iload_n 1, 1) := by decide +kernel
theorem dX9_wordToken_4 : decode cX9_wordToken 4 = .ok (.iload_n 2, 1) := by decide +kernel
theorem dX9_wordToken_5 : decode cX9_wordToken 5 = .ok (.invokevirtual 108, 3) := by decide +kernel
theorem dX9_wordToken_8 : decode cX9_wordToken 8 = .ok (.ifCond .eq 6, 3) := by decide +kernel
theorem dX9_wordToken_11 : decode cX9_wordToken 11 = .ok (.bipush 7, 2) := by decide +kernel
theorem dX9_wordToken_13 : decode cX9_wordToken 13 = .ok (.ireturn, 1) := by decide +kernel
theorem dX9_wordToken_14 : decode cX9_wordToken 14 = .ok (.aload_n 0, 1) := by decide +kernel
theorem dX9_wordToken_15 : decode cX9_wordToken 15 = .ok (.ldc 112, 2) := by decide +kernel
theorem dX9_wordToken_17 : decode cX9_wordToken 17 = .ok (.iload_n 1, 1) := by decide +kernel
theorem dX9_wordToken_18 : decode cX9_wordToken 18 = .ok (.iload_n 2, 1) := by decide +kernel
theorem dX9_wordToken_19 : decode cX9_wordToken 19 = .ok (.invokevirtual 108, 3) := by decide +kernel
theorem dX9_wordToken_22 : decode cX9_wordToken 22 = .ok (.ifCond .eq 6, 3) := by decide +kernel
theorem dX9_wordToken_25 : decode cX9_wordToken 25 = .ok (.bipush 8, 2) := by decide +kernel
theorem dX9_wordToken_27 : decode cX9_wordToken 27 = .ok (.ireturn, 1) := by decide +kernel
theorem dX9_wordToken_28 : decode cX9_wordToken 28 = .ok (.aload_n 0, 1) := by decide +kernel
theorem dX9_wordToken_29 : decode cX9_wordToken 29 = .ok (.ldc 114, 2) := by decide +kernel
theorem dX9_wordToken_31 : decode cX9_wordToken 31 = .ok (.iload_n 1, 1) := by decide +kernel
theorem dX9_wordToken_32 : decode cX9_wordToken 32 = .ok (.iload_n 2, 1) := by decide +kernel
theorem dX9_wordToken_33 : decode cX9_wordToken 33 = .ok (.invokevirtual 108, 3) := by decide +kernel
theorem dX9_wordToken_36 : decode cX9_wordToken 36 = .ok (.ifCond .eq 6, 3) := by decide +kernel
theorem dX9_wordToken_39 : decode cX9_wordToken 39 = .ok (.bipush 9, 2) := by decide +kernel
theorem dX9_wordToken_41 : decode cX9_wordToken 41 = .ok (.ireturn, 1) := by decide +kernel
theorem dX9_wordToken_42 : decode cX9_wordToken 42 = .ok (.aload_n 0, 1) := by decide +kernel
theorem dX9_wordToken_43 : decode cX9_wordToken 43 = .ok (.ldc 116, 2) := by decide +kernel
theorem dX9_wordToken_45 : decode cX9_wordToken 45 = .ok (.iload_n 1, 1) := by decide +kernel
theorem dX9_wordToken_46 : decode cX9_wordToken 46 = .ok (.iload_n 2, 1) := by decide +kernel
theorem dX9_wordToken_47 : decode cX9_wordToken 47 = .ok (.invokevirtual 108, 3) := by decide +kernel
theorem dX9_wordToken_50 : decode cX9_wordToken 50 = .ok (.ifCond .eq 6, 3) := by decide +kernel
theorem dX9_wordToken_53 : decode cX9_wordToken 53 = .ok (.bipush 10, 2) := by decide +kernel
theorem dX9_wordToken_55 : decode cX9_wordToken 55 = .ok (.ireturn, 1) := by decide +kernel
theorem dX9_wordToken_56 : decode cX9_wordToken 56 = .ok (.aload_n 0, 1) := by decide +kernel
theorem dX9_wordToken_57 : decode cX9_wordToken 57 = .ok (.ldc 118, 2) := by decide +kernel
theorem dX9_wordToken_59 : decode cX9_wordToken 59 = .ok (.iload_n 1, 1) := by decide +kernel
theorem dX9_wordToken_60 : decode cX9_wordToken 60 = .ok (.iload_n 2, 1) := by decide +kernel
theorem dX9_wordToken_61 : decode cX9_wordToken 61 = .ok (.invokevirtual 108, 3) := by decide +kernel
theorem dX9_wordToken_64 : decode cX9_wordToken 64 = .ok (.ifCond .eq 6, 3) := by decide +kernel
theorem dX9_wordToken_67 : decode cX9_wordToken 67 = .ok (.bipush 11, 2) := by decide +kernel
theorem dX9_wordToken_69 : decode cX9_wordToken 69 = .ok (.ireturn, 1) := by decide +kernel
theorem dX9_wordToken_70 : decode cX9_wordToken 70 = .ok (.aload_n 0, 1) := by decide +kernel
theorem dX9_wordToken_71 : decode cX9_wordToken 71 = .ok (.ldc 120, 2) := by decide +kernel
theorem dX9_wordToken_73 : decode cX9_wordToken 73 = .ok (.iload_n 1, 1) := by decide +kernel
theorem dX9_wordToken_74 : decode cX9_wordToken 74 = .ok (.iload_n 2, 1) := by decide +kernel
theorem dX9_wordToken_75 : decode cX9_wordToken 75 = .ok (.invokevirtual 108, 3) := by decide +kernel
theorem dX9_wordToken_78 : decode cX9_wordToken 78 = .ok (.ifCond .eq 6, 3) := by decide +kernel
theorem dX9_wordToken_81 : decode cX9_wordToken 81 = .ok (.bipush 12, 2) := by decide +kernel
theorem dX9_wordToken_83 : decode cX9_wordToken 83 = .ok (.ireturn, 1) := by decide +kernel
theorem dX9_wordToken_84 : decode cX9_wordToken 84 = .ok (.aload_n 0, 1) := by decide +kernel
theorem dX9_wordToken_85 : decode cX9_wordToken 85 = .ok (.ldc 122, 2) := by decide +kernel
theorem dX9_wordToken_87 : decode cX9_wordToken 87 = .ok (.iload_n 1, 1) := by decide +kernel
theorem dX9_wordToken_88 : decode cX9_wordToken 88 = .ok (.iload_n 2, 1) := by decide +kernel
theorem dX9_wordToken_89 : decode cX9_wordToken 89 = .ok (.invokevirtual 108, 3) := by decide +kernel
theorem dX9_wordToken_92 : decode cX9_wordToken 92 = .ok (.ifCond .eq 6, 3) := by decide +kernel
theorem dX9_wordToken_95 : decode cX9_wordToken 95 = .ok (.bipush 13, 2) := by decide +kernel
theorem dX9_wordToken_97 : decode cX9_wordToken 97 = .ok (.ireturn, 1) := by decide +kernel
theorem dX9_wordToken_98 : decode cX9_wordToken 98 = .ok (.aload_n 0, 1) := by decide +kernel
theorem dX9_wordToken_99 : decode cX9_wordToken 99 = .ok (.ldc 124, 2) := by decide +kernel
theorem dX9_wordToken_101 : decode cX9_wordToken 101 = .ok (.iload_n 1, 1) := by decide +kernel
theorem dX9_wordToken_102 : decode cX9_wordToken 102 = .ok (.iload_n 2, 1) := by decide +kernel
theorem dX9_wordToken_103 : decode cX9_wordToken 103 = .ok (.invokevirtual 108, 3) := by decide +kernel
theorem dX9_wordToken_106 : decode cX9_wordToken 106 = .ok (.ifCond .eq 6, 3) := by decide +kernel
theorem dX9_wordToken_109 : decode cX9_wordToken 109 = .ok (.bipush 14, 2) := by decide +kernel
theorem dX9_wordToken_111 : decode cX9_wordToken 111 = .ok (.ireturn, 1) := by decide +kernel
theorem dX9_wordToken_112 : decode cX9_wordToken 112 = .ok (.aload_n 0, 1) := by decide +kernel
theorem dX9_wordToken_113 : decode cX9_wordToken 113 = .ok (.ldc 126, 2) := by decide +kernel
theorem dX9_wordToken_115 : decode cX9_wordToken 115 = .ok (.iload_n 1, 1) := by decide +kernel
theorem dX9_wordToken_116 : decode cX9_wordToken 116 = .ok (.iload_n 2, 1) := by decide +kernel
theorem dX9_wordToken_117 : decode cX9_wordToken 117 = .ok (.invokevirtual 108, 3) := by decide +kernel
theorem dX9_wordToken_120 : decode cX9_wordToken 120 = .ok (.ifCond .eq 6, 3) := by decide +kernel
theorem dX9_wordToken_123 : decode cX9_wordToken 123 = .ok (.bipush 15, 2) := by decide +kernel
theorem dX9_wordToken_125 : decode cX9_wordToken 125 = .ok (.ireturn, 1) := by decide +kernel
theorem dX9_wordToken_126 : decode cX9_wordToken 126 = .ok (.aload_n 0, 1) := by decide +kernel
theorem dX9_wordToken_127 : decode cX9_wordToken 127 = .ok (.ldc 128, 2) := by decide +kernel
theorem dX9_wordToken_129 : decode cX9_wordToken 129 = .ok (.iload_n 1, 1) := by decide +kernel
theorem dX9_wordToken_130 : decode cX9_wordToken 130 = .ok (.iload_n 2, 1) := by decide +kernel
theorem dX9_wordToken_131 : decode cX9_wordToken 131 = .ok (.invokevirtual 108, 3) := by decide +kernel
theorem dX9_wordToken_134 : decode cX9_wordToken 134 = .ok (.ifCond .eq 6, 3) := by decide +kernel
theorem dX9_wordToken_137 : decode cX9_wordToken 137 = .ok (.bipush 16, 2) := by decide +kernel
theorem dX9_wordToken_139 : decode cX9_wordToken 139 = .ok (.ireturn, 1) := by decide +kernel
theorem dX9_wordToken_140 : decode cX9_wordToken 140 = .ok (.aload_n 0, 1) := by decide +kernel
theorem dX9_wordToken_141 : decode cX9_wordToken 141 = .ok (.ldc 130, 2) := by decide +kernel
theorem dX9_wordToken_143 : decode cX9_wordToken 143 = .ok (.iload_n 1, 1) := by decide +kernel
theorem dX9_wordToken_144 : decode cX9_wordToken 144 = .ok (.iload_n 2, 1) := by decide +kernel
theorem dX9_wordToken_145 : decode cX9_wordToken 145 = .ok (.invokevirtual 108, 3) := by decide +kernel
theorem dX9_wordToken_148 : decode cX9_wordToken 148 = .ok (.ifCond .eq 8, 3) := by decide +kernel
theorem dX9_wordToken_151 : decode cX9_wordToken 151 = .ok (.bipush 17, 2) := by decide +kernel
theorem dX9_wordToken_153 : decode cX9_wordToken 153 = .ok (.goto 4, 3) := by decide +kernel
theorem dX9_wordToken_156 : decode cX9_wordToken 156 = .ok (.iconst 1, 1) := by decide +kernel
theorem dX9_wordToken_157 : decode cX9_wordToken 157 = .ok (.ireturn, 1) := by decide +kernel
theorem dX9_spells_0 : decode cX9_spells 0 = .ok (.iload_n 3, 1) := by decide +kernel
theorem dX9_spells_1 : decode cX9_spells 1 = .ok (.iload_n 2, 1) := by decide +kernel
theorem dX9_spells_2 : decode cX9_spells 2 = .ok (.isub, 1) := by decide +kernel
theorem dX9_spells_3 : decode cX9_spells 3 = .ok (.aload_n 1, 1) := by decide +kernel
theorem dX9_spells_4 : decode cX9_spells 4 = .ok (.invokevirtual 132, 3) := by decide +kernel
theorem dX9_spells_7 : decode cX9_spells 7 = .ok (.if_icmp .eq 5, 3) := by decide +kernel
theorem dX9_spells_10 : decode cX9_spells 10 = .ok (.iconst 0, 1) := by decide +kernel
theorem dX9_spells_11 : decode cX9_spells 11 = .ok (.ireturn, 1) := by decide +kernel
theorem dX9_spells_12 : decode cX9_spells 12 = .ok (.iconst 0, 1) := by decide +kernel
theorem dX9_spells_13 : decode cX9_spells 13 = .ok (.istore 4, 2) := by decide +kernel
theorem dX9_spells_15 : decode cX9_spells 15 = .ok (.iload 4, 2) := by decide +kernel
theorem dX9_spells_17 : decode cX9_spells 17 = .ok (.aload_n 1, 1) := by decide +kernel
theorem dX9_spells_18 : decode cX9_spells 18 = .ok (.invokevirtual 132, 3) := by decide +kernel
theorem dX9_spells_21 : decode cX9_spells 21 = .ok (.if_icmp .ge 32, 3) := by decide +kernel
theorem dX9_spells_24 : decode cX9_spells 24 = .ok (.aload_n 0, 1) := by decide +kernel
theorem dX9_spells_25 : decode cX9_spells 25 = .ok (.getfield 12, 3) := by decide +kernel
theorem dX9_spells_28 : decode cX9_spells 28 = .ok (.getfield 75, 3) := by decide +kernel
theorem dX9_spells_31 : decode cX9_spells 31 = .ok (.iload_n 2, 1) := by decide +kernel
theorem dX9_spells_32 : decode cX9_spells 32 = .ok (.iload 4, 2) := by decide +kernel
theorem dX9_spells_34 : decode cX9_spells 34 = .ok (.iadd, 1) := by decide +kernel
theorem dX9_spells_35 : decode cX9_spells 35 = .ok (.iaload, 1) := by decide +kernel
theorem dX9_spells_36 : decode cX9_spells 36 = .ok (.aload_n 1, 1) := by decide +kernel
theorem dX9_spells_37 : decode cX9_spells 37 = .ok (.iload 4, 2) := by decide +kernel
theorem dX9_spells_39 : decode cX9_spells 39 = .ok (.invokevirtual 137, 3) := by decide +kernel
theorem dX9_spells_42 : decode cX9_spells 42 = .ok (.if_icmp .eq 5, 3) := by decide +kernel
theorem dX9_spells_45 : decode cX9_spells 45 = .ok (.iconst 0, 1) := by decide +kernel
theorem dX9_spells_46 : decode cX9_spells 46 = .ok (.ireturn, 1) := by decide +kernel
theorem dX9_spells_47 : decode cX9_spells 47 = .ok (.iinc 4 1, 3) := by decide +kernel
theorem dX9_spells_50 : decode cX9_spells 50 = .ok (.goto (-35), 3) := by decide +kernel
theorem dX9_spells_53 : decode cX9_spells 53 = .ok (.iconst 1, 1) := by decide +kernel
theorem dX9_spells_54 : decode cX9_spells 54 = .ok (.ireturn, 1) := by decide +kernel
theorem dX10_init_0 : decode cX10_init 0 = .ok (.aload_n 0, 1) := by decide +kernel
theorem dX10_init_1 : decode cX10_init 1 = .ok (.invokespecial 3, 3) := by decide +kernel
theorem dX10_init_4 : decode cX10_init 4 = .ok (.aload_n 0, 1) := by decide +kernel
theorem dX10_init_5 : decode cX10_init 5 = .ok (.iconst (-1), 1) := by decide +kernel
theorem dX10_init_6 : decode cX10_init 6 = .ok (.putfield 9, 3) := by decide +kernel
theorem dX10_init_9 : decode cX10_init 9 = .ok (.aload_n 0, 1) := by decide +kernel
theorem dX10_init_10 : decode cX10_init 10 = .ok (.bipush 8, 2) := by decide +kernel
theorem dX10_init_12 : decode cX10_init 12 = .ok (.newarray .int, 2) := by decide +kernel
theorem dX10_init_14 : decode cX10_init 14 = .ok (.putfield 15, 3) := by decide +kernel
theorem dX10_init_17 : decode cX10_init 17 = .ok (.aload_n 0, 1) := by decide +kernel
theorem dX10_init_18 : decode cX10_init 18 = .ok (.bipush 8, 2) := by decide +kernel
theorem dX10_init_20 : decode cX10_init 20 = .ok (.bipush 120, 2) := by decide +kernel
theorem dX10_init_22 : decode cX10_init 22 = .ok (.multianewarray 19 2, 4) := by decide +kernel
theorem dX10_init_26 : decode cX10_init 26 = .ok (.putfield 21, 3) := by decide +kernel
theorem dX10_init_29 : decode cX10_init 29 = .ok (.return_, 1) := by decide +kernel
theorem dX10_step_0 : decode cX10_step 0 = .ok (.iload_n 0, 1) := by decide +kernel
theorem dX10_step_1 : decode cX10_step 1 = .ok (.iload_n 1, 1) := by decide +kernel
theorem dX10_step_2 : decode cX10_step 2 = .ok (.iconst 3, 1) := by decide +kernel
theorem dX10_step_3 : decode cX10_step 3 = .ok (.ishl, 1) := by decide +kernel
theorem dX10_step_4 : decode cX10_step 4 = .ok (.ior, 1) := by decide +kernel
theorem dX10_step_5 : decode cX10_step 5 = .ok (.iload_n 2, 1) := by decide +kernel
theorem dX10_step_6 : decode cX10_step 6 = .ok (.bipush 10, 2) := by decide +kernel
theorem dX10_step_8 : decode cX10_step 8 = .ok (.ishl, 1) := by decide +kernel
theorem dX10_step_9 : decode cX10_step 9 = .ok (.ior, 1) := by decide +kernel
theorem dX10_step_10 : decode cX10_step 10 = .ok (.ireturn, 1) := by decide +kernel
theorem dX10_has_0 : decode cX10_has 0 = .ok (.iload_n 1, 1) := by decide +kernel
theorem dX10_has_1 : decode cX10_has 1 = .ok (.ifCond .lt 15, 3) := by decide +kernel
theorem dX10_has_4 : decode cX10_has 4 = .ok (.iload_n 1, 1) := by decide +kernel
theorem dX10_has_5 : decode cX10_has 5 = .ok (.aload_n 0, 1) := by decide +kernel
theorem dX10_has_6 : decode cX10_has 6 = .ok (.getfield 24, 3) := by decide +kernel
theorem dX10_has_9 : decode cX10_has 9 = .ok (.if_icmp .ge 7, 3) := by decide +kernel
theorem dX10_has_12 : decode cX10_has 12 = .ok (.iconst 1, 1) := by decide +kernel
theorem dX10_has_13 : decode cX10_has 13 = .ok (.goto 4, 3) := by decide +kernel
theorem dX10_has_16 : decode cX10_has 16 = .ok (.iconst 0, 1) := by decide +kernel
theorem dX10_has_17 : decode cX10_has 17 = .ok (.ireturn, 1) := by decide +kernel
theorem dX10_add_0 : decode cX10_add 0 = .ok (.aload_n 1, 1) := by decide +kernel
theorem dX10_add_1 : decode cX10_add 1 = .ok (.iconst 0, 1) := by decide +kernel
theorem dX10_add_2 : decode cX10_add 2 = .ok (.aload_n 0, 1) := by decide +kernel
theorem dX10_add_3 : decode cX10_add 3 = .ok (.getfield 21, 3) := by decide +kernel
theorem dX10_add_6 : decode cX10_add 6 = .ok (.aload_n 0, 1) := by decide +kernel
theorem dX10_add_7 : decode cX10_add 7 = .ok (.getfield 24, 3) := by decide +kernel
theorem dX10_add_10 : decode cX10_add 10 = .ok (.aaload, 1) := by decide +kernel
theorem dX10_add_11 : decode cX10_add 11 = .ok (.iconst 0, 1) := by decide +kernel
theorem dX10_add_12 : decode cX10_add 12 = .ok (.iload_n 2, 1) := by decide +kernel
theorem dX10_add_13 : decode cX10_add 13 = .ok (.invokestatic 27, 3) := by decide +kernel
theorem dX10_add_16 : decode cX10_add 16 = .ok (.aload_n 0, 1) := by decide +kernel
theorem dX10_add_17 : decode cX10_add 17 = .ok (.getfield 15, 3) := by decide +kernel
theorem dX10_add_20 : decode cX10_add 20 = .ok (.aload_n 0, 1) := by decide +kernel
theorem dX10_add_21 : decode cX10_add 21 = .ok (.getfield 24, 3) := by decide +kernel
theorem dX10_add_24 : decode cX10_add 24 = .ok (.iload_n 2, 1) := by decide +kernel
theorem dX10_add_25 : decode cX10_add 25 = .ok (.iastore, 1) := by decide +kernel
theorem dX10_add_26 : decode cX10_add 26 = .ok (.aload_n 0, 1) := by decide +kernel
theorem dX10_add_27 : decode cX10_add 27 = .ok (.getfield 9, 3) := by decide +kernel
theorem dX10_add_30 : decode cX10_add 30 = .ok (.ifCond .ge 11, 3) := by decide +kernel
theorem dX10_add_33 : decode cX10_add 33 = .ok (.aload_n 0, 1) := by decide +kernel
theorem dX10_add_34 : decode cX10_add 34 = .ok (.aload_n 0, 1) := by decide +kernel
theorem dX10_add_35 : decode cX10_add 35 = .ok (.getfield 24, 3) := by decide +kernel
theorem dX10_add_38 : decode cX10_add 38 = .ok (.putfield 9, 3) := by decide +kernel
theorem dX10_add_41 : decode cX10_add 41 = .ok (.aload_n 0, 1) := by decide +kernel
theorem dX10_add_42 : decode cX10_add 42 = .ok (.dup, 1) := by decide +kernel
theorem dX10_add_43 : decode cX10_add 43 = .ok (.getfield 33, 3) := by decide +kernel
theorem dX10_add_46 : decode cX10_add 46 = .ok (.iconst 1, 1) := by decide +kernel
theorem dX10_add_47 : decode cX10_add 47 = .ok (.iadd, 1) := by decide +kernel
theorem dX10_add_48 : decode cX10_add 48 = .ok (.putfield 33, 3) := by decide +kernel
theorem dX10_add_51 : decode cX10_add 51 = .ok (.aload_n 0, 1) := by decide +kernel
theorem dX10_add_52 : decode cX10_add 52 = .ok (.dup, 1) := by decide +kernel
theorem dX10_add_53 : decode cX10_add 53 = .ok (.getfield 24, 3) := by decide +kernel
theorem dX10_add_56 : decode cX10_add 56 = .ok (.dup_x1, 1) := by decide +kernel
theorem dX10_add_57 : decode cX10_add 57 = .ok (.iconst 1, 1) := by decide +kernel
theorem dX10_add_58 : decode cX10_add 58 = .ok (.iadd, 1) := by decide +kernel
theorem dX10_add_59 : decode cX10_add 59 = .ok (.putfield 24, 3) := by decide +kernel
theorem dX10_add_62 : decode cX10_add 62 = .ok (.ireturn, 1) := by decide +kernel
theorem dX10_setUsed_0 : decode cX10_setUsed 0 = .ok (.aload_n 0, 1) := by decide +kernel
theorem dX10_setUsed_1 : decode cX10_setUsed 1 = .ok (.getfield 9, 3) := by decide +kernel
theorem dX10_setUsed_4 : decode cX10_setUsed 4 = .ok (.istore_n 2, 1) := by decide +kernel
theorem dX10_setUsed_5 : decode cX10_setUsed 5 = .ok (.aload_n 0, 1) := by decide +kernel
theorem dX10_setUsed_6 : decode cX10_setUsed 6 = .ok (.iload_n 1, 1) := by decide +kernel
theorem dX10_setUsed_7 : decode cX10_setUsed 7 = .ok (.putfield 9, 3) := by decide +kernel
theorem dX10_setUsed_10 : decode cX10_setUsed 10 = .ok (.aload_n 0, 1) := by decide +kernel
theorem dX10_setUsed_11 : decode cX10_setUsed 11 = .ok (.dup, 1) := by decide +kernel
theorem dX10_setUsed_12 : decode cX10_setUsed 12 = .ok (.getfield 33, 3) := by decide +kernel
theorem dX10_setUsed_15 : decode cX10_setUsed 15 = .ok (.iconst 1, 1) := by decide +kernel
theorem dX10_setUsed_16 : decode cX10_setUsed 16 = .ok (.iadd, 1) := by decide +kernel
theorem dX10_setUsed_17 : decode cX10_setUsed 17 = .ok (.putfield 33, 3) := by decide +kernel
theorem dX10_setUsed_20 : decode cX10_setUsed 20 = .ok (.iload_n 2, 1) := by decide +kernel
theorem dX10_setUsed_21 : decode cX10_setUsed 21 = .ok (.ireturn, 1) := by decide +kernel
theorem dX10_allow_0 : decode cX10_allow 0 = .ok (.aload_n 3, 1) := by decide +kernel
theorem dX10_allow_1 : decode cX10_allow 1 = .ok (.invokevirtual 36, 3) := by decide +kernel
theorem dX10_allow_4 : decode cX10_allow 4 = .ok (.istore 4, 2) := by decide +kernel
theorem dX10_allow_6 : decode cX10_allow 6 = .ok (.iconst 0, 1) := by decide +kernel
theorem dX10_allow_7 : decode cX10_allow 7 = .ok (.istore 5, 2) := by decide +kernel
theorem dX10_allow_9 : decode cX10_allow 9 = .ok (.iconst 0, 1) := by decide +kernel
theorem dX10_allow_10 : decode cX10_allow 10 = .ok (.istore 6, 2) := by decide +kernel
theorem dX10_allow_12 : decode cX10_allow 12 = .ok (.iload 6, 2) := by decide +kernel
theorem dX10_allow_14 : decode cX10_allow 14 = .ok (.aload_n 0, 1) := by decide +kernel
theorem dX10_allow_15 : decode cX10_allow 15 = .ok (.getfield 15, 3) := by decide +kernel
theorem dX10_allow_18 : decode cX10_allow 18 = .ok (.iload_n 1, 1) := by decide +kernel
theorem dX10_allow_19 : decode cX10_allow 19 = .ok (.iaload, 1) := by decide +kernel
theorem dX10_allow_20 : decode cX10_allow 20 = .ok (.if_icmp .ge 157, 3) := by decide +kernel
theorem dX10_allow_23 : decode cX10_allow 23 = .ok (.aload_n 0, 1) := by decide +kernel
theorem dX10_allow_24 : decode cX10_allow 24 = .ok (.getfield 21, 3) := by decide +kernel
theorem dX10_allow_27 : decode cX10_allow 27 = .ok (.iload_n 1, 1) := by decide +kernel
theorem dX10_allow_28 : decode cX10_allow 28 = .ok (.aaload, 1) := by decide +kernel
theorem dX10_allow_29 : decode cX10_allow 29 = .ok (.iload 6, 2) := by decide +kernel
theorem dX10_allow_31 : decode cX10_allow 31 = .ok (.iaload, 1) := by decide +kernel
theorem dX10_allow_32 : decode cX10_allow 32 = .ok (.istore 7, 2) := by decide +kernel
theorem dX10_allow_34 : decode cX10_allow 34 = .ok (.iload 7, 2) := by decide +kernel
theorem dX10_allow_36 : decode cX10_allow 36 = .ok (.bipush 7, 2) := by decide +kernel
theorem dX10_allow_38 : decode cX10_allow 38 = .ok (.iand, 1) := by decide +kernel
theorem dX10_allow_39 : decode cX10_allow 39 = .ok (.istore 8, 2) := by decide +kernel
theorem dX10_allow_41 : decode cX10_allow 41 = .ok (.iload 5, 2) := by decide +kernel
theorem dX10_allow_43 : decode cX10_allow 43 = .ok (.iconst 1, 1) := by decide +kernel
theorem dX10_allow_44 : decode cX10_allow 44 = .ok (.iand, 1) := by decide +kernel
theorem dX10_allow_45 : decode cX10_allow 45 = .ok (.istore 9, 2) := by decide +kernel
theorem dX10_allow_47 : decode cX10_allow 47 = .ok (.iload 8, 2) := by decide +kernel
theorem dX10_allow_49 : decode cX10_allow 49 = .ok (.iconst 4, 1) := by decide +kernel
theorem dX10_allow_50 : decode cX10_allow 50 = .ok (.if_icmp .ne 12, 3) := by decide +kernel
theorem dX10_allow_53 : decode cX10_allow 53 = .ok (.iload 5, 2) := by decide +kernel
theorem dX10_allow_55 : decode cX10_allow 55 = .ok (.iconst 1, 1) := by decide +kernel
theorem dX10_allow_56 : decode cX10_allow 56 = .ok (.ixor, 1) := by decide +kernel
theorem dX10_allow_57 : decode cX10_allow 57 = .ok (.istore 5, 2) := by decide +kernel
theorem dX10_allow_59 : decode cX10_allow 59 = .ok (.goto 112, 3) := by decide +kernel
theorem dX10_allow_62 : decode cX10_allow 62 = .ok (.iload 8, 2) := by decide +kernel
theorem dX10_allow_64 : decode cX10_allow 64 = .ok (.iconst 5, 1) := by decide +kernel
theorem dX10_allow_65 : decode cX10_allow 65 = .ok (.if_icmp .ne 18, 3) := by decide +kernel
theorem dX10_allow_68 : decode cX10_allow 68 = .ok (.iload 5, 2) := by decide +kernel
theorem dX10_allow_70 : decode cX10_allow 70 = .ok (.iconst 1, 1) := by decide +kernel
theorem dX10_allow_71 : decode cX10_allow 71 = .ok (.iushr, 1) := by decide +kernel
theorem dX10_allow_72 : decode cX10_allow 72 = .ok (.iload 9, 2) := by decide +kernel
theorem dX10_allow_74 : decode cX10_allow 74 = .ok (.bipush (-2), 2) := by decide +kernel
theorem dX10_allow_76 : decode cX10_allow 76 = .ok (.ior, 1) := by decide +kernel
theorem dX10_allow_77 : decode cX10_allow 77 = .ok (.iand, 1) := by decide +kernel
theorem dX10_allow_78 : decode cX10_allow 78 = .ok (.istore 5, 2) := by decide +kernel
theorem dX10_allow_80 : decode cX10_allow 80 = .ok (.goto 91, 3) := by decide +kernel
theorem dX10_allow_83 : decode cX10_allow 83 = .ok (.iload 8, 2) := by decide +kernel
theorem dX10_allow_85 : decode cX10_allow 85 = .ok (.bipush 6, 2) := by decide +kernel
theorem dX10_allow_87 : decode cX10_allow 87 = .ok (.if_icmp .ne 15, 3) := by decide +kernel
theorem dX10_allow_90 : decode cX10_allow 90 = .ok (.iload 5, 2) := by decide +kernel
theorem dX10_allow_92 : decode cX10_allow 92 = .ok (.iconst 1, 1) := by decide +kernel
theorem dX10_allow_93 : decode cX10_allow 93 = .ok (.iushr, 1) := by decide +kernel
theorem dX10_allow_94 : decode cX10_allow 94 = .ok (.iload 9, 2) := by decide +kernel
theorem dX10_allow_96 : decode cX10_allow 96 = .ok (.ior, 1) := by decide +kernel
theorem dX10_allow_97 : decode cX10_allow 97 = .ok (.istore 5, 2) := by decide +kernel
theorem dX10_allow_99 : decode cX10_allow 99 = .ok (.goto 72, 3) := by decide +kernel
theorem dX10_allow_102 : decode cX10_allow 102 = .ok (.iload 8, 2) := by decide +kernel
theorem dX10_allow_104 : decode cX10_allow 104 = .ok (.iconst 3, 1) := by decide +kernel
theorem dX10_allow_105 : decode cX10_allow 105 = .ok (.if_icmp .ne 26, 3) := by decide +kernel
theorem dX10_allow_108 : decode cX10_allow 108 = .ok (.aload_n 3, 1) := by decide +kernel
theorem dX10_allow_109 : decode cX10_allow 109 = .ok (.iload_n 2, 1) := by decide +kernel
theorem dX10_allow_110 : decode cX10_allow 110 = .ok (.invokevirtual 42, 3) := by decide +kernel
theorem dX10_allow_113 : decode cX10_allow 113 = .ok (.iload 7, 2) := by decide +kernel
theorem dX10_allow_115 : decode cX10_allow 115 = .ok (.iconst 3, 1) := by decide +kernel
theorem dX10_allow_116 : decode cX10_allow 116 = .ok (.ishr, 1) := by decide +kernel
theorem dX10_allow_117 : decode cX10_allow 117 = .ok (.bipush 127, 2) := by decide +kernel
theorem dX10_allow_119 : decode cX10_allow 119 = .ok (.iand, 1) := by decide +kernel
theorem dX10_allow_120 : decode cX10_allow 120 = .ok (.if_icmp .lt 7, 3) := by decide +kernel
theorem dX10_allow_123 : decode cX10_allow 123 = .ok (.iconst 1, 1) := by decide +kernel
theorem dX10_allow_124 : decode cX10_allow 124 = .ok (.goto 28, 3) := by decide +kernel
theorem dX10_allow_127 : decode cX10_allow 127 = .ok (.iconst 0, 1) := by decide +kernel
theorem dX10_allow_128 : decode cX10_allow 128 = .ok (.goto 24, 3) := by decide +kernel
theorem dX10_allow_131 : decode cX10_allow 131 = .ok (.iload 8, 2) := by decide +kernel
theorem dX10_allow_133 : decode cX10_allow 133 = .ok (.iload 7, 2) := by decide +kernel
theorem dX10_allow_135 : decode cX10_allow 135 = .ok (.iconst 3, 1) := by decide +kernel
theorem dX10_allow_136 : decode cX10_allow 136 = .ok (.ishr, 1) := by decide +kernel
theorem dX10_allow_137 : decode cX10_allow 137 = .ok (.bipush 127, 2) := by decide +kernel
theorem dX10_allow_139 : decode cX10_allow 139 = .ok (.iand, 1) := by decide +kernel
theorem dX10_allow_140 : decode cX10_allow 140 = .ok (.iload_n 2, 1) := by decide +kernel
theorem dX10_allow_141 : decode cX10_allow 141 = .ok (.iload 7, 2) := by decide +kernel
theorem dX10_allow_143 : decode cX10_allow 143 = .ok (.bipush 10, 2) := by decide +kernel
theorem dX10_allow_145 : decode cX10_allow 145 = .ok (.ishr, 1) := by decide +kernel
theorem dX10_allow_146 : decode cX10_allow 146 = .ok (.iload 4, 2) := by decide +kernel
theorem dX10_allow_148 : decode cX10_allow 148 = .ok (.iand, 1) := by decide +kernel
theorem dX10_allow_149 : decode cX10_allow 149 = .ok (.invokestatic 46, 3) := by decide +kernel
theorem dX10_allow_152 : decode cX10_allow 152 = .ok (.istore 10, 2) := by decide +kernel
theorem dX10_allow_154 : decode cX10_allow 154 = .ok (.iload 5, 2) := by decide +kernel
theorem dX10_allow_156 : decode cX10_allow 156 = .ok (.iconst 1, 1) := by decide +kernel
theorem dX10_allow_157 : decode cX10_allow 157 = .ok (.ishl, 1) := by decide +kernel
theorem dX10_allow_158 : decode cX10_allow 158 = .ok (.iload 10, 2) := by decide +kernel
theorem dX10_allow_160 : decode cX10_allow 160 = .ok (.ifCond .eq 7, 3) := by decide +kernel
theorem dX10_allow_163 : decode cX10_allow 163 = .ok (.iconst 1, 1) := by decide +kernel
theorem dX10_allow_164 : decode cX10_allow 164 = .ok (.goto 4, 3) := by decide +kernel
theorem dX10_allow_167 : decode cX10_allow 167 = .ok (.iconst 0, 1) := by decide +kernel
theorem dX10_allow_168 : decode cX10_allow 168 = .ok (.ior, 1) := by decide +kernel
theorem dX10_allow_169 : decode cX10_allow 169 = .ok (.istore 5, 2) := by decide +kernel
theorem dX10_allow_171 : decode cX10_allow 171 = .ok (.iinc 6 1, 3) := by decide +kernel
theorem dX10_allow_174 : decode cX10_allow 174 = .ok (.goto (-162), 3) := by decide +kernel
theorem dX10_allow_177 : decode cX10_allow 177 = .ok (.iload 5, 2) := by decide +kernel
theorem dX10_allow_179 : decode cX10_allow 179 = .ok (.iconst 1, 1) := by decide +kernel
theorem dX10_allow_180 : decode cX10_allow 180 = .ok (.iand, 1) := by decide +kernel
theorem dX10_allow_181 : decode cX10_allow 181 = .ok (.ifCond .eq 7, 3) := by decide +kernel
theorem dX10_allow_184 : decode cX10_allow 184 = .ok (.iconst 1, 1) := by decide +kernel
theorem dX10_allow_185 : decode cX10_allow 185 = .ok (.goto 4, 3) := by decide +kernel
theorem dX10_allow_188 : decode cX10_allow 188 = .ok (.iconst 0, 1) := by decide +kernel
theorem dX10_allow_189 : decode cX10_allow 189 = .ok (.ireturn, 1) := by decide +kernel
theorem dX10_partHolds_0 : decode cX10_partHolds 0 = .ok (.iload_n 0, 1) := by decide +kernel
theorem dX10_partHolds_1 : decode cX10_partHolds 1 = .ok (.lookupswitch 57 #[(0, 27), (1, 43)], 27) := by decide +kernel
theorem dX10_partHolds_28 : decode cX10_partHolds 28 = .ok (.iload_n 2, 1) := by decide +kernel
theorem dX10_partHolds_29 : decode cX10_partHolds 29 = .ok (.iload_n 3, 1) := by decide +kernel
theorem dX10_partHolds_30 : decode cX10_partHolds 30 = .ok (.iand, 1) := by decide +kernel
theorem dX10_partHolds_31 : decode cX10_partHolds 31 = .ok (.invokestatic 50, 3) := by decide +kernel
theorem dX10_partHolds_34 : decode cX10_partHolds 34 = .ok (.iload_n 1, 1) := by decide +kernel
theorem dX10_partHolds_35 : decode cX10_partHolds 35 = .ok (.if_icmp .lt 7, 3) := by decide +kernel
theorem dX10_partHolds_38 : decode cX10_partHolds 38 = .ok (.iconst 1, 1) := by decide +kernel
theorem dX10_partHolds_39 : decode cX10_partHolds 39 = .ok (.goto 4, 3) := by decide +kernel
theorem dX10_partHolds_42 : decode cX10_partHolds 42 = .ok (.iconst 0, 1) := by decide +kernel
theorem dX10_partHolds_43 : decode cX10_partHolds 43 = .ok (.ireturn, 1) := by decide +kernel
theorem dX10_partHolds_44 : decode cX10_partHolds 44 = .ok (.iload_n 3, 1) := by decide +kernel
theorem dX10_partHolds_45 : decode cX10_partHolds 45 = .ok (.iload_n 2, 1) := by decide +kernel
theorem dX10_partHolds_46 : decode cX10_partHolds 46 = .ok (.iconst (-1), 1) := by decide +kernel
theorem dX10_partHolds_47 : decode cX10_partHolds 47 = .ok (.ixor, 1) := by decide +kernel
theorem dX10_partHolds_48 : decode cX10_partHolds 48 = .ok (.iand, 1) := by decide +kernel
theorem dX10_partHolds_49 : decode cX10_partHolds 49 = .ok (.ifCond .ne 7, 3) := by decide +kernel
theorem dX10_partHolds_52 : decode cX10_partHolds 52 = .ok (.iconst 1, 1) := by decide +kernel
theorem dX10_partHolds_53 : decode cX10_partHolds 53 = .ok (.goto 4, 3) := by decide +kernel
theorem dX10_partHolds_56 : decode cX10_partHolds 56 = .ok (.iconst 0, 1) := by decide +kernel
theorem dX10_partHolds_57 : decode cX10_partHolds 57 = .ok (.ireturn, 1) := by decide +kernel
theorem dX10_partHolds_58 : decode cX10_partHolds 58 = .ok (.iload_n 2, 1) := by decide +kernel
theorem dX10_partHolds_59 : decode cX10_partHolds 59 = .ok (.iload_n 3, 1) := by decide +kernel
theorem dX10_partHolds_60 : decode cX10_partHolds 60 = .ok (.iand, 1) := by decide +kernel
theorem dX10_partHolds_61 : decode cX10_partHolds 61 = .ok (.ifCond .eq 7, 3) := by decide +kernel
theorem dX10_partHolds_64 : decode cX10_partHolds 64 = .ok (.iconst 1, 1) := by decide +kernel
theorem dX10_partHolds_65 : decode cX10_partHolds 65 = .ok (.goto 4, 3) := by decide +kernel
theorem dX10_partHolds_68 : decode cX10_partHolds 68 = .ok (.iconst 0, 1) := by decide +kernel
theorem dX10_partHolds_69 : decode cX10_partHolds 69 = .ok (.ireturn, 1) := by decide +kernel
theorem dX10_goBack_0 : decode cX10_goBack 0 = .ok (.aload_n 0, 1) := by decide +kernel
theorem dX10_goBack_1 : decode cX10_goBack 1 = .ok (.iload_n 1, 1) := by decide +kernel
theorem dX10_goBack_2 : decode cX10_goBack 2 = .ok (.putfield 24, 3) := by decide +kernel
theorem dX10_goBack_5 : decode cX10_goBack 5 = .ok (.aload_n 0, 1) := by decide +kernel
theorem dX10_goBack_6 : decode cX10_goBack 6 = .ok (.iload_n 2, 1) := by decide +kernel
theorem dX10_goBack_7 : decode cX10_goBack 7 = .ok (.putfield 9, 3) := by decide +kernel
theorem dX10_goBack_10 : decode cX10_goBack 10 = .ok (.aload_n 0, 1) := by decide +kernel
theorem dX10_goBack_11 : decode cX10_goBack 11 = .ok (.dup, 1) := by decide +kernel
theorem dX10_goBack_12 : decode cX10_goBack 12 = .ok (.getfield 33, 3) := by decide +kernel
theorem dX10_goBack_15 : decode cX10_goBack 15 = .ok (.iconst 1, 1) := by decide +kernel
theorem dX10_goBack_16 : decode cX10_goBack 16 = .ok (.iadd, 1) := by decide +kernel
theorem dX10_goBack_17 : decode cX10_goBack 17 = .ok (.putfield 33, 3) := by decide +kernel
theorem dX10_goBack_20 : decode cX10_goBack 20 = .ok (.return_, 1) := by decide +kernel
theorem dJ6_numberOfTrailingZeros_0f7a4_0 : decode cJ6_numberOfTrailingZeros_0f7a4 0 = .ok (.iload_n 0, 1) := by decide +kernel
theorem dJ6_numberOfTrailingZeros_0f7a4_1 : decode cJ6_numberOfTrailingZeros_0f7a4 1 = .ok (.iconst (-1), 1) := by decide +kernel
theorem dJ6_numberOfTrailingZeros_0f7a4_2 : decode cJ6_numberOfTrailingZeros_0f7a4 2 = .ok (.ixor, 1) := by decide +kernel
theorem dJ6_numberOfTrailingZeros_0f7a4_3 : decode cJ6_numberOfTrailingZeros_0f7a4 3 = .ok (.iload_n 0, 1) := by decide +kernel
theorem dJ6_numberOfTrailingZeros_0f7a4_4 : decode cJ6_numberOfTrailingZeros_0f7a4 4 = .ok (.iconst 1, 1) := by decide +kernel
theorem dJ6_numberOfTrailingZeros_0f7a4_5 : decode cJ6_numberOfTrailingZeros_0f7a4 5 = .ok (.isub, 1) := by decide +kernel
theorem dJ6_numberOfTrailingZeros_0f7a4_6 : decode cJ6_numberOfTrailingZeros_0f7a4 6 = .ok (.iand, 1) := by decide +kernel
theorem dJ6_numberOfTrailingZeros_0f7a4_7 : decode cJ6_numberOfTrailingZeros_0f7a4 7 = .ok (.istore_n 0, 1) := by decide +kernel
theorem dJ6_numberOfTrailingZeros_0f7a4_8 : decode cJ6_numberOfTrailingZeros_0f7a4 8 = .ok (.iload_n 0, 1) := by decide +kernel
theorem dJ6_numberOfTrailingZeros_0f7a4_9 : decode cJ6_numberOfTrailingZeros_0f7a4 9 = .ok (.ifCond .gt 8, 3) := by decide +kernel
theorem dJ6_numberOfTrailingZeros_0f7a4_12 : decode cJ6_numberOfTrailingZeros_0f7a4 12 = .ok (.iload_n 0, 1) := by decide +kernel
theorem dJ6_numberOfTrailingZeros_0f7a4_13 : decode cJ6_numberOfTrailingZeros_0f7a4 13 = .ok (.bipush 32, 2) := by decide +kernel
theorem dJ6_numberOfTrailingZeros_0f7a4_15 : decode cJ6_numberOfTrailingZeros_0f7a4 15 = .ok (.iand, 1) := by decide +kernel
theorem dJ6_numberOfTrailingZeros_0f7a4_16 : decode cJ6_numberOfTrailingZeros_0f7a4 16 = .ok (.ireturn, 1) := by decide +kernel
theorem dJ6_numberOfTrailingZeros_0f7a4_17 : decode cJ6_numberOfTrailingZeros_0f7a4 17 = .ok (.iconst 1, 1) := by decide +kernel
theorem dJ6_numberOfTrailingZeros_0f7a4_18 : decode cJ6_numberOfTrailingZeros_0f7a4 18 = .ok (.istore_n 1, 1) := by decide +kernel
theorem dJ6_numberOfTrailingZeros_0f7a4_19 : decode cJ6_numberOfTrailingZeros_0f7a4 19 = .ok (.iload_n 0, 1) := by decide +kernel
theorem dJ6_numberOfTrailingZeros_0f7a4_20 : decode cJ6_numberOfTrailingZeros_0f7a4 20 = .ok (.ldc_w 264, 3) := by decide +kernel
theorem dJ6_numberOfTrailingZeros_0f7a4_23 : decode cJ6_numberOfTrailingZeros_0f7a4 23 = .ok (.if_icmp .le 11, 3) := by decide +kernel
theorem dJ6_numberOfTrailingZeros_0f7a4_26 : decode cJ6_numberOfTrailingZeros_0f7a4 26 = .ok (.iinc 1 16, 3) := by decide +kernel
theorem dJ6_numberOfTrailingZeros_0f7a4_29 : decode cJ6_numberOfTrailingZeros_0f7a4 29 = .ok (.iload_n 0, 1) := by decide +kernel
theorem dJ6_numberOfTrailingZeros_0f7a4_30 : decode cJ6_numberOfTrailingZeros_0f7a4 30 = .ok (.bipush 16, 2) := by decide +kernel
theorem dJ6_numberOfTrailingZeros_0f7a4_32 : decode cJ6_numberOfTrailingZeros_0f7a4 32 = .ok (.iushr, 1) := by decide +kernel
theorem dJ6_numberOfTrailingZeros_0f7a4_33 : decode cJ6_numberOfTrailingZeros_0f7a4 33 = .ok (.istore_n 0, 1) := by decide +kernel
theorem dJ6_numberOfTrailingZeros_0f7a4_34 : decode cJ6_numberOfTrailingZeros_0f7a4 34 = .ok (.iload_n 0, 1) := by decide +kernel
theorem dJ6_numberOfTrailingZeros_0f7a4_35 : decode cJ6_numberOfTrailingZeros_0f7a4 35 = .ok (.sipush 256, 3) := by decide +kernel
theorem dJ6_numberOfTrailingZeros_0f7a4_38 : decode cJ6_numberOfTrailingZeros_0f7a4 38 = .ok (.if_icmp .le 11, 3) := by decide +kernel
theorem dJ6_numberOfTrailingZeros_0f7a4_41 : decode cJ6_numberOfTrailingZeros_0f7a4 41 = .ok (.iinc 1 8, 3) := by decide +kernel
theorem dJ6_numberOfTrailingZeros_0f7a4_44 : decode cJ6_numberOfTrailingZeros_0f7a4 44 = .ok (.iload_n 0, 1) := by decide +kernel
theorem dJ6_numberOfTrailingZeros_0f7a4_45 : decode cJ6_numberOfTrailingZeros_0f7a4 45 = .ok (.bipush 8, 2) := by decide +kernel
theorem dJ6_numberOfTrailingZeros_0f7a4_47 : decode cJ6_numberOfTrailingZeros_0f7a4 47 = .ok (.iushr, 1) := by decide +kernel
theorem dJ6_numberOfTrailingZeros_0f7a4_48 : decode cJ6_numberOfTrailingZeros_0f7a4 48 = .ok (.istore_n 0, 1) := by decide +kernel
theorem dJ6_numberOfTrailingZeros_0f7a4_49 : decode cJ6_numberOfTrailingZeros_0f7a4 49 = .ok (.iload_n 0, 1) := by decide +kernel
theorem dJ6_numberOfTrailingZeros_0f7a4_50 : decode cJ6_numberOfTrailingZeros_0f7a4 50 = .ok (.bipush 16, 2) := by decide +kernel
theorem dJ6_numberOfTrailingZeros_0f7a4_52 : decode cJ6_numberOfTrailingZeros_0f7a4 52 = .ok (.if_icmp .le 10, 3) := by decide +kernel
theorem dJ6_numberOfTrailingZeros_0f7a4_55 : decode cJ6_numberOfTrailingZeros_0f7a4 55 = .ok (.iinc 1 4, 3) := by decide +kernel
theorem dJ6_numberOfTrailingZeros_0f7a4_58 : decode cJ6_numberOfTrailingZeros_0f7a4 58 = .ok (.iload_n 0, 1) := by decide +kernel
theorem dJ6_numberOfTrailingZeros_0f7a4_59 : decode cJ6_numberOfTrailingZeros_0f7a4 59 = .ok (.iconst 4, 1) := by decide +kernel
theorem dJ6_numberOfTrailingZeros_0f7a4_60 : decode cJ6_numberOfTrailingZeros_0f7a4 60 = .ok (.iushr, 1) := by decide +kernel
theorem dJ6_numberOfTrailingZeros_0f7a4_61 : decode cJ6_numberOfTrailingZeros_0f7a4 61 = .ok (.istore_n 0, 1) := by decide +kernel
theorem dJ6_numberOfTrailingZeros_0f7a4_62 : decode cJ6_numberOfTrailingZeros_0f7a4 62 = .ok (.iload_n 0, 1) := by decide +kernel
theorem dJ6_numberOfTrailingZeros_0f7a4_63 : decode cJ6_numberOfTrailingZeros_0f7a4 63 = .ok (.iconst 4, 1) := by decide +kernel
theorem dJ6_numberOfTrailingZeros_0f7a4_64 : decode cJ6_numberOfTrailingZeros_0f7a4 64 = .ok (.if_icmp .le 10, 3) := by decide +kernel
theorem dJ6_numberOfTrailingZeros_0f7a4_67 : decode cJ6_numberOfTrailingZeros_0f7a4 67 = .ok (.iinc 1 2, 3) := by decide +kernel
theorem dJ6_numberOfTrailingZeros_0f7a4_70 : decode cJ6_numberOfTrailingZeros_0f7a4 70 = .ok (.iload_n 0, 1) := by decide +kernel
theorem dJ6_numberOfTrailingZeros_0f7a4_71 : decode cJ6_numberOfTrailingZeros_0f7a4 71 = .ok (.iconst 2, 1) := by decide +kernel
theorem dJ6_numberOfTrailingZeros_0f7a4_72 : decode cJ6_numberOfTrailingZeros_0f7a4 72 = .ok (.iushr, 1) := by decide +kernel
theorem dJ6_numberOfTrailingZeros_0f7a4_73 : decode cJ6_numberOfTrailingZeros_0f7a4 73 = .ok (.istore_n 0, 1) := by decide +kernel
theorem dJ6_numberOfTrailingZeros_0f7a4_74 : decode cJ6_numberOfTrailingZeros_0f7a4 74 = .ok (.iload_n 1, 1) := by decide +kernel
theorem dJ6_numberOfTrailingZeros_0f7a4_75 : decode cJ6_numberOfTrailingZeros_0f7a4 75 = .ok (.iload_n 0, 1) := by decide +kernel
theorem dJ6_numberOfTrailingZeros_0f7a4_76 : decode cJ6_numberOfTrailingZeros_0f7a4 76 = .ok (.iconst 1, 1) := by decide +kernel
theorem dJ6_numberOfTrailingZeros_0f7a4_77 : decode cJ6_numberOfTrailingZeros_0f7a4 77 = .ok (.iushr, 1) := by decide +kernel
theorem dJ6_numberOfTrailingZeros_0f7a4_78 : decode cJ6_numberOfTrailingZeros_0f7a4 78 = .ok (.iadd, 1) := by decide +kernel
theorem dJ6_numberOfTrailingZeros_0f7a4_79 : decode cJ6_numberOfTrailingZeros_0f7a4 79 = .ok (.ireturn, 1) := by decide +kernel
theorem dJ6_bitCount_0f7a4_0 : decode cJ6_bitCount_0f7a4 0 = .ok (.iload_n 0, 1) := by decide +kernel
theorem dJ6_bitCount_0f7a4_1 : decode cJ6_bitCount_0f7a4 1 = .ok (.iload_n 0, 1) := by decide +kernel
theorem dJ6_bitCount_0f7a4_2 : decode cJ6_bitCount_0f7a4 2 = .ok (.iconst 1, 1) := by decide +kernel
theorem dJ6_bitCount_0f7a4_3 : decode cJ6_bitCount_0f7a4 3 = .ok (.iushr, 1) := by decide +kernel
theorem dJ6_bitCount_0f7a4_4 : decode cJ6_bitCount_0f7a4 4 = .ok (.ldc_w 265, 3) := by decide +kernel
theorem dJ6_bitCount_0f7a4_7 : decode cJ6_bitCount_0f7a4 7 = .ok (.iand, 1) := by decide +kernel
theorem dJ6_bitCount_0f7a4_8 : decode cJ6_bitCount_0f7a4 8 = .ok (.isub, 1) := by decide +kernel
theorem dJ6_bitCount_0f7a4_9 : decode cJ6_bitCount_0f7a4 9 = .ok (.istore_n 0, 1) := by decide +kernel
theorem dJ6_bitCount_0f7a4_10 : decode cJ6_bitCount_0f7a4 10 = .ok (.iload_n 0, 1) := by decide +kernel
theorem dJ6_bitCount_0f7a4_11 : decode cJ6_bitCount_0f7a4 11 = .ok (.ldc_w 266, 3) := by decide +kernel
theorem dJ6_bitCount_0f7a4_14 : decode cJ6_bitCount_0f7a4 14 = .ok (.iand, 1) := by decide +kernel
theorem dJ6_bitCount_0f7a4_15 : decode cJ6_bitCount_0f7a4 15 = .ok (.iload_n 0, 1) := by decide +kernel
theorem dJ6_bitCount_0f7a4_16 : decode cJ6_bitCount_0f7a4 16 = .ok (.iconst 2, 1) := by decide +kernel
theorem dJ6_bitCount_0f7a4_17 : decode cJ6_bitCount_0f7a4 17 = .ok (.iushr, 1) := by decide +kernel
theorem dJ6_bitCount_0f7a4_18 : decode cJ6_bitCount_0f7a4 18 = .ok (.ldc_w 266, 3) := by decide +kernel
theorem dJ6_bitCount_0f7a4_21 : decode cJ6_bitCount_0f7a4 21 = .ok (.iand, 1) := by decide +kernel
theorem dJ6_bitCount_0f7a4_22 : decode cJ6_bitCount_0f7a4 22 = .ok (.iadd, 1) := by decide +kernel
theorem dJ6_bitCount_0f7a4_23 : decode cJ6_bitCount_0f7a4 23 = .ok (.istore_n 0, 1) := by decide +kernel
theorem dJ6_bitCount_0f7a4_24 : decode cJ6_bitCount_0f7a4 24 = .ok (.iload_n 0, 1) := by decide +kernel
theorem dJ6_bitCount_0f7a4_25 : decode cJ6_bitCount_0f7a4 25 = .ok (.iload_n 0, 1) := by decide +kernel
theorem dJ6_bitCount_0f7a4_26 : decode cJ6_bitCount_0f7a4 26 = .ok (.iconst 4, 1) := by decide +kernel
theorem dJ6_bitCount_0f7a4_27 : decode cJ6_bitCount_0f7a4 27 = .ok (.iushr, 1) := by decide +kernel
theorem dJ6_bitCount_0f7a4_28 : decode cJ6_bitCount_0f7a4 28 = .ok (.iadd, 1) := by decide +kernel
theorem dJ6_bitCount_0f7a4_29 : decode cJ6_bitCount_0f7a4 29 = .ok (.ldc_w 267, 3) := by decide +kernel
theorem dJ6_bitCount_0f7a4_32 : decode cJ6_bitCount_0f7a4 32 = .ok (.iand, 1) := by decide +kernel
theorem dJ6_bitCount_0f7a4_33 : decode cJ6_bitCount_0f7a4 33 = .ok (.istore_n 0, 1) := by decide +kernel
theorem dJ6_bitCount_0f7a4_34 : decode cJ6_bitCount_0f7a4 34 = .ok (.iload_n 0, 1) := by decide +kernel
theorem dJ6_bitCount_0f7a4_35 : decode cJ6_bitCount_0f7a4 35 = .ok (.iload_n 0, 1) := by decide +kernel
theorem dJ6_bitCount_0f7a4_36 : decode cJ6_bitCount_0f7a4 36 = .ok (.bipush 8, 2) := by decide +kernel
theorem dJ6_bitCount_0f7a4_38 : decode cJ6_bitCount_0f7a4 38 = .ok (.iushr, 1) := by decide +kernel
theorem dJ6_bitCount_0f7a4_39 : decode cJ6_bitCount_0f7a4 39 = .ok (.iadd, 1) := by decide +kernel
theorem dJ6_bitCount_0f7a4_40 : decode cJ6_bitCount_0f7a4 40 = .ok (.istore_n 0, 1) := by decide +kernel
theorem dJ6_bitCount_0f7a4_41 : decode cJ6_bitCount_0f7a4 41 = .ok (.iload_n 0, 1) := by decide +kernel
theorem dJ6_bitCount_0f7a4_42 : decode cJ6_bitCount_0f7a4 42 = .ok (.iload_n 0, 1) := by decide +kernel
theorem dJ6_bitCount_0f7a4_43 : decode cJ6_bitCount_0f7a4 43 = .ok (.bipush 16, 2) := by decide +kernel
theorem dJ6_bitCount_0f7a4_45 : decode cJ6_bitCount_0f7a4 45 = .ok (.iushr, 1) := by decide +kernel
theorem dJ6_bitCount_0f7a4_46 : decode cJ6_bitCount_0f7a4 46 = .ok (.iadd, 1) := by decide +kernel
theorem dJ6_bitCount_0f7a4_47 : decode cJ6_bitCount_0f7a4 47 = .ok (.istore_n 0, 1) := by decide +kernel
theorem dJ6_bitCount_0f7a4_48 : decode cJ6_bitCount_0f7a4 48 = .ok (.iload_n 0, 1) := by decide +kernel
theorem dJ6_bitCount_0f7a4_49 : decode cJ6_bitCount_0f7a4 49 = .ok (.bipush 63, 2) := by decide +kernel
theorem dJ6_bitCount_0f7a4_51 : decode cJ6_bitCount_0f7a4 51 = .ok (.iand, 1) := by decide +kernel
theorem dJ6_bitCount_0f7a4_52 : decode cJ6_bitCount_0f7a4 52 = .ok (.ireturn, 1) := by decide +kernel
theorem dJ9_min_7cf53_0 : decode cJ9_min_7cf53 0 = .ok (.iload_n 0, 1) := by decide +kernel
theorem dJ9_min_7cf53_1 : decode cJ9_min_7cf53 1 = .ok (.iload_n 1, 1) := by decide +kernel
theorem dJ9_min_7cf53_2 : decode cJ9_min_7cf53 2 = .ok (.if_icmp .gt 7, 3) := by decide +kernel
theorem dJ9_min_7cf53_5 : decode cJ9_min_7cf53 5 = .ok (.iload_n 0, 1) := by decide +kernel
theorem dJ9_min_7cf53_6 : decode cJ9_min_7cf53 6 = .ok (.goto 4, 3) := by decide +kernel
theorem dJ9_min_7cf53_9 : decode cJ9_min_7cf53 9 = .ok (.iload_n 1, 1) := by decide +kernel
theorem dJ9_min_7cf53_10 : decode cJ9_min_7cf53 10 = .ok (.ireturn, 1) := by decide +kernel
theorem dJ0_length_8abf5_0 : decode cJ0_length_8abf5 0 = .ok (.aload_n 0, 1) := by decide +kernel
theorem dJ0_length_8abf5_1 : decode cJ0_length_8abf5 1 = .ok (.getfield 9, 3) := by decide +kernel
theorem dJ0_length_8abf5_4 : decode cJ0_length_8abf5 4 = .ok (.arraylength, 1) := by decide +kernel
theorem dJ0_length_8abf5_5 : decode cJ0_length_8abf5 5 = .ok (.aload_n 0, 1) := by decide +kernel
theorem dJ0_length_8abf5_6 : decode cJ0_length_8abf5 6 = .ok (.invokevirtual 335, 3) := by decide +kernel
theorem dJ0_length_8abf5_9 : decode cJ0_length_8abf5 9 = .ok (.ishr, 1) := by decide +kernel
theorem dJ0_length_8abf5_10 : decode cJ0_length_8abf5 10 = .ok (.ireturn, 1) := by decide +kernel
theorem dJ0_charAt_5068e_0 : decode cJ0_charAt_5068e 0 = .ok (.aload_n 0, 1) := by decide +kernel
theorem dJ0_charAt_5068e_1 : decode cJ0_charAt_5068e 1 = .ok (.invokevirtual 492, 3) := by decide +kernel
theorem dJ0_charAt_5068e_4 : decode cJ0_charAt_5068e 4 = .ok (.ifCond .eq 12, 3) := by decide +kernel
theorem dJ0_charAt_5068e_7 : decode cJ0_charAt_5068e 7 = .ok (.aload_n 0, 1) := by decide +kernel
theorem dJ0_charAt_5068e_8 : decode cJ0_charAt_5068e 8 = .ok (.getfield 9, 3) := by decide +kernel
theorem dJ0_charAt_5068e_11 : decode cJ0_charAt_5068e 11 = .ok (.iload_n 1, 1) := by decide +kernel
theorem dJ0_charAt_5068e_12 : decode cJ0_charAt_5068e 12 = .ok (.invokestatic 495, 3) := by decide +kernel
theorem dJ0_charAt_5068e_15 : decode cJ0_charAt_5068e 15 = .ok (.ireturn, 1) := by decide +kernel
theorem dJ0_charAt_5068e_16 : decode cJ0_charAt_5068e 16 = .ok (.aload_n 0, 1) := by decide +kernel
theorem dJ0_charAt_5068e_17 : decode cJ0_charAt_5068e 17 = .ok (.getfield 9, 3) := by decide +kernel
theorem dJ0_charAt_5068e_20 : decode cJ0_charAt_5068e 20 = .ok (.iload_n 1, 1) := by decide +kernel
theorem dJ0_charAt_5068e_21 : decode cJ0_charAt_5068e 21 = .ok (.invokestatic 498, 3) := by decide +kernel
theorem dJ0_charAt_5068e_24 : decode cJ0_charAt_5068e 24 = .ok (.ireturn, 1) := by decide +kernel
theorem dJ0_coder_7d493_0 : decode cJ0_coder_7d493 0 = .ok (.getstatic 38, 3) := by decide +kernel
theorem dJ0_coder_7d493_3 : decode cJ0_coder_7d493 3 = .ok (.ifCond .eq 10, 3) := by decide +kernel
theorem dJ0_coder_7d493_6 : decode cJ0_coder_7d493 6 = .ok (.aload_n 0, 1) := by decide +kernel
theorem dJ0_coder_7d493_7 : decode cJ0_coder_7d493 7 = .ok (.getfield 15, 3) := by decide +kernel
theorem dJ0_coder_7d493_10 : decode cJ0_coder_7d493 10 = .ok (.goto 4, 3) := by decide +kernel
theorem dJ0_coder_7d493_13 : decode cJ0_coder_7d493 13 = .ok (.iconst 1, 1) := by decide +kernel
theorem dJ0_coder_7d493_14 : decode cJ0_coder_7d493 14 = .ok (.ireturn, 1) := by decide +kernel
theorem dJ0_isLatin1_aae02_0 : decode cJ0_isLatin1_aae02 0 = .ok (.getstatic 38, 3) := by decide +kernel
theorem dJ0_isLatin1_aae02_3 : decode cJ0_isLatin1_aae02 3 = .ok (.ifCond .eq 14, 3) := by decide +kernel
theorem dJ0_isLatin1_aae02_6 : decode cJ0_isLatin1_aae02 6 = .ok (.aload_n 0, 1) := by decide +kernel
theorem dJ0_isLatin1_aae02_7 : decode cJ0_isLatin1_aae02 7 = .ok (.getfield 15, 3) := by decide +kernel
theorem dJ0_isLatin1_aae02_10 : decode cJ0_isLatin1_aae02 10 = .ok (.ifCond .ne 7, 3) := by decide +kernel
theorem dJ0_isLatin1_aae02_13 : decode cJ0_isLatin1_aae02 13 = .ok (.iconst 1, 1) := by decide +kernel
theorem dJ0_isLatin1_aae02_14 : decode cJ0_isLatin1_aae02 14 = .ok (.goto 4, 3) := by decide +kernel
theorem dJ0_isLatin1_aae02_17 : decode cJ0_isLatin1_aae02 17 = .ok (.iconst 0, 1) := by decide +kernel
theorem dJ0_isLatin1_aae02_18 : decode cJ0_isLatin1_aae02 18 = .ok (.ireturn, 1) := by decide +kernel
theorem dJ0_checkIndex_df160_0 : decode cJ0_checkIndex_df160 0 = .ok (.iload_n 0, 1) := by decide +kernel
theorem dJ0_checkIndex_df160_1 : decode cJ0_checkIndex_df160 1 = .ok (.iload_n 1, 1) := by decide +kernel
theorem dJ0_checkIndex_df160_2 : decode cJ0_checkIndex_df160 2 = .ok (.getstatic 1053, 3) := by decide +kernel
theorem dJ0_checkIndex_df160_5 : decode cJ0_checkIndex_df160 5 = .ok (.invokestatic 1059, 3) := by decide +kernel
theorem dJ0_checkIndex_df160_8 : decode cJ0_checkIndex_df160 8 = .ok (.pop, 1) := by decide +kernel
theorem dJ0_checkIndex_df160_9 : decode cJ0_checkIndex_df160 9 = .ok (.return_, 1) := by decide +kernel
theorem dJ1_charAt_3b067_0 : decode cJ1_charAt_3b067 0 = .ok (.iload_n 1, 1) := by decide +kernel
theorem dJ1_charAt_3b067_1 : decode cJ1_charAt_3b067 1 = .ok (.aload_n 0, 1) := by decide +kernel
theorem dJ1_charAt_3b067_2 : decode cJ1_charAt_3b067 2 = .ok (.arraylength, 1) := by decide +kernel
theorem dJ1_charAt_3b067_3 : decode cJ1_charAt_3b067 3 = .ok (.invokestatic 9, 3) := by decide +kernel
theorem dJ1_charAt_3b067_6 : decode cJ1_charAt_3b067 6 = .ok (.aload_n 0, 1) := by decide +kernel
theorem dJ1_charAt_3b067_7 : decode cJ1_charAt_3b067 7 = .ok (.iload_n 1, 1) := by decide +kernel
theorem dJ1_charAt_3b067_8 : decode cJ1_charAt_3b067 8 = .ok (.baload, 1) := by decide +kernel
theorem dJ1_charAt_3b067_9 : decode cJ1_charAt_3b067 9 = .ok (.sipush 255, 3) := by decide +kernel
theorem dJ1_charAt_3b067_12 : decode cJ1_charAt_3b067 12 = .ok (.iand, 1) := by decide +kernel
theorem dJ1_charAt_3b067_13 : decode cJ1_charAt_3b067 13 = .ok (.i2c, 1) := by decide +kernel
theorem dJ1_charAt_3b067_14 : decode cJ1_charAt_3b067 14 = .ok (.ireturn, 1) := by decide +kernel
theorem dJ2_getChar_3b067_0 : decode cJ2_getChar_3b067 0 = .ok (.getstatic 44, 3) := by decide +kernel
theorem dJ2_getChar_3b067_3 : decode cJ2_getChar_3b067 3 = .ok (.ifCond .ne 25, 3) := by decide +kernel
theorem dJ2_getChar_3b067_6 : decode cJ2_getChar_3b067 6 = .ok (.iload_n 1, 1) := by decide +kernel
theorem dJ2_getChar_3b067_7 : decode cJ2_getChar_3b067 7 = .ok (.ifCond .lt 11, 3) := by decide +kernel
theorem dJ2_getChar_3b067_10 : decode cJ2_getChar_3b067 10 = .ok (.iload_n 1, 1) := by decide +kernel
theorem dJ2_getChar_3b067_11 : decode cJ2_getChar_3b067 11 = .ok (.aload_n 0, 1) := by decide +kernel
theorem dJ2_getChar_3b067_12 : decode cJ2_getChar_3b067 12 = .ok (.invokestatic 48, 3) := by decide +kernel
theorem dJ2_getChar_3b067_15 : decode cJ2_getChar_3b067 15 = .ok (.if_icmp .lt 13, 3) := by decide +kernel
theorem dJ2_getChar_3b067_18 : decode cJ2_getChar_3b067 18 = .ok (.new 52, 3) := by decide +kernel
theorem dJ2_getChar_3b067_21 : decode cJ2_getChar_3b067 21 = .ok (.dup, 1) := by decide +kernel
theorem dJ2_getChar_3b067_22 : decode cJ2_getChar_3b067 22 = .ok (.ldc 54, 2) := by decide +kernel
theorem dJ2_getChar_3b067_24 : decode cJ2_getChar_3b067 24 = .ok (.invokespecial 56, 3) := by decide +kernel
theorem dJ2_getChar_3b067_27 : decode cJ2_getChar_3b067 27 = .ok (.athrow, 1) := by decide +kernel
theorem dJ2_getChar_3b067_28 : decode cJ2_getChar_3b067 28 = .ok (.iload_n 1, 1) := by decide +kernel
theorem dJ2_getChar_3b067_29 : decode cJ2_getChar_3b067 29 = .ok (.iconst 1, 1) := by decide +kernel
theorem dJ2_getChar_3b067_30 : decode cJ2_getChar_3b067 30 = .ok (.ishl, 1) := by decide +kernel
theorem dJ2_getChar_3b067_31 : decode cJ2_getChar_3b067 31 = .ok (.istore_n 1, 1) := by decide +kernel
theorem dJ2_getChar_3b067_32 : decode cJ2_getChar_3b067 32 = .ok (.aload_n 0, 1) := by decide +kernel
theorem dJ2_getChar_3b067_33 : decode cJ2_getChar_3b067 33 = .ok (.iload_n 1, 1) := by decide +kernel
theorem dJ2_getChar_3b067_34 : decode cJ2_getChar_3b067 34 = .ok (.iinc 1 1, 3) := by decide +kernel
theorem dJ2_getChar_3b067_37 : decode cJ2_getChar_3b067 37 = .ok (.baload, 1) := by decide +kernel
theorem dJ2_getChar_3b067_38 : decode cJ2_getChar_3b067 38 = .ok (.sipush 255, 3) := by decide +kernel
theorem dJ2_getChar_3b067_41 : decode cJ2_getChar_3b067 41 = .ok (.iand, 1) := by decide +kernel
theorem dJ2_getChar_3b067_42 : decode cJ2_getChar_3b067 42 = .ok (.getstatic 59, 3) := by decide +kernel
theorem dJ2_getChar_3b067_45 : decode cJ2_getChar_3b067 45 = .ok (.ishl, 1) := by decide +kernel
theorem dJ2_getChar_3b067_46 : decode cJ2_getChar_3b067 46 = .ok (.aload_n 0, 1) := by decide +kernel
theorem dJ2_getChar_3b067_47 : decode cJ2_getChar_3b067 47 = .ok (.iload_n 1, 1) := by decide +kernel
theorem dJ2_getChar_3b067_48 : decode cJ2_getChar_3b067 48 = .ok (.baload, 1) := by decide +kernel
theorem dJ2_getChar_3b067_49 : decode cJ2_getChar_3b067 49 = .ok (.sipush 255, 3) := by decide +kernel
theorem dJ2_getChar_3b067_52 : decode cJ2_getChar_3b067 52 = .ok (.iand, 1) := by decide +kernel
theorem dJ2_getChar_3b067_53 : decode cJ2_getChar_3b067 53 = .ok (.getstatic 63, 3) := by decide +kernel
theorem dJ2_getChar_3b067_56 : decode cJ2_getChar_3b067 56 = .ok (.ishl, 1) := by decide +kernel
theorem dJ2_getChar_3b067_57 : decode cJ2_getChar_3b067 57 = .ok (.ior, 1) := by decide +kernel
theorem dJ2_getChar_3b067_58 : decode cJ2_getChar_3b067 58 = .ok (.i2c, 1) := by decide +kernel
theorem dJ2_getChar_3b067_59 : decode cJ2_getChar_3b067 59 = .ok (.ireturn, 1) := by decide +kernel
theorem dJ2_length_9d52b_0 : decode cJ2_length_9d52b 0 = .ok (.aload_n 0, 1) := by decide +kernel
theorem dJ2_length_9d52b_1 : decode cJ2_length_9d52b 1 = .ok (.arraylength, 1) := by decide +kernel
theorem dJ2_length_9d52b_2 : decode cJ2_length_9d52b 2 = .ok (.iconst 1, 1) := by decide +kernel
theorem dJ2_length_9d52b_3 : decode cJ2_length_9d52b 3 = .ok (.ishr, 1) := by decide +kernel
theorem dJ2_length_9d52b_4 : decode cJ2_length_9d52b 4 = .ok (.ireturn, 1) := by decide +kernel
theorem dJ2_charAt_3b067_0 : decode cJ2_charAt_3b067 0 = .ok (.iload_n 1, 1) := by decide +kernel
theorem dJ2_charAt_3b067_1 : decode cJ2_charAt_3b067 1 = .ok (.aload_n 0, 1) := by decide +kernel
theorem dJ2_charAt_3b067_2 : decode cJ2_charAt_3b067 2 = .ok (.invokestatic 67, 3) := by decide +kernel
theorem dJ2_charAt_3b067_5 : decode cJ2_charAt_3b067 5 = .ok (.aload_n 0, 1) := by decide +kernel
theorem dJ2_charAt_3b067_6 : decode cJ2_charAt_3b067 6 = .ok (.iload_n 1, 1) := by decide +kernel
theorem dJ2_charAt_3b067_7 : decode cJ2_charAt_3b067 7 = .ok (.invokestatic 71, 3) := by decide +kernel
theorem dJ2_charAt_3b067_10 : decode cJ2_charAt_3b067 10 = .ok (.ireturn, 1) := by decide +kernel
theorem dJ2_checkIndex_2214a_0 : decode cJ2_checkIndex_2214a 0 = .ok (.iload_n 0, 1) := by decide +kernel
theorem dJ2_checkIndex_2214a_1 : decode cJ2_checkIndex_2214a 1 = .ok (.aload_n 1, 1) := by decide +kernel
theorem dJ2_checkIndex_2214a_2 : decode cJ2_checkIndex_2214a 2 = .ok (.invokestatic 48, 3) := by decide +kernel
theorem dJ2_checkIndex_2214a_5 : decode cJ2_checkIndex_2214a 5 = .ok (.invokestatic 414, 3) := by decide +kernel
theorem dJ2_checkIndex_2214a_8 : decode cJ2_checkIndex_2214a 8 = .ok (.return_, 1) := by decide +kernel
theorem dJ7_fill_d0a16_0 : decode cJ7_fill_d0a16 0 = .ok (.iconst 0, 1) := by decide +kernel
theorem dJ7_fill_d0a16_1 : decode cJ7_fill_d0a16 1 = .ok (.istore_n 3, 1) := by decide +kernel
theorem dJ7_fill_d0a16_2 : decode cJ7_fill_d0a16 2 = .ok (.aload_n 0, 1) := by decide +kernel
theorem dJ7_fill_d0a16_3 : decode cJ7_fill_d0a16 3 = .ok (.arraylength, 1) := by decide +kernel
theorem dJ7_fill_d0a16_4 : decode cJ7_fill_d0a16 4 = .ok (.istore 4, 2) := by decide +kernel
theorem dJ7_fill_d0a16_6 : decode cJ7_fill_d0a16 6 = .ok (.iload_n 3, 1) := by decide +kernel
theorem dJ7_fill_d0a16_7 : decode cJ7_fill_d0a16 7 = .ok (.iload 4, 2) := by decide +kernel
theorem dJ7_fill_d0a16_9 : decode cJ7_fill_d0a16 9 = .ok (.if_icmp .ge 13, 3) := by decide +kernel
theorem dJ7_fill_d0a16_12 : decode cJ7_fill_d0a16 12 = .ok (.aload_n 0, 1) := by decide +kernel
theorem dJ7_fill_d0a16_13 : decode cJ7_fill_d0a16 13 = .ok (.iload_n 3, 1) := by decide +kernel
theorem dJ7_fill_d0a16_14 : decode cJ7_fill_d0a16 14 = .ok (.lload_n 1, 1) := by decide +kernel
theorem dJ7_fill_d0a16_15 : decode cJ7_fill_d0a16 15 = .ok (.lastore, 1) := by decide +kernel
theorem dJ7_fill_d0a16_16 : decode cJ7_fill_d0a16 16 = .ok (.iinc 3 1, 3) := by decide +kernel
theorem dJ7_fill_d0a16_19 : decode cJ7_fill_d0a16 19 = .ok (.goto (-13), 3) := by decide +kernel
theorem dJ7_fill_d0a16_22 : decode cJ7_fill_d0a16 22 = .ok (.return_, 1) := by decide +kernel
theorem dJ7_fill_53178_0 : decode cJ7_fill_53178 0 = .ok (.iconst 0, 1) := by decide +kernel
theorem dJ7_fill_53178_1 : decode cJ7_fill_53178 1 = .ok (.istore_n 2, 1) := by decide +kernel
theorem dJ7_fill_53178_2 : decode cJ7_fill_53178 2 = .ok (.aload_n 0, 1) := by decide +kernel
theorem dJ7_fill_53178_3 : decode cJ7_fill_53178 3 = .ok (.arraylength, 1) := by decide +kernel
theorem dJ7_fill_53178_4 : decode cJ7_fill_53178 4 = .ok (.istore_n 3, 1) := by decide +kernel
theorem dJ7_fill_53178_5 : decode cJ7_fill_53178 5 = .ok (.iload_n 2, 1) := by decide +kernel
theorem dJ7_fill_53178_6 : decode cJ7_fill_53178 6 = .ok (.iload_n 3, 1) := by decide +kernel
theorem dJ7_fill_53178_7 : decode cJ7_fill_53178 7 = .ok (.if_icmp .ge 13, 3) := by decide +kernel
theorem dJ7_fill_53178_10 : decode cJ7_fill_53178 10 = .ok (.aload_n 0, 1) := by decide +kernel
theorem dJ7_fill_53178_11 : decode cJ7_fill_53178 11 = .ok (.iload_n 2, 1) := by decide +kernel
theorem dJ7_fill_53178_12 : decode cJ7_fill_53178 12 = .ok (.iload_n 1, 1) := by decide +kernel
theorem dJ7_fill_53178_13 : decode cJ7_fill_53178 13 = .ok (.iastore, 1) := by decide +kernel
theorem dJ7_fill_53178_14 : decode cJ7_fill_53178 14 = .ok (.iinc 2 1, 3) := by decide +kernel
theorem dJ7_fill_53178_17 : decode cJ7_fill_53178 17 = .ok (.goto (-12), 3) := by decide +kernel
theorem dJ7_fill_53178_20 : decode cJ7_fill_53178 20 = .ok (.return_, 1) := by decide +kernel
theorem dJ3_checkIndex_8e157_0 : decode cJ3_checkIndex_8e157 0 = .ok (.iload_n 0, 1) := by decide +kernel
theorem dJ3_checkIndex_8e157_1 : decode cJ3_checkIndex_8e157 1 = .ok (.ifCond .lt 8, 3) := by decide +kernel
theorem dJ3_checkIndex_8e157_4 : decode cJ3_checkIndex_8e157 4 = .ok (.iload_n 0, 1) := by decide +kernel
theorem dJ3_checkIndex_8e157_5 : decode cJ3_checkIndex_8e157 5 = .ok (.iload_n 1, 1) := by decide +kernel
theorem dJ3_checkIndex_8e157_6 : decode cJ3_checkIndex_8e157 6 = .ok (.if_icmp .lt 10, 3) := by decide +kernel
theorem dJ3_checkIndex_8e157_9 : decode cJ3_checkIndex_8e157 9 = .ok (.aload_n 2, 1) := by decide +kernel
theorem dJ3_checkIndex_8e157_10 : decode cJ3_checkIndex_8e157 10 = .ok (.iload_n 0, 1) := by decide +kernel
theorem dJ3_checkIndex_8e157_11 : decode cJ3_checkIndex_8e157 11 = .ok (.iload_n 1, 1) := by decide +kernel
theorem dJ3_checkIndex_8e157_12 : decode cJ3_checkIndex_8e157 12 = .ok (.invokestatic 95, 3) := by decide +kernel
theorem dJ3_checkIndex_8e157_15 : decode cJ3_checkIndex_8e157 15 = .ok (.athrow, 1) := by decide +kernel
theorem dJ3_checkIndex_8e157_16 : decode cJ3_checkIndex_8e157 16 = .ok (.iload_n 0, 1) := by decide +kernel
theorem dJ3_checkIndex_8e157_17 : decode cJ3_checkIndex_8e157 17 = .ok (.ireturn, 1) := by decide +kernel
