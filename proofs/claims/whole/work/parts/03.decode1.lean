theorem dX6_showLeg_63 : decode cX6_showLeg 63 = .ok (.iload_n 2, 1) := by decide +kernel
theorem dX6_showLeg_64 : decode cX6_showLeg 64 = .ok (.iaload, 1) := by decide +kernel
theorem dX6_showLeg_65 : decode cX6_showLeg 65 = .ok (.iconst 1, 1) := by decide +kernel
theorem dX6_showLeg_66 : decode cX6_showLeg 66 = .ok (.if_icmp .le 22, 3) := by decide +kernel
theorem dX6_showLeg_69 : decode cX6_showLeg 69 = .ok (.aload_n 0, 1) := by decide +kernel
theorem dX6_showLeg_70 : decode cX6_showLeg 70 = .ok (.ldc 54, 2) := by decide +kernel
theorem dX6_showLeg_72 : decode cX6_showLeg 72 = .ok (.invokevirtual 42, 3) := by decide +kernel
theorem dX6_showLeg_75 : decode cX6_showLeg 75 = .ok (.aload_n 0, 1) := by decide +kernel
theorem dX6_showLeg_76 : decode cX6_showLeg 76 = .ok (.bipush 48, 2) := by decide +kernel
theorem dX6_showLeg_78 : decode cX6_showLeg 78 = .ok (.aload_n 1, 1) := by decide +kernel
theorem dX6_showLeg_79 : decode cX6_showLeg 79 = .ok (.getfield 50, 3) := by decide +kernel
theorem dX6_showLeg_82 : decode cX6_showLeg 82 = .ok (.iload_n 2, 1) := by decide +kernel
theorem dX6_showLeg_83 : decode cX6_showLeg 83 = .ok (.iaload, 1) := by decide +kernel
theorem dX6_showLeg_84 : decode cX6_showLeg 84 = .ok (.iadd, 1) := by decide +kernel
theorem dX6_showLeg_85 : decode cX6_showLeg 85 = .ok (.invokevirtual 24, 3) := by decide +kernel
theorem dX6_showLeg_88 : decode cX6_showLeg 88 = .ok (.return_, 1) := by decide +kernel
theorem dX6_addWord_0 : decode cX6_addWord 0 = .ok (.iconst 0, 1) := by decide +kernel
theorem dX6_addWord_1 : decode cX6_addWord 1 = .ok (.istore_n 2, 1) := by decide +kernel
theorem dX6_addWord_2 : decode cX6_addWord 2 = .ok (.iload_n 2, 1) := by decide +kernel
theorem dX6_addWord_3 : decode cX6_addWord 3 = .ok (.aload_n 1, 1) := by decide +kernel
theorem dX6_addWord_4 : decode cX6_addWord 4 = .ok (.invokevirtual 56, 3) := by decide +kernel
theorem dX6_addWord_7 : decode cX6_addWord 7 = .ok (.if_icmp .ge 18, 3) := by decide +kernel
theorem dX6_addWord_10 : decode cX6_addWord 10 = .ok (.aload_n 0, 1) := by decide +kernel
theorem dX6_addWord_11 : decode cX6_addWord 11 = .ok (.aload_n 1, 1) := by decide +kernel
theorem dX6_addWord_12 : decode cX6_addWord 12 = .ok (.iload_n 2, 1) := by decide +kernel
theorem dX6_addWord_13 : decode cX6_addWord 13 = .ok (.invokevirtual 62, 3) := by decide +kernel
theorem dX6_addWord_16 : decode cX6_addWord 16 = .ok (.invokevirtual 24, 3) := by decide +kernel
theorem dX6_addWord_19 : decode cX6_addWord 19 = .ok (.iinc 2 1, 3) := by decide +kernel
theorem dX6_addWord_22 : decode cX6_addWord 22 = .ok (.goto (-20), 3) := by decide +kernel
theorem dX6_addWord_25 : decode cX6_addWord 25 = .ok (.return_, 1) := by decide +kernel
theorem dX6_add_0 : decode cX6_add 0 = .ok (.aload_n 0, 1) := by decide +kernel
theorem dX6_add_1 : decode cX6_add 1 = .ok (.getfield 15, 3) := by decide +kernel
theorem dX6_add_4 : decode cX6_add 4 = .ok (.bipush 120, 2) := by decide +kernel
theorem dX6_add_6 : decode cX6_add 6 = .ok (.if_icmp .ge 24, 3) := by decide +kernel
theorem dX6_add_9 : decode cX6_add 9 = .ok (.aload_n 0, 1) := by decide +kernel
theorem dX6_add_10 : decode cX6_add 10 = .ok (.getfield 9, 3) := by decide +kernel
theorem dX6_add_13 : decode cX6_add 13 = .ok (.aload_n 0, 1) := by decide +kernel
theorem dX6_add_14 : decode cX6_add 14 = .ok (.getfield 15, 3) := by decide +kernel
theorem dX6_add_17 : decode cX6_add 17 = .ok (.iload_n 1, 1) := by decide +kernel
theorem dX6_add_18 : decode cX6_add 18 = .ok (.i2b, 1) := by decide +kernel
theorem dX6_add_19 : decode cX6_add 19 = .ok (.bastore, 1) := by decide +kernel
theorem dX6_add_20 : decode cX6_add 20 = .ok (.aload_n 0, 1) := by decide +kernel
theorem dX6_add_21 : decode cX6_add 21 = .ok (.dup, 1) := by decide +kernel
theorem dX6_add_22 : decode cX6_add 22 = .ok (.getfield 15, 3) := by decide +kernel
theorem dX6_add_25 : decode cX6_add 25 = .ok (.iconst 1, 1) := by decide +kernel
theorem dX6_add_26 : decode cX6_add 26 = .ok (.iadd, 1) := by decide +kernel
theorem dX6_add_27 : decode cX6_add 27 = .ok (.putfield 15, 3) := by decide +kernel
theorem dX6_add_30 : decode cX6_add 30 = .ok (.return_, 1) := by decide +kernel
theorem dX6_isSameAs_0 : decode cX6_isSameAs 0 = .ok (.aload_n 0, 1) := by decide +kernel
theorem dX6_isSameAs_1 : decode cX6_isSameAs 1 = .ok (.getfield 15, 3) := by decide +kernel
theorem dX6_isSameAs_4 : decode cX6_isSameAs 4 = .ok (.aload_n 1, 1) := by decide +kernel
theorem dX6_isSameAs_5 : decode cX6_isSameAs 5 = .ok (.getfield 66, 3) := by decide +kernel
theorem dX6_isSameAs_8 : decode cX6_isSameAs 8 = .ok (.if_icmp .eq 5, 3) := by decide +kernel
theorem dX6_isSameAs_11 : decode cX6_isSameAs 11 = .ok (.iconst 0, 1) := by decide +kernel
theorem dX6_isSameAs_12 : decode cX6_isSameAs 12 = .ok (.ireturn, 1) := by decide +kernel
theorem dX6_isSameAs_13 : decode cX6_isSameAs 13 = .ok (.iconst 0, 1) := by decide +kernel
theorem dX6_isSameAs_14 : decode cX6_isSameAs 14 = .ok (.istore_n 2, 1) := by decide +kernel
theorem dX6_isSameAs_15 : decode cX6_isSameAs 15 = .ok (.iload_n 2, 1) := by decide +kernel
theorem dX6_isSameAs_16 : decode cX6_isSameAs 16 = .ok (.aload_n 0, 1) := by decide +kernel
theorem dX6_isSameAs_17 : decode cX6_isSameAs 17 = .ok (.getfield 15, 3) := by decide +kernel
theorem dX6_isSameAs_20 : decode cX6_isSameAs 20 = .ok (.if_icmp .ge 26, 3) := by decide +kernel
theorem dX6_isSameAs_23 : decode cX6_isSameAs 23 = .ok (.aload_n 0, 1) := by decide +kernel
theorem dX6_isSameAs_24 : decode cX6_isSameAs 24 = .ok (.getfield 9, 3) := by decide +kernel
theorem dX6_isSameAs_27 : decode cX6_isSameAs 27 = .ok (.iload_n 2, 1) := by decide +kernel
theorem dX6_isSameAs_28 : decode cX6_isSameAs 28 = .ok (.baload, 1) := by decide +kernel
theorem dX6_isSameAs_29 : decode cX6_isSameAs 29 = .ok (.aload_n 1, 1) := by decide +kernel
theorem dX6_isSameAs_30 : decode cX6_isSameAs 30 = .ok (.getfield 69, 3) := by decide +kernel
theorem dX6_isSameAs_33 : decode cX6_isSameAs 33 = .ok (.iload_n 2, 1) := by decide +kernel
theorem dX6_isSameAs_34 : decode cX6_isSameAs 34 = .ok (.baload, 1) := by decide +kernel
theorem dX6_isSameAs_35 : decode cX6_isSameAs 35 = .ok (.if_icmp .eq 5, 3) := by decide +kernel
theorem dX6_isSameAs_38 : decode cX6_isSameAs 38 = .ok (.iconst 0, 1) := by decide +kernel
theorem dX6_isSameAs_39 : decode cX6_isSameAs 39 = .ok (.ireturn, 1) := by decide +kernel
theorem dX6_isSameAs_40 : decode cX6_isSameAs 40 = .ok (.iinc 2 1, 3) := by decide +kernel
theorem dX6_isSameAs_43 : decode cX6_isSameAs 43 = .ok (.goto (-28), 3) := by decide +kernel
theorem dX6_isSameAs_46 : decode cX6_isSameAs 46 = .ok (.iconst 1, 1) := by decide +kernel
theorem dX6_isSameAs_47 : decode cX6_isSameAs 47 = .ok (.ireturn, 1) := by decide +kernel
theorem dX7_init_0 : decode cX7_init 0 = .ok (.aload_n 0, 1) := by decide +kernel
theorem dX7_init_1 : decode cX7_init 1 = .ok (.invokespecial 3, 3) := by decide +kernel
theorem dX7_init_4 : decode cX7_init 4 = .ok (.aload_n 0, 1) := by decide +kernel
theorem dX7_init_5 : decode cX7_init 5 = .ok (.iconst (-1), 1) := by decide +kernel
theorem dX7_init_6 : decode cX7_init 6 = .ok (.putfield 11, 3) := by decide +kernel
theorem dX7_init_9 : decode cX7_init 9 = .ok (.aload_n 0, 1) := by decide +kernel
theorem dX7_init_10 : decode cX7_init 10 = .ok (.iconst 0, 1) := by decide +kernel
theorem dX7_init_11 : decode cX7_init 11 = .ok (.putfield 15, 3) := by decide +kernel
theorem dX7_init_14 : decode cX7_init 14 = .ok (.aload_n 0, 1) := by decide +kernel
theorem dX7_init_15 : decode cX7_init 15 = .ok (.bipush 40, 2) := by decide +kernel
theorem dX7_init_17 : decode cX7_init 17 = .ok (.newarray .int, 2) := by decide +kernel
theorem dX7_init_19 : decode cX7_init 19 = .ok (.putfield 18, 3) := by decide +kernel
theorem dX7_init_22 : decode cX7_init 22 = .ok (.return_, 1) := by decide +kernel
theorem dX7_isMissing_0 : decode cX7_isMissing 0 = .ok (.aload_n 0, 1) := by decide +kernel
theorem dX7_isMissing_1 : decode cX7_isMissing 1 = .ok (.getfield 11, 3) := by decide +kernel
theorem dX7_isMissing_4 : decode cX7_isMissing 4 = .ok (.iconst (-1), 1) := by decide +kernel
theorem dX7_isMissing_5 : decode cX7_isMissing 5 = .ok (.if_icmp .ne 7, 3) := by decide +kernel
theorem dX7_isMissing_8 : decode cX7_isMissing 8 = .ok (.iconst 1, 1) := by decide +kernel
theorem dX7_isMissing_9 : decode cX7_isMissing 9 = .ok (.goto 4, 3) := by decide +kernel
theorem dX7_isMissing_12 : decode cX7_isMissing 12 = .ok (.iconst 0, 1) := by decide +kernel
theorem dX7_isMissing_13 : decode cX7_isMissing 13 = .ok (.ireturn, 1) := by decide +kernel
theorem dX7_begin_0 : decode cX7_begin 0 = .ok (.aload_n 0, 1) := by decide +kernel
theorem dX7_begin_1 : decode cX7_begin 1 = .ok (.iload_n 1, 1) := by decide +kernel
theorem dX7_begin_2 : decode cX7_begin 2 = .ok (.putfield 11, 3) := by decide +kernel
theorem dX7_begin_5 : decode cX7_begin 5 = .ok (.aload_n 0, 1) := by decide +kernel
theorem dX7_begin_6 : decode cX7_begin 6 = .ok (.iload_n 2, 1) := by decide +kernel
theorem dX7_begin_7 : decode cX7_begin 7 = .ok (.putfield 15, 3) := by decide +kernel
theorem dX7_begin_10 : decode cX7_begin 10 = .ok (.iconst 0, 1) := by decide +kernel
theorem dX7_begin_11 : decode cX7_begin 11 = .ok (.istore_n 3, 1) := by decide +kernel
theorem dX7_begin_12 : decode cX7_begin 12 = .ok (.iload_n 3, 1) := by decide +kernel
theorem dX7_begin_13 : decode cX7_begin 13 = .ok (.bipush 40, 2) := by decide +kernel
theorem dX7_begin_15 : decode cX7_begin 15 = .ok (.if_icmp .ge 16, 3) := by decide +kernel
theorem dX7_begin_18 : decode cX7_begin 18 = .ok (.aload_n 0, 1) := by decide +kernel
theorem dX7_begin_19 : decode cX7_begin 19 = .ok (.getfield 18, 3) := by decide +kernel
theorem dX7_begin_22 : decode cX7_begin 22 = .ok (.iload_n 3, 1) := by decide +kernel
theorem dX7_begin_23 : decode cX7_begin 23 = .ok (.iconst 0, 1) := by decide +kernel
theorem dX7_begin_24 : decode cX7_begin 24 = .ok (.iastore, 1) := by decide +kernel
theorem dX7_begin_25 : decode cX7_begin 25 = .ok (.iinc 3 1, 3) := by decide +kernel
theorem dX7_begin_28 : decode cX7_begin 28 = .ok (.goto (-16), 3) := by decide +kernel
theorem dX7_begin_31 : decode cX7_begin 31 = .ok (.return_, 1) := by decide +kernel
theorem dX7_hasRun_0 : decode cX7_hasRun 0 = .ok (.iload_n 1, 1) := by decide +kernel
theorem dX7_hasRun_1 : decode cX7_hasRun 1 = .ok (.ifCond .lt 29, 3) := by decide +kernel
theorem dX7_hasRun_4 : decode cX7_hasRun 4 = .ok (.iload_n 2, 1) := by decide +kernel
theorem dX7_hasRun_5 : decode cX7_hasRun 5 = .ok (.ifCond .lt 25, 3) := by decide +kernel
theorem dX7_hasRun_8 : decode cX7_hasRun 8 = .ok (.iload_n 1, 1) := by decide +kernel
theorem dX7_hasRun_9 : decode cX7_hasRun 9 = .ok (.aload_n 0, 1) := by decide +kernel
theorem dX7_hasRun_10 : decode cX7_hasRun 10 = .ok (.getfield 15, 3) := by decide +kernel
theorem dX7_hasRun_13 : decode cX7_hasRun 13 = .ok (.if_icmp .gt 17, 3) := by decide +kernel
theorem dX7_hasRun_16 : decode cX7_hasRun 16 = .ok (.iload_n 2, 1) := by decide +kernel
theorem dX7_hasRun_17 : decode cX7_hasRun 17 = .ok (.aload_n 0, 1) := by decide +kernel
theorem dX7_hasRun_18 : decode cX7_hasRun 18 = .ok (.getfield 15, 3) := by decide +kernel
theorem dX7_hasRun_21 : decode cX7_hasRun 21 = .ok (.iload_n 1, 1) := by decide +kernel
theorem dX7_hasRun_22 : decode cX7_hasRun 22 = .ok (.isub, 1) := by decide +kernel
theorem dX7_hasRun_23 : decode cX7_hasRun 23 = .ok (.if_icmp .gt 7, 3) := by decide +kernel
theorem dX7_hasRun_26 : decode cX7_hasRun 26 = .ok (.iconst 1, 1) := by decide +kernel
theorem dX7_hasRun_27 : decode cX7_hasRun 27 = .ok (.goto 4, 3) := by decide +kernel
theorem dX7_hasRun_30 : decode cX7_hasRun 30 = .ok (.iconst 0, 1) := by decide +kernel
theorem dX7_hasRun_31 : decode cX7_hasRun 31 = .ok (.ireturn, 1) := by decide +kernel
theorem dX7_write_0 : decode cX7_write 0 = .ok (.aload_n 0, 1) := by decide +kernel
theorem dX7_write_1 : decode cX7_write 1 = .ok (.getfield 18, 3) := by decide +kernel
theorem dX7_write_4 : decode cX7_write 4 = .ok (.iload_n 1, 1) := by decide +kernel
theorem dX7_write_5 : decode cX7_write 5 = .ok (.aload_n 0, 1) := by decide +kernel
theorem dX7_write_6 : decode cX7_write 6 = .ok (.getfield 11, 3) := by decide +kernel
theorem dX7_write_9 : decode cX7_write 9 = .ok (.ifCond .ne 8, 3) := by decide +kernel
theorem dX7_write_12 : decode cX7_write 12 = .ok (.iload_n 2, 1) := by decide +kernel
theorem dX7_write_13 : decode cX7_write 13 = .ok (.i2s, 1) := by decide +kernel
theorem dX7_write_14 : decode cX7_write 14 = .ok (.goto 4, 3) := by decide +kernel
theorem dX7_write_17 : decode cX7_write 17 = .ok (.iload_n 2, 1) := by decide +kernel
theorem dX7_write_18 : decode cX7_write 18 = .ok (.iastore, 1) := by decide +kernel
theorem dX7_write_19 : decode cX7_write 19 = .ok (.return_, 1) := by decide +kernel
theorem dX8_init_0 : decode cX8_init 0 = .ok (.aload_n 0, 1) := by decide +kernel
theorem dX8_init_1 : decode cX8_init 1 = .ok (.invokespecial 3, 3) := by decide +kernel
theorem dX8_init_4 : decode cX8_init 4 = .ok (.aload_n 0, 1) := by decide +kernel
theorem dX8_init_5 : decode cX8_init 5 = .ok (.bipush 120, 2) := by decide +kernel
theorem dX8_init_7 : decode cX8_init 7 = .ok (.newarray .byte, 2) := by decide +kernel
theorem dX8_init_9 : decode cX8_init 9 = .ok (.putfield 9, 3) := by decide +kernel
theorem dX8_init_12 : decode cX8_init 12 = .ok (.aload_n 0, 1) := by decide +kernel
theorem dX8_init_13 : decode cX8_init 13 = .ok (.iconst 0, 1) := by decide +kernel
theorem dX8_init_14 : decode cX8_init 14 = .ok (.putfield 15, 3) := by decide +kernel
theorem dX8_init_17 : decode cX8_init 17 = .ok (.aload_n 0, 1) := by decide +kernel
theorem dX8_init_18 : decode cX8_init 18 = .ok (.iconst 0, 1) := by decide +kernel
theorem dX8_init_19 : decode cX8_init 19 = .ok (.putfield 19, 3) := by decide +kernel
theorem dX8_init_22 : decode cX8_init 22 = .ok (.aload_n 0, 1) := by decide +kernel
theorem dX8_init_23 : decode cX8_init 23 = .ok (.iconst 0, 1) := by decide +kernel
theorem dX8_init_24 : decode cX8_init 24 = .ok (.putfield 22, 3) := by decide +kernel
theorem dX8_init_27 : decode cX8_init 27 = .ok (.aload_n 0, 1) := by decide +kernel
theorem dX8_init_28 : decode cX8_init 28 = .ok (.iconst 0, 1) := by decide +kernel
theorem dX8_init_29 : decode cX8_init 29 = .ok (.putfield 25, 3) := by decide +kernel
theorem dX8_init_32 : decode cX8_init 32 = .ok (.aload_n 0, 1) := by decide +kernel
theorem dX8_init_33 : decode cX8_init 33 = .ok (.iconst 0, 1) := by decide +kernel
theorem dX8_init_34 : decode cX8_init 34 = .ok (.putfield 28, 3) := by decide +kernel
theorem dX8_init_37 : decode cX8_init 37 = .ok (.return_, 1) := by decide +kernel
theorem dX8_add_0 : decode cX8_add 0 = .ok (.aload_n 0, 1) := by decide +kernel
theorem dX8_add_1 : decode cX8_add 1 = .ok (.getfield 15, 3) := by decide +kernel
theorem dX8_add_4 : decode cX8_add 4 = .ok (.bipush 120, 2) := by decide +kernel
theorem dX8_add_6 : decode cX8_add 6 = .ok (.if_icmp .ge 24, 3) := by decide +kernel
theorem dX8_add_9 : decode cX8_add 9 = .ok (.aload_n 0, 1) := by decide +kernel
theorem dX8_add_10 : decode cX8_add 10 = .ok (.getfield 9, 3) := by decide +kernel
theorem dX8_add_13 : decode cX8_add 13 = .ok (.aload_n 0, 1) := by decide +kernel
theorem dX8_add_14 : decode cX8_add 14 = .ok (.getfield 15, 3) := by decide +kernel
theorem dX8_add_17 : decode cX8_add 17 = .ok (.iload_n 1, 1) := by decide +kernel
theorem dX8_add_18 : decode cX8_add 18 = .ok (.i2b, 1) := by decide +kernel
theorem dX8_add_19 : decode cX8_add 19 = .ok (.bastore, 1) := by decide +kernel
theorem dX8_add_20 : decode cX8_add 20 = .ok (.aload_n 0, 1) := by decide +kernel
theorem dX8_add_21 : decode cX8_add 21 = .ok (.dup, 1) := by decide +kernel
theorem dX8_add_22 : decode cX8_add 22 = .ok (.getfield 15, 3) := by decide +kernel
theorem dX8_add_25 : decode cX8_add 25 = .ok (.iconst 1, 1) := by decide +kernel
theorem dX8_add_26 : decode cX8_add 26 = .ok (.iadd, 1) := by decide +kernel
theorem dX8_add_27 : decode cX8_add 27 = .ok (.putfield 15, 3) := by decide +kernel
theorem dX8_add_30 : decode cX8_add 30 = .ok (.return_, 1) := by decide +kernel
theorem dX8_readCourse_0 : decode cX8_readCourse 0 = .ok (.aload_n 1, 1) := by decide +kernel
theorem dX8_readCourse_1 : decode cX8_readCourse 1 = .ok (.iconst 0, 1) := by decide +kernel
theorem dX8_readCourse_2 : decode cX8_readCourse 2 = .ok (.putfield 31, 3) := by decide +kernel
theorem dX8_readCourse_5 : decode cX8_readCourse 5 = .ok (.aload_n 0, 1) := by decide +kernel
theorem dX8_readCourse_6 : decode cX8_readCourse 6 = .ok (.iconst 0, 1) := by decide +kernel
theorem dX8_readCourse_7 : decode cX8_readCourse 7 = .ok (.putfield 28, 3) := by decide +kernel
theorem dX8_readCourse_10 : decode cX8_readCourse 10 = .ok (.aload_n 0, 1) := by decide +kernel
theorem dX8_readCourse_11 : decode cX8_readCourse 11 = .ok (.invokevirtual 36, 3) := by decide +kernel
theorem dX8_readCourse_14 : decode cX8_readCourse 14 = .ok (.iconst 0, 1) := by decide +kernel
theorem dX8_readCourse_15 : decode cX8_readCourse 15 = .ok (.istore_n 2, 1) := by decide +kernel
theorem dX8_readCourse_16 : decode cX8_readCourse 16 = .ok (.iload_n 2, 1) := by decide +kernel
theorem dX8_readCourse_17 : decode cX8_readCourse 17 = .ok (.bipush 6, 2) := by decide +kernel
theorem dX8_readCourse_19 : decode cX8_readCourse 19 = .ok (.if_icmp .ge 49, 3) := by decide +kernel
theorem dX8_readCourse_22 : decode cX8_readCourse 22 = .ok (.aload_n 0, 1) := by decide +kernel
theorem dX8_readCourse_23 : decode cX8_readCourse 23 = .ok (.aload_n 1, 1) := by decide +kernel
theorem dX8_readCourse_24 : decode cX8_readCourse 24 = .ok (.invokevirtual 39, 3) := by decide +kernel
theorem dX8_readCourse_27 : decode cX8_readCourse 27 = .ok (.ifCond .ne 8, 3) := by decide +kernel
theorem dX8_readCourse_30 : decode cX8_readCourse 30 = .ok (.aload_n 0, 1) := by decide +kernel
theorem dX8_readCourse_31 : decode cX8_readCourse 31 = .ok (.getfield 25, 3) := by decide +kernel
theorem dX8_readCourse_34 : decode cX8_readCourse 34 = .ok (.ireturn, 1) := by decide +kernel
theorem dX8_readCourse_35 : decode cX8_readCourse 35 = .ok (.aload_n 0, 1) := by decide +kernel
theorem dX8_readCourse_36 : decode cX8_readCourse 36 = .ok (.getfield 19, 3) := by decide +kernel
theorem dX8_readCourse_39 : decode cX8_readCourse 39 = .ok (.ifCond .ne 5, 3) := by decide +kernel
theorem dX8_readCourse_42 : decode cX8_readCourse 42 = .ok (.iconst (-1), 1) := by decide +kernel
theorem dX8_readCourse_43 : decode cX8_readCourse 43 = .ok (.ireturn, 1) := by decide +kernel
theorem dX8_readCourse_44 : decode cX8_readCourse 44 = .ok (.aload_n 0, 1) := by decide +kernel
theorem dX8_readCourse_45 : decode cX8_readCourse 45 = .ok (.getfield 19, 3) := by decide +kernel
theorem dX8_readCourse_48 : decode cX8_readCourse 48 = .ok (.bipush 6, 2) := by decide +kernel
theorem dX8_readCourse_50 : decode cX8_readCourse 50 = .ok (.if_icmp .eq 8, 3) := by decide +kernel
theorem dX8_readCourse_53 : decode cX8_readCourse 53 = .ok (.aload_n 0, 1) := by decide +kernel
theorem dX8_readCourse_54 : decode cX8_readCourse 54 = .ok (.getfield 25, 3) := by decide +kernel
theorem dX8_readCourse_57 : decode cX8_readCourse 57 = .ok (.ireturn, 1) := by decide +kernel
theorem dX8_readCourse_58 : decode cX8_readCourse 58 = .ok (.aload_n 0, 1) := by decide +kernel
theorem dX8_readCourse_59 : decode cX8_readCourse 59 = .ok (.invokevirtual 36, 3) := by decide +kernel
theorem dX8_readCourse_62 : decode cX8_readCourse 62 = .ok (.iinc 2 1, 3) := by decide +kernel
theorem dX8_readCourse_65 : decode cX8_readCourse 65 = .ok (.goto (-49), 3) := by decide +kernel
theorem dX8_readCourse_68 : decode cX8_readCourse 68 = .ok (.aload_n 0, 1) := by decide +kernel
theorem dX8_readCourse_69 : decode cX8_readCourse 69 = .ok (.getfield 25, 3) := by decide +kernel
theorem dX8_readCourse_72 : decode cX8_readCourse 72 = .ok (.ireturn, 1) := by decide +kernel
theorem dX8_readLeg_0 : decode cX8_readLeg 0 = .ok (.aload_n 0, 1) := by decide +kernel
theorem dX8_readLeg_1 : decode cX8_readLeg 1 = .ok (.getfield 19, 3) := by decide +kernel
theorem dX8_readLeg_4 : decode cX8_readLeg 4 = .ok (.iconst 2, 1) := by decide +kernel
theorem dX8_readLeg_5 : decode cX8_readLeg 5 = .ok (.if_icmp .eq 5, 3) := by decide +kernel
theorem dX8_readLeg_8 : decode cX8_readLeg 8 = .ok (.iconst 0, 1) := by decide +kernel
theorem dX8_readLeg_9 : decode cX8_readLeg 9 = .ok (.ireturn, 1) := by decide +kernel
theorem dX8_readLeg_10 : decode cX8_readLeg 10 = .ok (.aload_n 0, 1) := by decide +kernel
theorem dX8_readLeg_11 : decode cX8_readLeg 11 = .ok (.getfield 22, 3) := by decide +kernel
theorem dX8_readLeg_14 : decode cX8_readLeg 14 = .ok (.istore_n 2, 1) := by decide +kernel
theorem dX8_readLeg_15 : decode cX8_readLeg 15 = .ok (.aload_n 0, 1) := by decide +kernel
theorem dX8_readLeg_16 : decode cX8_readLeg 16 = .ok (.getfield 22, 3) := by decide +kernel
theorem dX8_readLeg_19 : decode cX8_readLeg 19 = .ok (.istore_n 3, 1) := by decide +kernel
theorem dX8_readLeg_20 : decode cX8_readLeg 20 = .ok (.aload_n 0, 1) := by decide +kernel
theorem dX8_readLeg_21 : decode cX8_readLeg 21 = .ok (.getfield 22, 3) := by decide +kernel
theorem dX8_readLeg_24 : decode cX8_readLeg 24 = .ok (.istore 4, 2) := by decide +kernel
theorem dX8_readLeg_26 : decode cX8_readLeg 26 = .ok (.aload_n 0, 1) := by decide +kernel
theorem dX8_readLeg_27 : decode cX8_readLeg 27 = .ok (.invokevirtual 36, 3) := by decide +kernel
theorem dX8_readLeg_30 : decode cX8_readLeg 30 = .ok (.aload_n 0, 1) := by decide +kernel
theorem dX8_readLeg_31 : decode cX8_readLeg 31 = .ok (.getfield 19, 3) := by decide +kernel
theorem dX8_readLeg_34 : decode cX8_readLeg 34 = .ok (.iconst 5, 1) := by decide +kernel
theorem dX8_readLeg_35 : decode cX8_readLeg 35 = .ok (.if_icmp .ne 40, 3) := by decide +kernel
theorem dX8_readLeg_38 : decode cX8_readLeg 38 = .ok (.aload_n 0, 1) := by decide +kernel
theorem dX8_readLeg_39 : decode cX8_readLeg 39 = .ok (.invokevirtual 43, 3) := by decide +kernel
theorem dX8_readLeg_42 : decode cX8_readLeg 42 = .ok (.ifCond .ne 5, 3) := by decide +kernel
theorem dX8_readLeg_45 : decode cX8_readLeg 45 = .ok (.iconst 0, 1) := by decide +kernel
theorem dX8_readLeg_46 : decode cX8_readLeg 46 = .ok (.ireturn, 1) := by decide +kernel
theorem dX8_readLeg_47 : decode cX8_readLeg 47 = .ok (.aload_n 0, 1) := by decide +kernel
theorem dX8_readLeg_48 : decode cX8_readLeg 48 = .ok (.getfield 22, 3) := by decide +kernel
theorem dX8_readLeg_51 : decode cX8_readLeg 51 = .ok (.istore_n 3, 1) := by decide +kernel
theorem dX8_readLeg_52 : decode cX8_readLeg 52 = .ok (.aload_n 0, 1) := by decide +kernel
theorem dX8_readLeg_53 : decode cX8_readLeg 53 = .ok (.invokevirtual 36, 3) := by decide +kernel
theorem dX8_readLeg_56 : decode cX8_readLeg 56 = .ok (.aload_n 0, 1) := by decide +kernel
theorem dX8_readLeg_57 : decode cX8_readLeg 57 = .ok (.invokevirtual 43, 3) := by decide +kernel
theorem dX8_readLeg_60 : decode cX8_readLeg 60 = .ok (.ifCond .ne 5, 3) := by decide +kernel
theorem dX8_readLeg_63 : decode cX8_readLeg 63 = .ok (.iconst 0, 1) := by decide +kernel
theorem dX8_readLeg_64 : decode cX8_readLeg 64 = .ok (.ireturn, 1) := by decide +kernel
theorem dX8_readLeg_65 : decode cX8_readLeg 65 = .ok (.aload_n 0, 1) := by decide +kernel
theorem dX8_readLeg_66 : decode cX8_readLeg 66 = .ok (.getfield 22, 3) := by decide +kernel
theorem dX8_readLeg_69 : decode cX8_readLeg 69 = .ok (.istore 4, 2) := by decide +kernel
theorem dX8_readLeg_71 : decode cX8_readLeg 71 = .ok (.aload_n 0, 1) := by decide +kernel
theorem dX8_readLeg_72 : decode cX8_readLeg 72 = .ok (.invokevirtual 36, 3) := by decide +kernel
theorem dX8_readLeg_75 : decode cX8_readLeg 75 = .ok (.iconst 1, 1) := by decide +kernel
theorem dX8_readLeg_76 : decode cX8_readLeg 76 = .ok (.istore 5, 2) := by decide +kernel
theorem dX8_readLeg_78 : decode cX8_readLeg 78 = .ok (.aload_n 0, 1) := by decide +kernel
theorem dX8_readLeg_79 : decode cX8_readLeg 79 = .ok (.getfield 19, 3) := by decide +kernel
theorem dX8_readLeg_82 : decode cX8_readLeg 82 = .ok (.iconst 3, 1) := by decide +kernel
theorem dX8_readLeg_83 : decode cX8_readLeg 83 = .ok (.if_icmp .ne 27, 3) := by decide +kernel
theorem dX8_readLeg_86 : decode cX8_readLeg 86 = .ok (.aload_n 0, 1) := by decide +kernel
theorem dX8_readLeg_87 : decode cX8_readLeg 87 = .ok (.invokevirtual 36, 3) := by decide +kernel
theorem dX8_readLeg_90 : decode cX8_readLeg 90 = .ok (.aload_n 0, 1) := by decide +kernel
theorem dX8_readLeg_91 : decode cX8_readLeg 91 = .ok (.getfield 19, 3) := by decide +kernel
theorem dX8_readLeg_94 : decode cX8_readLeg 94 = .ok (.iconst 4, 1) := by decide +kernel
theorem dX8_readLeg_95 : decode cX8_readLeg 95 = .ok (.if_icmp .eq 5, 3) := by decide +kernel
theorem dX8_readLeg_98 : decode cX8_readLeg 98 = .ok (.iconst 0, 1) := by decide +kernel
theorem dX8_readLeg_99 : decode cX8_readLeg 99 = .ok (.ireturn, 1) := by decide +kernel
theorem dX8_readLeg_100 : decode cX8_readLeg 100 = .ok (.aload_n 0, 1) := by decide +kernel
theorem dX8_readLeg_101 : decode cX8_readLeg 101 = .ok (.getfield 22, 3) := by decide +kernel
theorem dX8_readLeg_104 : decode cX8_readLeg 104 = .ok (.istore 5, 2) := by decide +kernel
theorem dX8_readLeg_106 : decode cX8_readLeg 106 = .ok (.aload_n 0, 1) := by decide +kernel
theorem dX8_readLeg_107 : decode cX8_readLeg 107 = .ok (.invokevirtual 36, 3) := by decide +kernel
theorem dX8_readLeg_110 : decode cX8_readLeg 110 = .ok (.aload_n 1, 1) := by decide +kernel
theorem dX8_readLeg_111 : decode cX8_readLeg 111 = .ok (.iload_n 2, 1) := by decide +kernel
theorem dX8_readLeg_112 : decode cX8_readLeg 112 = .ok (.iload_n 3, 1) := by decide +kernel
theorem dX8_readLeg_113 : decode cX8_readLeg 113 = .ok (.iload 4, 2) := by decide +kernel
theorem dX8_readLeg_115 : decode cX8_readLeg 115 = .ok (.iload 5, 2) := by decide +kernel
theorem dX8_readLeg_117 : decode cX8_readLeg 117 = .ok (.invokevirtual 47, 3) := by decide +kernel
theorem dX8_readLeg_120 : decode cX8_readLeg 120 = .ok (.iconst 1, 1) := by decide +kernel
theorem dX8_readLeg_121 : decode cX8_readLeg 121 = .ok (.ireturn, 1) := by decide +kernel
theorem dX8_readSettingBehindSlash_0 : decode cX8_readSettingBehindSlash 0 = .ok (.aload_n 0, 1) := by decide +kernel
theorem dX8_readSettingBehindSlash_1 : decode cX8_readSettingBehindSlash 1 = .ok (.getfield 19, 3) := by decide +kernel
theorem dX8_readSettingBehindSlash_4 : decode cX8_readSettingBehindSlash 4 = .ok (.iconst 5, 1) := by decide +kernel
theorem dX8_readSettingBehindSlash_5 : decode cX8_readSettingBehindSlash 5 = .ok (.if_icmp .eq 5, 3) := by decide +kernel
theorem dX8_readSettingBehindSlash_8 : decode cX8_readSettingBehindSlash 8 = .ok (.iconst 0, 1) := by decide +kernel
theorem dX8_readSettingBehindSlash_9 : decode cX8_readSettingBehindSlash 9 = .ok (.ireturn, 1) := by decide +kernel
theorem dX8_readSettingBehindSlash_10 : decode cX8_readSettingBehindSlash 10 = .ok (.aload_n 0, 1) := by decide +kernel
theorem dX8_readSettingBehindSlash_11 : decode cX8_readSettingBehindSlash 11 = .ok (.invokevirtual 36, 3) := by decide +kernel
theorem dX8_readSettingBehindSlash_14 : decode cX8_readSettingBehindSlash 14 = .ok (.aload_n 0, 1) := by decide +kernel
theorem dX8_readSettingBehindSlash_15 : decode cX8_readSettingBehindSlash 15 = .ok (.getfield 19, 3) := by decide +kernel
theorem dX8_readSettingBehindSlash_18 : decode cX8_readSettingBehindSlash 18 = .ok (.iconst 2, 1) := by decide +kernel
theorem dX8_readSettingBehindSlash_19 : decode cX8_readSettingBehindSlash 19 = .ok (.if_icmp .ne 7, 3) := by decide +kernel
theorem dX8_readSettingBehindSlash_22 : decode cX8_readSettingBehindSlash 22 = .ok (.iconst 1, 1) := by decide +kernel
theorem dX8_readSettingBehindSlash_23 : decode cX8_readSettingBehindSlash 23 = .ok (.goto 4, 3) := by decide +kernel
theorem dX8_readSettingBehindSlash_26 : decode cX8_readSettingBehindSlash 26 = .ok (.iconst 0, 1) := by decide +kernel
theorem dX8_readSettingBehindSlash_27 : decode cX8_readSettingBehindSlash 27 = .ok (.ireturn, 1) := by decide +kernel
theorem dX8_nextToken_0 : decode cX8_nextToken 0 = .ok (.aload_n 0, 1) := by decide +kernel
theorem dX8_nextToken_1 : decode cX8_nextToken 1 = .ok (.aload_n 0, 1) := by decide +kernel
theorem dX8_nextToken_2 : decode cX8_nextToken 2 = .ok (.getfield 28, 3) := by decide +kernel
theorem dX8_nextToken_5 : decode cX8_nextToken 5 = .ok (.putfield 25, 3) := by decide +kernel
theorem dX8_nextToken_8 : decode cX8_nextToken 8 = .ok (.aload_n 0, 1) := by decide +kernel
theorem dX8_nextToken_9 : decode cX8_nextToken 9 = .ok (.getfield 25, 3) := by decide +kernel
theorem dX8_nextToken_12 : decode cX8_nextToken 12 = .ok (.aload_n 0, 1) := by decide +kernel
theorem dX8_nextToken_13 : decode cX8_nextToken 13 = .ok (.getfield 15, 3) := by decide +kernel
theorem dX8_nextToken_16 : decode cX8_nextToken 16 = .ok (.if_icmp .ge 31, 3) := by decide +kernel
theorem dX8_nextToken_19 : decode cX8_nextToken 19 = .ok (.aload_n 0, 1) := by decide +kernel
theorem dX8_nextToken_20 : decode cX8_nextToken 20 = .ok (.getfield 9, 3) := by decide +kernel
theorem dX8_nextToken_23 : decode cX8_nextToken 23 = .ok (.aload_n 0, 1) := by decide +kernel
theorem dX8_nextToken_24 : decode cX8_nextToken 24 = .ok (.getfield 25, 3) := by decide +kernel
theorem dX8_nextToken_27 : decode cX8_nextToken 27 = .ok (.baload, 1) := by decide +kernel
theorem dX8_nextToken_28 : decode cX8_nextToken 28 = .ok (.invokestatic 51, 3) := by decide +kernel
theorem dX8_nextToken_31 : decode cX8_nextToken 31 = .ok (.ifCond .eq 16, 3) := by decide +kernel
theorem dX8_nextToken_34 : decode cX8_nextToken 34 = .ok (.aload_n 0, 1) := by decide +kernel
theorem dX8_nextToken_35 : decode cX8_nextToken 35 = .ok (.dup, 1) := by decide +kernel
theorem dX8_nextToken_36 : decode cX8_nextToken 36 = .ok (.getfield 25, 3) := by decide +kernel
theorem dX8_nextToken_39 : decode cX8_nextToken 39 = .ok (.iconst 1, 1) := by decide +kernel
theorem dX8_nextToken_40 : decode cX8_nextToken 40 = .ok (.iadd, 1) := by decide +kernel
theorem dX8_nextToken_41 : decode cX8_nextToken 41 = .ok (.putfield 25, 3) := by decide +kernel
theorem dX8_nextToken_44 : decode cX8_nextToken 44 = .ok (.goto (-36), 3) := by decide +kernel
theorem dX8_nextToken_47 : decode cX8_nextToken 47 = .ok (.aload_n 0, 1) := by decide +kernel
theorem dX8_nextToken_48 : decode cX8_nextToken 48 = .ok (.aload_n 0, 1) := by decide +kernel
theorem dX8_nextToken_49 : decode cX8_nextToken 49 = .ok (.getfield 25, 3) := by decide +kernel
theorem dX8_nextToken_52 : decode cX8_nextToken 52 = .ok (.putfield 28, 3) := by decide +kernel
theorem dX8_nextToken_55 : decode cX8_nextToken 55 = .ok (.aload_n 0, 1) := by decide +kernel
theorem dX8_nextToken_56 : decode cX8_nextToken 56 = .ok (.getfield 25, 3) := by decide +kernel
theorem dX8_nextToken_59 : decode cX8_nextToken 59 = .ok (.aload_n 0, 1) := by decide +kernel
theorem dX8_nextToken_60 : decode cX8_nextToken 60 = .ok (.getfield 15, 3) := by decide +kernel
theorem dX8_nextToken_63 : decode cX8_nextToken 63 = .ok (.if_icmp .lt 11, 3) := by decide +kernel
theorem dX8_nextToken_66 : decode cX8_nextToken 66 = .ok (.aload_n 0, 1) := by decide +kernel
theorem dX8_nextToken_67 : decode cX8_nextToken 67 = .ok (.iconst 0, 1) := by decide +kernel
theorem dX8_nextToken_68 : decode cX8_nextToken 68 = .ok (.putfield 19, 3) := by decide +kernel
theorem dX8_nextToken_71 : decode cX8_nextToken 71 = .ok (.goto 99, 3) := by decide +kernel
theorem dX8_nextToken_74 : decode cX8_nextToken 74 = .ok (.aload_n 0, 1) := by decide +kernel
theorem dX8_nextToken_75 : decode cX8_nextToken 75 = .ok (.getfield 9, 3) := by decide +kernel
theorem dX8_nextToken_78 : decode cX8_nextToken 78 = .ok (.aload_n 0, 1) := by decide +kernel
theorem dX8_nextToken_79 : decode cX8_nextToken 79 = .ok (.getfield 25, 3) := by decide +kernel
theorem dX8_nextToken_82 : decode cX8_nextToken 82 = .ok (.baload, 1) := by decide +kernel
theorem dX8_nextToken_83 : decode cX8_nextToken 83 = .ok (.invokestatic 55, 3) := by decide +kernel
theorem dX8_nextToken_86 : decode cX8_nextToken 86 = .ok (.ifCond .eq 10, 3) := by decide +kernel
theorem dX8_nextToken_89 : decode cX8_nextToken 89 = .ok (.aload_n 0, 1) := by decide +kernel
theorem dX8_nextToken_90 : decode cX8_nextToken 90 = .ok (.invokevirtual 58, 3) := by decide +kernel
theorem dX8_nextToken_93 : decode cX8_nextToken 93 = .ok (.goto 77, 3) := by decide +kernel
theorem dX8_nextToken_96 : decode cX8_nextToken 96 = .ok (.aload_n 0, 1) := by decide +kernel
theorem dX8_nextToken_97 : decode cX8_nextToken 97 = .ok (.getfield 9, 3) := by decide +kernel
theorem dX8_nextToken_100 : decode cX8_nextToken 100 = .ok (.aload_n 0, 1) := by decide +kernel
theorem dX8_nextToken_101 : decode cX8_nextToken 101 = .ok (.getfield 25, 3) := by decide +kernel
theorem dX8_nextToken_104 : decode cX8_nextToken 104 = .ok (.baload, 1) := by decide +kernel
theorem dX8_nextToken_105 : decode cX8_nextToken 105 = .ok (.invokestatic 61, 3) := by decide +kernel
theorem dX8_nextToken_108 : decode cX8_nextToken 108 = .ok (.ifCond .eq 10, 3) := by decide +kernel
theorem dX8_nextToken_111 : decode cX8_nextToken 111 = .ok (.aload_n 0, 1) := by decide +kernel
theorem dX8_nextToken_112 : decode cX8_nextToken 112 = .ok (.invokevirtual 64, 3) := by decide +kernel
theorem dX8_nextToken_115 : decode cX8_nextToken 115 = .ok (.goto 55, 3) := by decide +kernel
theorem dX8_nextToken_118 : decode cX8_nextToken 118 = .ok (.aload_n 0, 1) := by decide +kernel
theorem dX8_nextToken_119 : decode cX8_nextToken 119 = .ok (.aload_n 0, 1) := by decide +kernel
theorem dX8_nextToken_120 : decode cX8_nextToken 120 = .ok (.getfield 25, 3) := by decide +kernel
theorem dX8_nextToken_123 : decode cX8_nextToken 123 = .ok (.iconst 1, 1) := by decide +kernel
theorem dX8_nextToken_124 : decode cX8_nextToken 124 = .ok (.iadd, 1) := by decide +kernel
theorem dX8_nextToken_125 : decode cX8_nextToken 125 = .ok (.putfield 28, 3) := by decide +kernel
theorem dX8_nextToken_128 : decode cX8_nextToken 128 = .ok (.aload_n 0, 1) := by decide +kernel
theorem dX8_nextToken_129 : decode cX8_nextToken 129 = .ok (.aload_n 0, 1) := by decide +kernel
theorem dX8_nextToken_130 : decode cX8_nextToken 130 = .ok (.getfield 9, 3) := by decide +kernel
theorem dX8_nextToken_133 : decode cX8_nextToken 133 = .ok (.aload_n 0, 1) := by decide +kernel
theorem dX8_nextToken_134 : decode cX8_nextToken 134 = .ok (.getfield 25, 3) := by decide +kernel
theorem dX8_nextToken_137 : decode cX8_nextToken 137 = .ok (.baload, 1) := by decide +kernel
theorem dX8_nextToken_138 : decode cX8_nextToken 138 = .ok (.bipush 47, 2) := by decide +kernel
theorem dX8_nextToken_140 : decode cX8_nextToken 140 = .ok (.if_icmp .ne 7, 3) := by decide +kernel
theorem dX8_nextToken_143 : decode cX8_nextToken 143 = .ok (.iconst 5, 1) := by decide +kernel
theorem dX8_nextToken_144 : decode cX8_nextToken 144 = .ok (.goto 23, 3) := by decide +kernel
theorem dX8_nextToken_147 : decode cX8_nextToken 147 = .ok (.aload_n 0, 1) := by decide +kernel
theorem dX8_nextToken_148 : decode cX8_nextToken 148 = .ok (.getfield 9, 3) := by decide +kernel
theorem dX8_nextToken_151 : decode cX8_nextToken 151 = .ok (.aload_n 0, 1) := by decide +kernel
theorem dX8_nextToken_152 : decode cX8_nextToken 152 = .ok (.getfield 25, 3) := by decide +kernel
theorem dX8_nextToken_155 : decode cX8_nextToken 155 = .ok (.baload, 1) := by decide +kernel
theorem dX8_nextToken_156 : decode cX8_nextToken 156 = .ok (.bipush 59, 2) := by decide +kernel
theorem dX8_nextToken_158 : decode cX8_nextToken 158 = .ok (.if_icmp .ne 8, 3) := by decide +kernel
theorem dX8_nextToken_161 : decode cX8_nextToken 161 = .ok (.bipush 6, 2) := by decide +kernel
theorem dX8_nextToken_163 : decode cX8_nextToken 163 = .ok (.goto 4, 3) := by decide +kernel
theorem dX8_nextToken_166 : decode cX8_nextToken 166 = .ok (.iconst 1, 1) := by decide +kernel
theorem dX8_nextToken_167 : decode cX8_nextToken 167 = .ok (.putfield 19, 3) := by decide +kernel
theorem dX8_nextToken_170 : decode cX8_nextToken 170 = .ok (.return_, 1) := by decide +kernel
theorem dX8_readWord_0 : decode cX8_readWord 0 = .ok (.aload_n 0, 1) := by decide +kernel
theorem dX8_readWord_1 : decode cX8_readWord 1 = .ok (.getfield 28, 3) := by decide +kernel
theorem dX8_readWord_4 : decode cX8_readWord 4 = .ok (.aload_n 0, 1) := by decide +kernel
theorem dX8_readWord_5 : decode cX8_readWord 5 = .ok (.getfield 15, 3) := by decide +kernel
theorem dX8_readWord_8 : decode cX8_readWord 8 = .ok (.if_icmp .ge 31, 3) := by decide +kernel
theorem dX8_readWord_11 : decode cX8_readWord 11 = .ok (.aload_n 0, 1) := by decide +kernel
theorem dX8_readWord_12 : decode cX8_readWord 12 = .ok (.getfield 9, 3) := by decide +kernel
theorem dX8_readWord_15 : decode cX8_readWord 15 = .ok (.aload_n 0, 1) := by decide +kernel
theorem dX8_readWord_16 : decode cX8_readWord 16 = .ok (.getfield 28, 3) := by decide +kernel
theorem dX8_readWord_19 : decode cX8_readWord 19 = .ok (.baload, 1) := by decide +kernel
theorem dX8_readWord_20 : decode cX8_readWord 20 = .ok (.invokestatic 55, 3) := by decide +kernel
theorem dX8_readWord_23 : decode cX8_readWord 23 = .ok (.ifCond .eq 16, 3) := by decide +kernel
theorem dX8_readWord_26 : decode cX8_readWord 26 = .ok (.aload_n 0, 1) := by decide +kernel
theorem dX8_readWord_27 : decode cX8_readWord 27 = .ok (.dup, 1) := by decide +kernel
theorem dX8_readWord_28 : decode cX8_readWord 28 = .ok (.getfield 28, 3) := by decide +kernel
theorem dX8_readWord_31 : decode cX8_readWord 31 = .ok (.iconst 1, 1) := by decide +kernel
theorem dX8_readWord_32 : decode cX8_readWord 32 = .ok (.iadd, 1) := by decide +kernel
theorem dX8_readWord_33 : decode cX8_readWord 33 = .ok (.putfield 28, 3) := by decide +kernel
theorem dX8_readWord_36 : decode cX8_readWord 36 = .ok (.goto (-36), 3) := by decide +kernel
theorem dX8_readWord_39 : decode cX8_readWord 39 = .ok (.aload_n 0, 1) := by decide +kernel
theorem dX8_readWord_40 : decode cX8_readWord 40 = .ok (.aload_n 0, 1) := by decide +kernel
theorem dX8_readWord_41 : decode cX8_readWord 41 = .ok (.ldc 67, 2) := by decide +kernel
theorem dX8_readWord_43 : decode cX8_readWord 43 = .ok (.invokevirtual 69, 3) := by decide +kernel
theorem dX8_readWord_46 : decode cX8_readWord 46 = .ok (.ifCond .eq 7, 3) := by decide +kernel
theorem dX8_readWord_49 : decode cX8_readWord 49 = .ok (.iconst 3, 1) := by decide +kernel
theorem dX8_readWord_50 : decode cX8_readWord 50 = .ok (.goto 4, 3) := by decide +kernel
theorem dX8_readWord_53 : decode cX8_readWord 53 = .ok (.iconst 1, 1) := by decide +kernel
theorem dX8_readWord_54 : decode cX8_readWord 54 = .ok (.putfield 19, 3) := by decide +kernel
theorem dX8_readWord_57 : decode cX8_readWord 57 = .ok (.iconst 0, 1) := by decide +kernel
theorem dX8_readWord_58 : decode cX8_readWord 58 = .ok (.istore_n 1, 1) := by decide +kernel
theorem dX8_readWord_59 : decode cX8_readWord 59 = .ok (.iload_n 1, 1) := by decide +kernel
theorem dX8_readWord_60 : decode cX8_readWord 60 = .ok (.iconst 4, 1) := by decide +kernel
theorem dX8_readWord_61 : decode cX8_readWord 61 = .ok (.if_icmp .ge 30, 3) := by decide +kernel
theorem dX8_readWord_64 : decode cX8_readWord 64 = .ok (.aload_n 0, 1) := by decide +kernel
theorem dX8_readWord_65 : decode cX8_readWord 65 = .ok (.iload_n 1, 1) := by decide +kernel
theorem dX8_readWord_66 : decode cX8_readWord 66 = .ok (.invokestatic 73, 3) := by decide +kernel
theorem dX8_readWord_69 : decode cX8_readWord 69 = .ok (.invokevirtual 69, 3) := by decide +kernel
theorem dX8_readWord_72 : decode cX8_readWord 72 = .ok (.ifCond .eq 13, 3) := by decide +kernel
theorem dX8_readWord_75 : decode cX8_readWord 75 = .ok (.aload_n 0, 1) := by decide +kernel
theorem dX8_readWord_76 : decode cX8_readWord 76 = .ok (.iconst 2, 1) := by decide +kernel
theorem dX8_readWord_77 : decode cX8_readWord 77 = .ok (.putfield 19, 3) := by decide +kernel
theorem dX8_readWord_80 : decode cX8_readWord 80 = .ok (.aload_n 0, 1) := by decide +kernel
theorem dX8_readWord_81 : decode cX8_readWord 81 = .ok (.iload_n 1, 1) := by decide +kernel
theorem dX8_readWord_82 : decode cX8_readWord 82 = .ok (.putfield 22, 3) := by decide +kernel
theorem dX8_readWord_85 : decode cX8_readWord 85 = .ok (.iinc 1 1, 3) := by decide +kernel
theorem dX8_readWord_88 : decode cX8_readWord 88 = .ok (.goto (-29), 3) := by decide +kernel
theorem dX8_readWord_91 : decode cX8_readWord 91 = .ok (.return_, 1) := by decide +kernel
theorem dX8_isWord_0 : decode cX8_isWord 0 = .ok (.aload_n 0, 1) := by decide +kernel
theorem dX8_isWord_1 : decode cX8_isWord 1 = .ok (.getfield 28, 3) := by decide +kernel
theorem dX8_isWord_4 : decode cX8_isWord 4 = .ok (.aload_n 0, 1) := by decide +kernel
theorem dX8_isWord_5 : decode cX8_isWord 5 = .ok (.getfield 25, 3) := by decide +kernel
theorem dX8_isWord_8 : decode cX8_isWord 8 = .ok (.isub, 1) := by decide +kernel
theorem dX8_isWord_9 : decode cX8_isWord 9 = .ok (.aload_n 1, 1) := by decide +kernel
theorem dX8_isWord_10 : decode cX8_isWord 10 = .ok (.invokevirtual 79, 3) := by decide +kernel
theorem dX8_isWord_13 : decode cX8_isWord 13 = .ok (.if_icmp .eq 5, 3) := by decide +kernel
theorem dX8_isWord_16 : decode cX8_isWord 16 = .ok (.iconst 0, 1) := by decide +kernel
theorem dX8_isWord_17 : decode cX8_isWord 17 = .ok (.ireturn, 1) := by decide +kernel
theorem dX8_isWord_18 : decode cX8_isWord 18 = .ok (.iconst 0, 1) := by decide +kernel
theorem dX8_isWord_19 : decode cX8_isWord 19 = .ok (.istore_n 2, 1) := by decide +kernel
theorem dX8_isWord_20 : decode cX8_isWord 20 = .ok (.iload_n 2, 1) := by decide +kernel
theorem dX8_isWord_21 : decode cX8_isWord 21 = .ok (.aload_n 1, 1) := by decide +kernel
theorem dX8_isWord_22 : decode cX8_isWord 22 = .ok (.invokevirtual 79, 3) := by decide +kernel
theorem dX8_isWord_25 : decode cX8_isWord 25 = .ok (.if_icmp .ge 30, 3) := by decide +kernel
theorem dX8_isWord_28 : decode cX8_isWord 28 = .ok (.aload_n 0, 1) := by decide +kernel
theorem dX8_isWord_29 : decode cX8_isWord 29 = .ok (.getfield 9, 3) := by decide +kernel
theorem dX8_isWord_32 : decode cX8_isWord 32 = .ok (.aload_n 0, 1) := by decide +kernel
theorem dX8_isWord_33 : decode cX8_isWord 33 = .ok (.getfield 25, 3) := by decide +kernel
theorem dX8_isWord_36 : decode cX8_isWord 36 = .ok (.iload_n 2, 1) := by decide +kernel
theorem dX8_isWord_37 : decode cX8_isWord 37 = .ok (.iadd, 1) := by decide +kernel
theorem dX8_isWord_38 : decode cX8_isWord 38 = .ok (.baload, 1) := by decide +kernel
theorem dX8_isWord_39 : decode cX8_isWord 39 = .ok (.aload_n 1, 1) := by decide +kernel
theorem dX8_isWord_40 : decode cX8_isWord 40 = .ok (.iload_n 2, 1) := by decide +kernel
theorem dX8_isWord_41 : decode cX8_isWord 41 = .ok (.invokevirtual 85, 3) := by decide +kernel
theorem dX8_isWord_44 : decode cX8_isWord 44 = .ok (.if_icmp .eq 5, 3) := by decide +kernel
theorem dX8_isWord_47 : decode cX8_isWord 47 = .ok (.iconst 0, 1) := by decide +kernel
theorem dX8_isWord_48 : decode cX8_isWord 48 = .ok (.ireturn, 1) := by decide +kernel
theorem dX8_isWord_49 : decode cX8_isWord 49 = .ok (.iinc 2 1, 3) := by decide +kernel
theorem dX8_isWord_52 : decode cX8_isWord 52 = .ok (.goto (-32), 3) := by decide +kernel
theorem dX8_isWord_55 : decode cX8_isWord 55 = .ok (.iconst 1, 1) := by decide +kernel
theorem dX8_isWord_56 : decode cX8_isWord 56 = .ok (.ireturn, 1) := by decide +kernel
theorem dX8_readNumber_0 : decode cX8_readNumber 0 = .ok (.aload_n 0, 1) := by decide +kernel
theorem dX8_readNumber_1 : decode cX8_readNumber 1 = .ok (.getfield 28, 3) := by decide +kernel
theorem dX8_readNumber_4 : decode cX8_readNumber 4 = .ok (.aload_n 0, 1) := by decide +kernel
theorem dX8_readNumber_5 : decode cX8_readNumber 5 = .ok (.getfield 15, 3) := by decide +kernel
theorem dX8_readNumber_8 : decode cX8_readNumber 8 = .ok (.if_icmp .ge 31, 3) := by decide +kernel
theorem dX8_readNumber_11 : decode cX8_readNumber 11 = .ok (.aload_n 0, 1) := by decide +kernel
theorem dX8_readNumber_12 : decode cX8_readNumber 12 = .ok (.getfield 9, 3) := by decide +kernel
theorem dX8_readNumber_15 : decode cX8_readNumber 15 = .ok (.aload_n 0, 1) := by decide +kernel
theorem dX8_readNumber_16 : decode cX8_readNumber 16 = .ok (.getfield 28, 3) := by decide +kernel
theorem dX8_readNumber_19 : decode cX8_readNumber 19 = .ok (.baload, 1) := by decide +kernel
theorem dX8_readNumber_20 : decode cX8_readNumber 20 = .ok (.invokestatic 61, 3) := by decide +kernel
theorem dX8_readNumber_23 : decode cX8_readNumber 23 = .ok (.ifCond .eq 16, 3) := by decide +kernel
theorem dX8_readNumber_26 : decode cX8_readNumber 26 = .ok (.aload_n 0, 1) := by decide +kernel
theorem dX8_readNumber_27 : decode cX8_readNumber 27 = .ok (.dup, 1) := by decide +kernel
theorem dX8_readNumber_28 : decode cX8_readNumber 28 = .ok (.getfield 28, 3) := by decide +kernel
theorem dX8_readNumber_31 : decode cX8_readNumber 31 = .ok (.iconst 1, 1) := by decide +kernel
theorem dX8_readNumber_32 : decode cX8_readNumber 32 = .ok (.iadd, 1) := by decide +kernel
theorem dX8_readNumber_33 : decode cX8_readNumber 33 = .ok (.putfield 28, 3) := by decide +kernel
theorem dX8_readNumber_36 : decode cX8_readNumber 36 = .ok (.goto (-36), 3) := by decide +kernel
theorem dX8_readNumber_39 : decode cX8_readNumber 39 = .ok (.aload_n 0, 1) := by decide +kernel
theorem dX8_readNumber_40 : decode cX8_readNumber 40 = .ok (.aload_n 0, 1) := by decide +kernel
theorem dX8_readNumber_41 : decode cX8_readNumber 41 = .ok (.getfield 9, 3) := by decide +kernel
theorem dX8_readNumber_44 : decode cX8_readNumber 44 = .ok (.aload_n 0, 1) := by decide +kernel
theorem dX8_readNumber_45 : decode cX8_readNumber 45 = .ok (.getfield 25, 3) := by decide +kernel
theorem dX8_readNumber_48 : decode cX8_readNumber 48 = .ok (.baload, 1) := by decide +kernel
theorem dX8_readNumber_49 : decode cX8_readNumber 49 = .ok (.bipush 48, 2) := by decide +kernel
theorem dX8_readNumber_51 : decode cX8_readNumber 51 = .ok (.isub, 1) := by decide +kernel
theorem dX8_readNumber_52 : decode cX8_readNumber 52 = .ok (.putfield 22, 3) := by decide +kernel
theorem dX8_readNumber_55 : decode cX8_readNumber 55 = .ok (.aload_n 0, 1) := by decide +kernel
theorem dX8_readNumber_56 : decode cX8_readNumber 56 = .ok (.aload_n 0, 1) := by decide +kernel
theorem dX8_readNumber_57 : decode cX8_readNumber 57 = .ok (.getfield 28, 3) := by decide +kernel
theorem dX8_readNumber_60 : decode cX8_readNumber 60 = .ok (.aload_n 0, 1) := by decide +kernel
theorem dX8_readNumber_61 : decode cX8_readNumber 61 = .ok (.getfield 25, 3) := by decide +kernel
theorem dX8_readNumber_64 : decode cX8_readNumber 64 = .ok (.isub, 1) := by decide +kernel
theorem dX8_readNumber_65 : decode cX8_readNumber 65 = .ok (.iconst 1, 1) := by decide +kernel
theorem dX8_readNumber_66 : decode cX8_readNumber 66 = .ok (.if_icmp .ne 15, 3) := by decide +kernel
theorem dX8_readNumber_69 : decode cX8_readNumber 69 = .ok (.aload_n 0, 1) := by decide +kernel
theorem dX8_readNumber_70 : decode cX8_readNumber 70 = .ok (.getfield 22, 3) := by decide +kernel
theorem dX8_readNumber_73 : decode cX8_readNumber 73 = .ok (.iconst 1, 1) := by decide +kernel
theorem dX8_readNumber_74 : decode cX8_readNumber 74 = .ok (.if_icmp .lt 7, 3) := by decide +kernel
theorem dX8_readNumber_77 : decode cX8_readNumber 77 = .ok (.iconst 4, 1) := by decide +kernel
theorem dX8_readNumber_78 : decode cX8_readNumber 78 = .ok (.goto 4, 3) := by decide +kernel
theorem dX8_readNumber_81 : decode cX8_readNumber 81 = .ok (.iconst 1, 1) := by decide +kernel
theorem dX8_readNumber_82 : decode cX8_readNumber 82 = .ok (.putfield 19, 3) := by decide +kernel
theorem dX8_readNumber_85 : decode cX8_readNumber 85 = .ok (.return_, 1) := by decide +kernel
theorem dX8_isBlank_0 : decode cX8_isBlank 0 = .ok (.iload_n 0, 1) := by decide +kernel
theorem dX8_isBlank_1 : decode cX8_isBlank 1 = .ok (.bipush 32, 2) := by decide +kernel
theorem dX8_isBlank_3 : decode cX8_isBlank 3 = .ok (.if_icmp .eq 9, 3) := by decide +kernel
theorem dX8_isBlank_6 : decode cX8_isBlank 6 = .ok (.iload_n 0, 1) := by decide +kernel
theorem dX8_isBlank_7 : decode cX8_isBlank 7 = .ok (.bipush 10, 2) := by decide +kernel
theorem dX8_isBlank_9 : decode cX8_isBlank 9 = .ok (.if_icmp .ne 7, 3) := by decide +kernel
theorem dX8_isBlank_12 : decode cX8_isBlank 12 = .ok (.iconst 1, 1) := by decide +kernel
theorem dX8_isBlank_13 : decode cX8_isBlank 13 = .ok (.goto 4, 3) := by decide +kernel
theorem dX8_isBlank_16 : decode cX8_isBlank 16 = .ok (.iconst 0, 1) := by decide +kernel
theorem dX8_isBlank_17 : decode cX8_isBlank 17 = .ok (.ireturn, 1) := by decide +kernel
theorem dX8_isLetter_0 : decode cX8_isLetter 0 = .ok (.iload_n 0, 1) := by decide +kernel
theorem dX8_isLetter_1 : decode cX8_isLetter 1 = .ok (.bipush 97, 2) := by decide +kernel
theorem dX8_isLetter_3 : decode cX8_isLetter 3 = .ok (.if_icmp .lt 13, 3) := by decide +kernel
theorem dX8_isLetter_6 : decode cX8_isLetter 6 = .ok (.iload_n 0, 1) := by decide +kernel
theorem dX8_isLetter_7 : decode cX8_isLetter 7 = .ok (.bipush 122, 2) := by decide +kernel
theorem dX8_isLetter_9 : decode cX8_isLetter 9 = .ok (.if_icmp .gt 7, 3) := by decide +kernel
theorem dX8_isLetter_12 : decode cX8_isLetter 12 = .ok (.iconst 1, 1) := by decide +kernel
theorem dX8_isLetter_13 : decode cX8_isLetter 13 = .ok (.goto 4, 3) := by decide +kernel
theorem dX8_isLetter_16 : decode cX8_isLetter 16 = .ok (.iconst 0, 1) := by decide +kernel
theorem dX8_isLetter_17 : decode cX8_isLetter 17 = .ok (.ireturn, 1) := by decide +kernel
theorem dX8_isDigit_0 : decode cX8_isDigit 0 = .ok (.iload_n 0, 1) := by decide +kernel
theorem dX8_isDigit_1 : decode cX8_isDigit 1 = .ok (.bipush 48, 2) := by decide +kernel
theorem dX8_isDigit_3 : decode cX8_isDigit 3 = .ok (.if_icmp .lt 13, 3) := by decide +kernel
theorem dX8_isDigit_6 : decode cX8_isDigit 6 = .ok (.iload_n 0, 1) := by decide +kernel
theorem dX8_isDigit_7 : decode cX8_isDigit 7 = .ok (.bipush 57, 2) := by decide +kernel
theorem dX8_isDigit_9 : decode cX8_isDigit 9 = .ok (.if_icmp .gt 7, 3) := by decide +kernel
theorem dX8_isDigit_12 : decode cX8_isDigit 12 = .ok (.iconst 1, 1) := by decide +kernel
theorem dX8_isDigit_13 : decode cX8_isDigit 13 = .ok (.goto 4, 3) := by decide +kernel
theorem dX8_isDigit_16 : decode cX8_isDigit 16 = .ok (.iconst 0, 1) := by decide +kernel
theorem dX8_isDigit_17 : decode cX8_isDigit 17 = .ok (.ireturn, 1) := by decide +kernel
theorem dX9_init_0 : decode cX9_init 0 = .ok (.aload_n 0, 1) := by decide +kernel
theorem dX9_init_1 : decode cX9_init 1 = .ok (.invokespecial 1, 3) := by decide +kernel
theorem dX9_init_4 : decode cX9_init 4 = .ok (.aload_n 0, 1) := by decide +kernel
theorem dX9_init_5 : decode cX9_init 5 = .ok (.new 7, 3) := by decide +kernel
theorem dX9_init_8 : decode cX9_init 8 = .ok (.dup, 1) := by decide +kernel
theorem dX9_init_9 : decode cX9_init 9 = .ok (.invokespecial 9, 3) := by decide +kernel
theorem dX9_init_12 : decode cX9_init 12 = .ok (.putfield 10, 3) := by decide +kernel
theorem dX9_init_15 : decode cX9_init 15 = .ok (.aload_n 0, 1) := by decide +kernel
theorem dX9_init_16 : decode cX9_init 16 = .ok (.new 7, 3) := by decide +kernel
theorem dX9_init_19 : decode cX9_init 19 = .ok (.dup, 1) := by decide +kernel
theorem dX9_init_20 : decode cX9_init 20 = .ok (.invokespecial 9, 3) := by decide +kernel
theorem dX9_init_23 : decode cX9_init 23 = .ok (.putfield 16, 3) := by decide +kernel
theorem dX9_init_26 : decode cX9_init 26 = .ok (.aload_n 0, 1) := by decide +kernel
theorem dX9_init_27 : decode cX9_init 27 = .ok (.new 7, 3) := by decide +kernel
theorem dX9_init_30 : decode cX9_init 30 = .ok (.dup, 1) := by decide +kernel
theorem dX9_init_31 : decode cX9_init 31 = .ok (.invokespecial 9, 3) := by decide +kernel
theorem dX9_init_34 : decode cX9_init 34 = .ok (.putfield 19, 3) := by decide +kernel
theorem dX9_init_37 : decode cX9_init 37 = .ok (.aload_n 0, 1) := by decide +kernel
theorem dX9_init_38 : decode cX9_init 38 = .ok (.iconst 4, 1) := by decide +kernel
theorem dX9_init_39 : decode cX9_init 39 = .ok (.anewarray 22, 3) := by decide +kernel
theorem dX9_init_42 : decode cX9_init 42 = .ok (.putfield 24, 3) := by decide +kernel
theorem dX9_init_45 : decode cX9_init 45 = .ok (.aload_n 0, 1) := by decide +kernel
theorem dX9_init_46 : decode cX9_init 46 = .ok (.iconst 4, 1) := by decide +kernel
theorem dX9_init_47 : decode cX9_init 47 = .ok (.anewarray 22, 3) := by decide +kernel
theorem dX9_init_50 : decode cX9_init 50 = .ok (.putfield 28, 3) := by decide +kernel
theorem dX9_init_53 : decode cX9_init 53 = .ok (.aload_n 0, 1) := by decide +kernel
theorem dX9_init_54 : decode cX9_init 54 = .ok (.iconst 0, 1) := by decide +kernel
theorem dX9_init_55 : decode cX9_init 55 = .ok (.putfield 31, 3) := by decide +kernel
theorem dX9_init_58 : decode cX9_init 58 = .ok (.aload_n 0, 1) := by decide +kernel
theorem dX9_init_59 : decode cX9_init 59 = .ok (.new 35, 3) := by decide +kernel
theorem dX9_init_62 : decode cX9_init 62 = .ok (.dup, 1) := by decide +kernel
theorem dX9_init_63 : decode cX9_init 63 = .ok (.invokespecial 37, 3) := by decide +kernel
theorem dX9_init_66 : decode cX9_init 66 = .ok (.putfield 38, 3) := by decide +kernel
theorem dX9_init_69 : decode cX9_init 69 = .ok (.aload_n 0, 1) := by decide +kernel
theorem dX9_init_70 : decode cX9_init 70 = .ok (.new 42, 3) := by decide +kernel
theorem dX9_init_73 : decode cX9_init 73 = .ok (.dup, 1) := by decide +kernel
theorem dX9_init_74 : decode cX9_init 74 = .ok (.invokespecial 44, 3) := by decide +kernel
theorem dX9_init_77 : decode cX9_init 77 = .ok (.putfield 45, 3) := by decide +kernel
theorem dX9_init_80 : decode cX9_init 80 = .ok (.aload_n 0, 1) := by decide +kernel
theorem dX9_init_81 : decode cX9_init 81 = .ok (.new 22, 3) := by decide +kernel
theorem dX9_init_84 : decode cX9_init 84 = .ok (.dup, 1) := by decide +kernel
theorem dX9_init_85 : decode cX9_init 85 = .ok (.invokespecial 49, 3) := by decide +kernel
theorem dX9_init_88 : decode cX9_init 88 = .ok (.putfield 50, 3) := by decide +kernel
theorem dX9_init_91 : decode cX9_init 91 = .ok (.aload_n 0, 1) := by decide +kernel
theorem dX9_init_92 : decode cX9_init 92 = .ok (.new 54, 3) := by decide +kernel
theorem dX9_init_95 : decode cX9_init 95 = .ok (.dup, 1) := by decide +kernel
theorem dX9_init_96 : decode cX9_init 96 = .ok (.invokespecial 56, 3) := by decide +kernel
theorem dX9_init_99 : decode cX9_init 99 = .ok (.putfield 57, 3) := by decide +kernel
theorem dX9_init_102 : decode cX9_init 102 = .ok (.aload_n 0, 1) := by decide +kernel
theorem dX9_init_103 : decode cX9_init 103 = .ok (.new 61, 3) := by decide +kernel
theorem dX9_init_106 : decode cX9_init 106 = .ok (.dup, 1) := by decide +kernel
theorem dX9_init_107 : decode cX9_init 107 = .ok (.invokespecial 63, 3) := by decide +kernel
theorem dX9_init_110 : decode cX9_init 110 = .ok (.putfield 64, 3) := by decide +kernel
theorem dX9_init_113 : decode cX9_init 113 = .ok (.aload_n 0, 1) := by decide +kernel
theorem dX9_init_114 : decode cX9_init 114 = .ok (.iconst 4, 1) := by decide +kernel
theorem dX9_init_115 : decode cX9_init 115 = .ok (.anewarray 68, 3) := by decide +kernel
theorem dX9_init_118 : decode cX9_init 118 = .ok (.putfield 70, 3) := by decide +kernel
theorem dX9_init_121 : decode cX9_init 121 = .ok (.iconst 0, 1) := by decide +kernel
theorem dX9_init_122 : decode cX9_init 122 = .ok (.istore_n 1, 1) := by decide +kernel
theorem dX9_init_123 : decode cX9_init 123 = .ok (.iload_n 1, 1) := by decide +kernel
theorem dX9_init_124 : decode cX9_init 124 = .ok (.iconst 4, 1) := by decide +kernel
theorem dX9_init_125 : decode cX9_init 125 = .ok (.if_icmp .ge 35, 3) := by decide +kernel
theorem dX9_init_128 : decode cX9_init 128 = .ok (.aload_n 0, 1) := by decide +kernel
theorem dX9_init_129 : decode cX9_init 129 = .ok (.getfield 24, 3) := by decide +kernel
theorem dX9_init_132 : decode cX9_init 132 = .ok (.iload_n 1, 1) := by decide +kernel
theorem dX9_init_133 : decode cX9_init 133 = .ok (.new 22, 3) := by decide +kernel
theorem dX9_init_136 : decode cX9_init 136 = .ok (.dup, 1) := by decide +kernel
theorem dX9_init_137 : decode cX9_init 137 = .ok (.invokespecial 49, 3) := by decide +kernel
theorem dX9_init_140 : decode cX9_init 140 = .ok (.aastore, 1) := by decide +kernel
theorem dX9_init_141 : decode cX9_init 141 = .ok (.aload_n 0, 1) := by decide +kernel
theorem dX9_init_142 : decode cX9_init 142 = .ok (.getfield 28, 3) := by decide +kernel
theorem dX9_init_145 : decode cX9_init 145 = .ok (.iload_n 1, 1) := by decide +kernel
theorem dX9_init_146 : decode cX9_init 146 = .ok (.new 22, 3) := by decide +kernel
theorem dX9_init_149 : decode cX9_init 149 = .ok (.dup, 1) := by decide +kernel
theorem dX9_init_150 : decode cX9_init 150 = .ok (.invokespecial 49, 3) := by decide +kernel
theorem dX9_init_153 : decode cX9_init 153 = .ok (.aastore, 1) := by decide +kernel
theorem dX9_init_154 : decode cX9_init 154 = .ok (.iinc 1 1, 3) := by decide +kernel
theorem dX9_init_157 : decode cX9_init 157 = .ok (.goto (-34), 3) := by decide +kernel
theorem dX9_init_160 : decode cX9_init 160 = .ok (.iconst 0, 1) := by decide +kernel
theorem dX9_init_161 : decode cX9_init 161 = .ok (.istore_n 1, 1) := by decide +kernel
theorem dX9_init_162 : decode cX9_init 162 = .ok (.iload_n 1, 1) := by decide +kernel
theorem dX9_init_163 : decode cX9_init 163 = .ok (.iconst 4, 1) := by decide +kernel
theorem dX9_init_164 : decode cX9_init 164 = .ok (.if_icmp .ge 22, 3) := by decide +kernel
theorem dX9_init_167 : decode cX9_init 167 = .ok (.aload_n 0, 1) := by decide +kernel
theorem dX9_init_168 : decode cX9_init 168 = .ok (.getfield 70, 3) := by decide +kernel
theorem dX9_init_171 : decode cX9_init 171 = .ok (.iload_n 1, 1) := by decide +kernel
theorem dX9_init_172 : decode cX9_init 172 = .ok (.new 68, 3) := by decide +kernel
theorem dX9_init_175 : decode cX9_init 175 = .ok (.dup, 1) := by decide +kernel
theorem dX9_init_176 : decode cX9_init 176 = .ok (.invokespecial 74, 3) := by decide +kernel
theorem dX9_init_179 : decode cX9_init 179 = .ok (.aastore, 1) := by decide +kernel
theorem dX9_init_180 : decode cX9_init 180 = .ok (.iinc 1 1, 3) := by decide +kernel
theorem dX9_init_183 : decode cX9_init 183 = .ok (.goto (-21), 3) := by decide +kernel
theorem dX9_init_186 : decode cX9_init 186 = .ok (.return_, 1) := by decide +kernel
theorem dX9_heat_0 : decode cX9_heat 0 = .ok (.iload_n 1, 1) := by decide +kernel
theorem dX9_heat_1 : decode cX9_heat 1 = .ok (.invokestatic 75, 3) := by decide +kernel
theorem dX9_heat_4 : decode cX9_heat 4 = .ok (.ifCond .eq 10, 3) := by decide +kernel
theorem dX9_heat_7 : decode cX9_heat 7 = .ok (.iload_n 2, 1) := by decide +kernel
theorem dX9_heat_8 : decode cX9_heat 8 = .ok (.invokestatic 79, 3) := by decide +kernel
theorem dX9_heat_11 : decode cX9_heat 11 = .ok (.ifCond .ne 6, 3) := by decide +kernel
theorem dX9_heat_14 : decode cX9_heat 14 = .ok (.bipush (-2), 2) := by decide +kernel
theorem dX9_heat_16 : decode cX9_heat 16 = .ok (.ireturn, 1) := by decide +kernel
theorem dX9_heat_17 : decode cX9_heat 17 = .ok (.aload_n 0, 1) := by decide +kernel
theorem dX9_heat_18 : decode cX9_heat 18 = .ok (.getfield 10, 3) := by decide +kernel
theorem dX9_heat_21 : decode cX9_heat 21 = .ok (.getfield 82, 3) := by decide +kernel
theorem dX9_heat_24 : decode cX9_heat 24 = .ok (.iload_n 1, 1) := by decide +kernel
theorem dX9_heat_25 : decode cX9_heat 25 = .ok (.iaload, 1) := by decide +kernel
theorem dX9_heat_26 : decode cX9_heat 26 = .ok (.istore_n 3, 1) := by decide +kernel
theorem dX9_heat_27 : decode cX9_heat 27 = .ok (.aload_n 0, 1) := by decide +kernel
theorem dX9_heat_28 : decode cX9_heat 28 = .ok (.getfield 10, 3) := by decide +kernel
theorem dX9_heat_31 : decode cX9_heat 31 = .ok (.getfield 82, 3) := by decide +kernel
theorem dX9_heat_34 : decode cX9_heat 34 = .ok (.iload_n 1, 1) := by decide +kernel
theorem dX9_heat_35 : decode cX9_heat 35 = .ok (.iload_n 2, 1) := by decide +kernel
theorem dX9_heat_36 : decode cX9_heat 36 = .ok (.iastore, 1) := by decide +kernel
theorem dX9_heat_37 : decode cX9_heat 37 = .ok (.iload_n 3, 1) := by decide +kernel
theorem dX9_heat_38 : decode cX9_heat 38 = .ok (.ireturn, 1) := by decide +kernel
theorem dX9_setting_0 : decode cX9_setting 0 = .ok (.iload_n 1, 1) := by decide +kernel
theorem dX9_setting_1 : decode cX9_setting 1 = .ok (.invokestatic 75, 3) := by decide +kernel
theorem dX9_setting_4 : decode cX9_setting 4 = .ok (.ifCond .eq 10, 3) := by decide +kernel
theorem dX9_setting_7 : decode cX9_setting 7 = .ok (.iload_n 2, 1) := by decide +kernel
theorem dX9_setting_8 : decode cX9_setting 8 = .ok (.invokestatic 86, 3) := by decide +kernel
theorem dX9_setting_11 : decode cX9_setting 11 = .ok (.ifCond .ne 6, 3) := by decide +kernel
theorem dX9_setting_14 : decode cX9_setting 14 = .ok (.bipush (-2), 2) := by decide +kernel
theorem dX9_setting_16 : decode cX9_setting 16 = .ok (.ireturn, 1) := by decide +kernel
theorem dX9_setting_17 : decode cX9_setting 17 = .ok (.aload_n 0, 1) := by decide +kernel
theorem dX9_setting_18 : decode cX9_setting 18 = .ok (.getfield 10, 3) := by decide +kernel
theorem dX9_setting_21 : decode cX9_setting 21 = .ok (.getfield 89, 3) := by decide +kernel
theorem dX9_setting_24 : decode cX9_setting 24 = .ok (.iload_n 1, 1) := by decide +kernel
theorem dX9_setting_25 : decode cX9_setting 25 = .ok (.iaload, 1) := by decide +kernel
theorem dX9_setting_26 : decode cX9_setting 26 = .ok (.istore_n 3, 1) := by decide +kernel
theorem dX9_setting_27 : decode cX9_setting 27 = .ok (.aload_n 0, 1) := by decide +kernel
theorem dX9_setting_28 : decode cX9_setting 28 = .ok (.getfield 10, 3) := by decide +kernel
theorem dX9_setting_31 : decode cX9_setting 31 = .ok (.getfield 89, 3) := by decide +kernel
theorem dX9_setting_34 : decode cX9_setting 34 = .ok (.iload_n 1, 1) := by decide +kernel
theorem dX9_setting_35 : decode cX9_setting 35 = .ok (.iload_n 2, 1) := by decide +kernel
theorem dX9_setting_36 : decode cX9_setting 36 = .ok (.iastore, 1) := by decide +kernel
theorem dX9_setting_37 : decode cX9_setting 37 = .ok (.iload_n 3, 1) := by decide +kernel
theorem dX9_setting_38 : decode cX9_setting 38 = .ok (.ireturn, 1) := by decide +kernel
theorem dX9_zone_0 : decode cX9_zone 0 = .ok (.iload_n 1, 1) := by decide +kernel
theorem dX9_zone_1 : decode cX9_zone 1 = .ok (.invokestatic 75, 3) := by decide +kernel
theorem dX9_zone_4 : decode cX9_zone 4 = .ok (.ifCond .ne 6, 3) := by decide +kernel
theorem dX9_zone_7 : decode cX9_zone 7 = .ok (.bipush (-2), 2) := by decide +kernel
theorem dX9_zone_9 : decode cX9_zone 9 = .ok (.ireturn, 1) := by decide +kernel
theorem dX9_zone_10 : decode cX9_zone 10 = .ok (.iload_n 2, 1) := by decide +kernel
theorem dX9_zone_11 : decode cX9_zone 11 = .ok (.tableswitch 94 0 4 #[33, 43, 53, 63, 85], 33) := by decide +kernel
theorem dX9_zone_44 : decode cX9_zone 44 = .ok (.aload_n 0, 1) := by decide +kernel
theorem dX9_zone_45 : decode cX9_zone 45 = .ok (.getfield 10, 3) := by decide +kernel
theorem dX9_zone_48 : decode cX9_zone 48 = .ok (.getfield 82, 3) := by decide +kernel
theorem dX9_zone_51 : decode cX9_zone 51 = .ok (.iload_n 1, 1) := by decide +kernel
theorem dX9_zone_52 : decode cX9_zone 52 = .ok (.iaload, 1) := by decide +kernel
theorem dX9_zone_53 : decode cX9_zone 53 = .ok (.ireturn, 1) := by decide +kernel
theorem dX9_zone_54 : decode cX9_zone 54 = .ok (.aload_n 0, 1) := by decide +kernel
theorem dX9_zone_55 : decode cX9_zone 55 = .ok (.getfield 10, 3) := by decide +kernel
theorem dX9_zone_58 : decode cX9_zone 58 = .ok (.getfield 89, 3) := by decide +kernel
theorem dX9_zone_61 : decode cX9_zone 61 = .ok (.iload_n 1, 1) := by decide +kernel
theorem dX9_zone_62 : decode cX9_zone 62 = .ok (.iaload, 1) := by decide +kernel
theorem dX9_zone_63 : decode cX9_zone 63 = .ok (.ireturn, 1) := by decide +kernel
theorem dX9_zone_64 : decode cX9_zone 64 = .ok (.aload_n 0, 1) := by decide +kernel
theorem dX9_zone_65 : decode cX9_zone 65 = .ok (.getfield 10, 3) := by decide +kernel
theorem dX9_zone_68 : decode cX9_zone 68 = .ok (.getfield 92, 3) := by decide +kernel
theorem dX9_zone_71 : decode cX9_zone 71 = .ok (.iload_n 1, 1) := by decide +kernel
theorem dX9_zone_72 : decode cX9_zone 72 = .ok (.iaload, 1) := by decide +kernel
theorem dX9_zone_73 : decode cX9_zone 73 = .ok (.ireturn, 1) := by decide +kernel
theorem dX9_zone_74 : decode cX9_zone 74 = .ok (.aload_n 0, 1) := by decide +kernel
theorem dX9_zone_75 : decode cX9_zone 75 = .ok (.getfield 10, 3) := by decide +kernel
theorem dX9_zone_78 : decode cX9_zone 78 = .ok (.getfield 89, 3) := by decide +kernel
theorem dX9_zone_81 : decode cX9_zone 81 = .ok (.iload_n 1, 1) := by decide +kernel
theorem dX9_zone_82 : decode cX9_zone 82 = .ok (.iaload, 1) := by decide +kernel
theorem dX9_zone_83 : decode cX9_zone 83 = .ok (.aload_n 0, 1) := by decide +kernel
theorem dX9_zone_84 : decode cX9_zone 84 = .ok (.getfield 10, 3) := by decide +kernel
theorem dX9_zone_87 : decode cX9_zone 87 = .ok (.getfield 82, 3) := by decide +kernel
theorem dX9_zone_90 : decode cX9_zone 90 = .ok (.iload_n 1, 1) := by decide +kernel
theorem dX9_zone_91 : decode cX9_zone 91 = .ok (.iaload, 1) := by decide +kernel
theorem dX9_zone_92 : decode cX9_zone 92 = .ok (.invokestatic 95, 3) := by decide +kernel
theorem dX9_zone_95 : decode cX9_zone 95 = .ok (.ireturn, 1) := by decide +kernel
theorem dX9_zone_96 : decode cX9_zone 96 = .ok (.aload_n 0, 1) := by decide +kernel
theorem dX9_zone_97 : decode cX9_zone 97 = .ok (.getfield 10, 3) := by decide +kernel
theorem dX9_zone_100 : decode cX9_zone 100 = .ok (.iload_n 1, 1) := by decide +kernel
theorem dX9_zone_101 : decode cX9_zone 101 = .ok (.invokevirtual 101, 3) := by decide +kernel
theorem dX9_zone_104 : decode cX9_zone 104 = .ok (.ireturn, 1) := by decide +kernel
theorem dX9_zone_105 : decode cX9_zone 105 = .ok (.bipush (-2), 2) := by decide +kernel
theorem dX9_zone_107 : decode cX9_zone 107 = .ok (.ireturn, 1) := by decide +kernel
theorem dX9_gives_0 : decode cX9_gives 0 = .ok (.iload_n 1, 1) := by decide +kernel
theorem dX9_gives_1 : decode cX9_gives 1 = .ok (.invokestatic 86, 3) := by decide +kernel
theorem dX9_gives_4 : decode cX9_gives 4 = .ok (.ifCond .eq 10, 3) := by decide +kernel
theorem dX9_gives_7 : decode cX9_gives 7 = .ok (.iload_n 2, 1) := by decide +kernel
theorem dX9_gives_8 : decode cX9_gives 8 = .ok (.invokestatic 79, 3) := by decide +kernel
theorem dX9_gives_11 : decode cX9_gives 11 = .ok (.ifCond .ne 6, 3) := by decide +kernel
theorem dX9_gives_14 : decode cX9_gives 14 = .ok (.bipush (-2), 2) := by decide +kernel
theorem dX9_gives_16 : decode cX9_gives 16 = .ok (.ireturn, 1) := by decide +kernel
theorem dX9_gives_17 : decode cX9_gives 17 = .ok (.iload_n 1, 1) := by decide +kernel
theorem dX9_gives_18 : decode cX9_gives 18 = .ok (.iload_n 2, 1) := by decide +kernel
theorem dX9_gives_19 : decode cX9_gives 19 = .ok (.invokestatic 95, 3) := by decide +kernel
theorem dX9_gives_22 : decode cX9_gives 22 = .ok (.ireturn, 1) := by decide +kernel
theorem dX9_load_0 : decode cX9_load 0 = .ok (.iload_n 1, 1) := by decide +kernel
theorem dX9_load_1 : decode cX9_load 1 = .ok (.invokestatic 105, 3) := by decide +kernel
theorem dX9_load_4 : decode cX9_load 4 = .ok (.ifCond .eq 20, 3) := by decide +kernel
theorem dX9_load_7 : decode cX9_load 7 = .ok (.iload_n 2, 1) := by decide +kernel
theorem dX9_load_8 : decode cX9_load 8 = .ok (.iconst 1, 1) := by decide +kernel
theorem dX9_load_9 : decode cX9_load 9 = .ok (.bipush 9, 2) := by decide +kernel
theorem dX9_load_11 : decode cX9_load 11 = .ok (.invokestatic 108, 3) := by decide +kernel
theorem dX9_load_14 : decode cX9_load 14 = .ok (.ifCond .eq 10, 3) := by decide +kernel
theorem dX9_load_17 : decode cX9_load 17 = .ok (.iload_n 3, 1) := by decide +kernel
theorem dX9_load_18 : decode cX9_load 18 = .ok (.invokestatic 75, 3) := by decide +kernel
theorem dX9_load_21 : decode cX9_load 21 = .ok (.ifCond .ne 6, 3) := by decide +kernel
theorem dX9_load_24 : decode cX9_load 24 = .ok (.bipush (-2), 2) := by decide +kernel
theorem dX9_load_26 : decode cX9_load 26 = .ok (.ireturn, 1) := by decide +kernel
theorem dX9_load_27 : decode cX9_load 27 = .ok (.aload_n 0, 1) := by decide +kernel
theorem dX9_load_28 : decode cX9_load 28 = .ok (.getfield 10, 3) := by decide +kernel
theorem dX9_load_31 : decode cX9_load 31 = .ok (.iload_n 1, 1) := by decide +kernel
theorem dX9_load_32 : decode cX9_load 32 = .ok (.iload_n 2, 1) := by decide +kernel
theorem dX9_load_33 : decode cX9_load 33 = .ok (.iload_n 3, 1) := by decide +kernel
theorem dX9_load_34 : decode cX9_load 34 = .ok (.invokevirtual 112, 3) := by decide +kernel
theorem dX9_load_37 : decode cX9_load 37 = .ok (.ireturn, 1) := by decide +kernel
theorem dX9_of_0 : decode cX9_of 0 = .ok (.aload_n 0, 1) := by decide +kernel
theorem dX9_of_1 : decode cX9_of 1 = .ok (.iload_n 1, 1) := by decide +kernel
theorem dX9_of_2 : decode cX9_of 2 = .ok (.invokevirtual 116, 3) := by decide +kernel
theorem dX9_of_5 : decode cX9_of 5 = .ok (.ifCond .ne 6, 3) := by decide +kernel
theorem dX9_of_8 : decode cX9_of 8 = .ok (.bipush (-2), 2) := by decide +kernel
theorem dX9_of_10 : decode cX9_of 10 = .ok (.ireturn, 1) := by decide +kernel
theorem dX9_of_11 : decode cX9_of 11 = .ok (.aload_n 0, 1) := by decide +kernel
theorem dX9_of_12 : decode cX9_of 12 = .ok (.getfield 10, 3) := by decide +kernel
theorem dX9_of_15 : decode cX9_of 15 = .ok (.getfield 119, 3) := by decide +kernel
theorem dX9_of_18 : decode cX9_of 18 = .ok (.iload_n 1, 1) := by decide +kernel
theorem dX9_of_19 : decode cX9_of 19 = .ok (.aaload, 1) := by decide +kernel
theorem dX9_of_20 : decode cX9_of 20 = .ok (.astore_n 3, 1) := by decide +kernel
theorem dX9_of_21 : decode cX9_of 21 = .ok (.iload_n 2, 1) := by decide +kernel
theorem dX9_of_22 : decode cX9_of 22 = .ok (.tableswitch 125 0 10 #[58, 63, 68, 73, 78, 83, 100, 105, 110, 115, 120], 58) := by decide +kernel
theorem dX9_of_80 : decode cX9_of 80 = .ok (.aload_n 3, 1) := by decide +kernel
theorem dX9_of_81 : decode cX9_of 81 = .ok (.getfield 123, 3) := by decide +kernel
theorem dX9_of_84 : decode cX9_of 84 = .ok (.ireturn, 1) := by decide +kernel
theorem dX9_of_85 : decode cX9_of 85 = .ok (.aload_n 3, 1) := by decide +kernel
theorem dX9_of_86 : decode cX9_of 86 = .ok (.getfield 129, 3) := by decide +kernel
theorem dX9_of_89 : decode cX9_of 89 = .ok (.ireturn, 1) := by decide +kernel
theorem dX9_of_90 : decode cX9_of 90 = .ok (.aload_n 3, 1) := by decide +kernel
theorem dX9_of_91 : decode cX9_of 91 = .ok (.getfield 132, 3) := by decide +kernel
theorem dX9_of_94 : decode cX9_of 94 = .ok (.ireturn, 1) := by decide +kernel
theorem dX9_of_95 : decode cX9_of 95 = .ok (.aload_n 3, 1) := by decide +kernel
theorem dX9_of_96 : decode cX9_of 96 = .ok (.getfield 135, 3) := by decide +kernel
theorem dX9_of_99 : decode cX9_of 99 = .ok (.ireturn, 1) := by decide +kernel
theorem dX9_of_100 : decode cX9_of 100 = .ok (.aload_n 3, 1) := by decide +kernel
theorem dX9_of_101 : decode cX9_of 101 = .ok (.getfield 138, 3) := by decide +kernel
theorem dX9_of_104 : decode cX9_of 104 = .ok (.ireturn, 1) := by decide +kernel
theorem dX9_of_105 : decode cX9_of 105 = .ok (.aload_n 3, 1) := by decide +kernel
theorem dX9_of_106 : decode cX9_of 106 = .ok (.aload_n 0, 1) := by decide +kernel
theorem dX9_of_107 : decode cX9_of 107 = .ok (.getfield 10, 3) := by decide +kernel
theorem dX9_of_110 : decode cX9_of 110 = .ok (.getfield 82, 3) := by decide +kernel
theorem dX9_of_113 : decode cX9_of 113 = .ok (.aload_n 3, 1) := by decide +kernel
theorem dX9_of_114 : decode cX9_of 114 = .ok (.getfield 132, 3) := by decide +kernel
theorem dX9_of_117 : decode cX9_of 117 = .ok (.iaload, 1) := by decide +kernel
theorem dX9_of_118 : decode cX9_of 118 = .ok (.invokevirtual 141, 3) := by decide +kernel
theorem dX9_of_121 : decode cX9_of 121 = .ok (.ireturn, 1) := by decide +kernel
theorem dX9_of_122 : decode cX9_of 122 = .ok (.aload_n 3, 1) := by decide +kernel
theorem dX9_of_123 : decode cX9_of 123 = .ok (.getfield 144, 3) := by decide +kernel
theorem dX9_of_126 : decode cX9_of 126 = .ok (.ireturn, 1) := by decide +kernel
theorem dX9_of_127 : decode cX9_of 127 = .ok (.aload_n 3, 1) := by decide +kernel
theorem dX9_of_128 : decode cX9_of 128 = .ok (.getfield 147, 3) := by decide +kernel
theorem dX9_of_131 : decode cX9_of 131 = .ok (.ireturn, 1) := by decide +kernel
theorem dX9_of_132 : decode cX9_of 132 = .ok (.aload_n 3, 1) := by decide +kernel
theorem dX9_of_133 : decode cX9_of 133 = .ok (.getfield 150, 3) := by decide +kernel
theorem dX9_of_136 : decode cX9_of 136 = .ok (.ireturn, 1) := by decide +kernel
theorem dX9_of_137 : decode cX9_of 137 = .ok (.aload_n 3, 1) := by decide +kernel
theorem dX9_of_138 : decode cX9_of 138 = .ok (.getfield 153, 3) := by decide +kernel
theorem dX9_of_141 : decode cX9_of 141 = .ok (.ireturn, 1) := by decide +kernel
theorem dX9_of_142 : decode cX9_of 142 = .ok (.aload_n 3, 1) := by decide +kernel
theorem dX9_of_143 : decode cX9_of 143 = .ok (.getfield 156, 3) := by decide +kernel
theorem dX9_of_146 : decode cX9_of 146 = .ok (.ireturn, 1) := by decide +kernel
theorem dX9_of_147 : decode cX9_of 147 = .ok (.bipush (-2), 2) := by decide +kernel
theorem dX9_of_149 : decode cX9_of 149 = .ok (.ireturn, 1) := by decide +kernel
theorem dX9_rises_0 : decode cX9_rises 0 = .ok (.aload_n 0, 1) := by decide +kernel
theorem dX9_rises_1 : decode cX9_rises 1 = .ok (.iload_n 1, 1) := by decide +kernel
theorem dX9_rises_2 : decode cX9_rises 2 = .ok (.invokevirtual 116, 3) := by decide +kernel
theorem dX9_rises_5 : decode cX9_rises 5 = .ok (.ifCond .eq 10, 3) := by decide +kernel
theorem dX9_rises_8 : decode cX9_rises 8 = .ok (.iload_n 2, 1) := by decide +kernel
theorem dX9_rises_9 : decode cX9_rises 9 = .ok (.invokestatic 79, 3) := by decide +kernel
theorem dX9_rises_12 : decode cX9_rises 12 = .ok (.ifCond .ne 6, 3) := by decide +kernel
theorem dX9_rises_15 : decode cX9_rises 15 = .ok (.bipush (-2), 2) := by decide +kernel
theorem dX9_rises_17 : decode cX9_rises 17 = .ok (.ireturn, 1) := by decide +kernel
theorem dX9_rises_18 : decode cX9_rises 18 = .ok (.aload_n 0, 1) := by decide +kernel
theorem dX9_rises_19 : decode cX9_rises 19 = .ok (.getfield 10, 3) := by decide +kernel
theorem dX9_rises_22 : decode cX9_rises 22 = .ok (.getfield 119, 3) := by decide +kernel
theorem dX9_rises_25 : decode cX9_rises 25 = .ok (.iload_n 1, 1) := by decide +kernel
theorem dX9_rises_26 : decode cX9_rises 26 = .ok (.aaload, 1) := by decide +kernel
theorem dX9_rises_27 : decode cX9_rises 27 = .ok (.iload_n 2, 1) := by decide +kernel
theorem dX9_rises_28 : decode cX9_rises 28 = .ok (.invokevirtual 141, 3) := by decide +kernel
theorem dX9_rises_31 : decode cX9_rises 31 = .ok (.ireturn, 1) := by decide +kernel
theorem dX9_move_0 : decode cX9_move 0 = .ok (.aload_n 0, 1) := by decide +kernel
theorem dX9_move_1 : decode cX9_move 1 = .ok (.iload_n 1, 1) := by decide +kernel
theorem dX9_move_2 : decode cX9_move 2 = .ok (.invokevirtual 116, 3) := by decide +kernel
theorem dX9_move_5 : decode cX9_move 5 = .ok (.ifCond .eq 10, 3) := by decide +kernel
theorem dX9_move_8 : decode cX9_move 8 = .ok (.iload_n 2, 1) := by decide +kernel
theorem dX9_move_9 : decode cX9_move 9 = .ok (.invokestatic 75, 3) := by decide +kernel
theorem dX9_move_12 : decode cX9_move 12 = .ok (.ifCond .ne 6, 3) := by decide +kernel
theorem dX9_move_15 : decode cX9_move 15 = .ok (.bipush (-2), 2) := by decide +kernel
theorem dX9_move_17 : decode cX9_move 17 = .ok (.ireturn, 1) := by decide +kernel
theorem dX9_move_18 : decode cX9_move 18 = .ok (.aload_n 0, 1) := by decide +kernel
theorem dX9_move_19 : decode cX9_move 19 = .ok (.getfield 10, 3) := by decide +kernel
theorem dX9_move_22 : decode cX9_move 22 = .ok (.getfield 119, 3) := by decide +kernel
theorem dX9_move_25 : decode cX9_move 25 = .ok (.iload_n 1, 1) := by decide +kernel
theorem dX9_move_26 : decode cX9_move 26 = .ok (.aaload, 1) := by decide +kernel
theorem dX9_move_27 : decode cX9_move 27 = .ok (.getfield 132, 3) := by decide +kernel
theorem dX9_move_30 : decode cX9_move 30 = .ok (.istore_n 3, 1) := by decide +kernel
theorem dX9_move_31 : decode cX9_move 31 = .ok (.aload_n 0, 1) := by decide +kernel
theorem dX9_move_32 : decode cX9_move 32 = .ok (.getfield 10, 3) := by decide +kernel
theorem dX9_move_35 : decode cX9_move 35 = .ok (.getfield 119, 3) := by decide +kernel
theorem dX9_move_38 : decode cX9_move 38 = .ok (.iload_n 1, 1) := by decide +kernel
theorem dX9_move_39 : decode cX9_move 39 = .ok (.aaload, 1) := by decide +kernel
theorem dX9_move_40 : decode cX9_move 40 = .ok (.iload_n 2, 1) := by decide +kernel
theorem dX9_move_41 : decode cX9_move 41 = .ok (.putfield 132, 3) := by decide +kernel
theorem dX9_move_44 : decode cX9_move 44 = .ok (.aload_n 0, 1) := by decide +kernel
theorem dX9_move_45 : decode cX9_move 45 = .ok (.getfield 10, 3) := by decide +kernel
theorem dX9_move_48 : decode cX9_move 48 = .ok (.invokevirtual 158, 3) := by decide +kernel
theorem dX9_move_51 : decode cX9_move 51 = .ok (.iload_n 3, 1) := by decide +kernel
theorem dX9_move_52 : decode cX9_move 52 = .ok (.ireturn, 1) := by decide +kernel
theorem dX9_anew_0 : decode cX9_anew 0 = .ok (.aload_n 0, 1) := by decide +kernel
theorem dX9_anew_1 : decode cX9_anew 1 = .ok (.iload_n 1, 1) := by decide +kernel
theorem dX9_anew_2 : decode cX9_anew 2 = .ok (.invokevirtual 116, 3) := by decide +kernel
theorem dX9_anew_5 : decode cX9_anew 5 = .ok (.ifCond .ne 6, 3) := by decide +kernel
theorem dX9_anew_8 : decode cX9_anew 8 = .ok (.bipush (-2), 2) := by decide +kernel
theorem dX9_anew_10 : decode cX9_anew 10 = .ok (.ireturn, 1) := by decide +kernel
theorem dX9_anew_11 : decode cX9_anew 11 = .ok (.aload_n 0, 1) := by decide +kernel
theorem dX9_anew_12 : decode cX9_anew 12 = .ok (.getfield 10, 3) := by decide +kernel
theorem dX9_anew_15 : decode cX9_anew 15 = .ok (.getfield 119, 3) := by decide +kernel
theorem dX9_anew_18 : decode cX9_anew 18 = .ok (.iload_n 1, 1) := by decide +kernel
theorem dX9_anew_19 : decode cX9_anew 19 = .ok (.aaload, 1) := by decide +kernel
theorem dX9_anew_20 : decode cX9_anew 20 = .ok (.getfield 138, 3) := by decide +kernel
theorem dX9_anew_23 : decode cX9_anew 23 = .ok (.istore_n 2, 1) := by decide +kernel
theorem dX9_anew_24 : decode cX9_anew 24 = .ok (.aload_n 0, 1) := by decide +kernel
theorem dX9_anew_25 : decode cX9_anew 25 = .ok (.getfield 10, 3) := by decide +kernel
theorem dX9_anew_28 : decode cX9_anew 28 = .ok (.getfield 119, 3) := by decide +kernel
theorem dX9_anew_31 : decode cX9_anew 31 = .ok (.iload_n 1, 1) := by decide +kernel
theorem dX9_anew_32 : decode cX9_anew 32 = .ok (.aaload, 1) := by decide +kernel
theorem dX9_anew_33 : decode cX9_anew 33 = .ok (.invokevirtual 161, 3) := by decide +kernel
theorem dX9_anew_36 : decode cX9_anew 36 = .ok (.iload_n 2, 1) := by decide +kernel
theorem dX9_anew_37 : decode cX9_anew 37 = .ok (.ireturn, 1) := by decide +kernel
theorem dX9_take_0 : decode cX9_take 0 = .ok (.aload_n 0, 1) := by decide +kernel
theorem dX9_take_1 : decode cX9_take 1 = .ok (.getfield 10, 3) := by decide +kernel
theorem dX9_take_4 : decode cX9_take 4 = .ok (.getfield 164, 3) := by decide +kernel
theorem dX9_take_7 : decode cX9_take 7 = .ok (.ifCond .gt 6, 3) := by decide +kernel
theorem dX9_take_10 : decode cX9_take 10 = .ok (.bipush (-3), 2) := by decide +kernel
theorem dX9_take_12 : decode cX9_take 12 = .ok (.ireturn, 1) := by decide +kernel
theorem dX9_take_13 : decode cX9_take 13 = .ok (.aload_n 0, 1) := by decide +kernel
theorem dX9_take_14 : decode cX9_take 14 = .ok (.getfield 10, 3) := by decide +kernel
theorem dX9_take_17 : decode cX9_take 17 = .ok (.dup, 1) := by decide +kernel
theorem dX9_take_18 : decode cX9_take 18 = .ok (.getfield 164, 3) := by decide +kernel
theorem dX9_take_21 : decode cX9_take 21 = .ok (.iconst 1, 1) := by decide +kernel
theorem dX9_take_22 : decode cX9_take 22 = .ok (.isub, 1) := by decide +kernel
theorem dX9_take_23 : decode cX9_take 23 = .ok (.putfield 164, 3) := by decide +kernel
theorem dX9_take_26 : decode cX9_take 26 = .ok (.aload_n 0, 1) := by decide +kernel
theorem dX9_take_27 : decode cX9_take 27 = .ok (.getfield 10, 3) := by decide +kernel
theorem dX9_take_30 : decode cX9_take 30 = .ok (.invokevirtual 158, 3) := by decide +kernel
theorem dX9_take_33 : decode cX9_take 33 = .ok (.aload_n 0, 1) := by decide +kernel
theorem dX9_take_34 : decode cX9_take 34 = .ok (.getfield 10, 3) := by decide +kernel
theorem dX9_take_37 : decode cX9_take 37 = .ok (.getfield 164, 3) := by decide +kernel
theorem dX9_take_40 : decode cX9_take 40 = .ok (.ireturn, 1) := by decide +kernel
theorem dX9_taken_0 : decode cX9_taken 0 = .ok (.aload_n 0, 1) := by decide +kernel
theorem dX9_taken_1 : decode cX9_taken 1 = .ok (.iload_n 1, 1) := by decide +kernel
theorem dX9_taken_2 : decode cX9_taken 2 = .ok (.invokevirtual 116, 3) := by decide +kernel
theorem dX9_taken_5 : decode cX9_taken 5 = .ok (.ifCond .eq 10, 3) := by decide +kernel
theorem dX9_taken_8 : decode cX9_taken 8 = .ok (.iload_n 2, 1) := by decide +kernel
theorem dX9_taken_9 : decode cX9_taken 9 = .ok (.invokestatic 105, 3) := by decide +kernel
theorem dX9_taken_12 : decode cX9_taken 12 = .ok (.ifCond .ne 6, 3) := by decide +kernel
theorem dX9_taken_15 : decode cX9_taken 15 = .ok (.bipush (-2), 2) := by decide +kernel
theorem dX9_taken_17 : decode cX9_taken 17 = .ok (.ireturn, 1) := by decide +kernel
theorem dX9_taken_18 : decode cX9_taken 18 = .ok (.aload_n 0, 1) := by decide +kernel
theorem dX9_taken_19 : decode cX9_taken 19 = .ok (.getfield 10, 3) := by decide +kernel
theorem dX9_taken_22 : decode cX9_taken 22 = .ok (.getfield 119, 3) := by decide +kernel
theorem dX9_taken_25 : decode cX9_taken 25 = .ok (.iload_n 1, 1) := by decide +kernel
theorem dX9_taken_26 : decode cX9_taken 26 = .ok (.aaload, 1) := by decide +kernel
theorem dX9_taken_27 : decode cX9_taken 27 = .ok (.iload_n 2, 1) := by decide +kernel
theorem dX9_taken_28 : decode cX9_taken 28 = .ok (.invokevirtual 167, 3) := by decide +kernel
theorem dX9_taken_31 : decode cX9_taken 31 = .ok (.ifCond .eq 18, 3) := by decide +kernel
theorem dX9_taken_34 : decode cX9_taken 34 = .ok (.aload_n 0, 1) := by decide +kernel
theorem dX9_taken_35 : decode cX9_taken 35 = .ok (.getfield 10, 3) := by decide +kernel
theorem dX9_taken_38 : decode cX9_taken 38 = .ok (.getfield 119, 3) := by decide +kernel
theorem dX9_taken_41 : decode cX9_taken 41 = .ok (.iload_n 1, 1) := by decide +kernel
theorem dX9_taken_42 : decode cX9_taken 42 = .ok (.aaload, 1) := by decide +kernel
theorem dX9_taken_43 : decode cX9_taken 43 = .ok (.getfield 129, 3) := by decide +kernel
theorem dX9_taken_46 : decode cX9_taken 46 = .ok (.goto 5, 3) := by decide +kernel
theorem dX9_taken_49 : decode cX9_taken 49 = .ok (.bipush (-13), 2) := by decide +kernel
theorem dX9_taken_51 : decode cX9_taken 51 = .ok (.ireturn, 1) := by decide +kernel
theorem dX9_step_0 : decode cX9_step 0 = .ok (.iload_n 1, 1) := by decide +kernel
theorem dX9_step_1 : decode cX9_step 1 = .ok (.iconst 1, 1) := by decide +kernel
theorem dX9_step_2 : decode cX9_step 2 = .ok (.bipush 60, 2) := by decide +kernel
theorem dX9_step_4 : decode cX9_step 4 = .ok (.invokestatic 108, 3) := by decide +kernel
theorem dX9_step_7 : decode cX9_step 7 = .ok (.ifCond .ne 6, 3) := by decide +kernel
theorem dX9_step_10 : decode cX9_step 10 = .ok (.bipush (-2), 2) := by decide +kernel
theorem dX9_step_12 : decode cX9_step 12 = .ok (.ireturn, 1) := by decide +kernel
theorem dX9_step_13 : decode cX9_step 13 = .ok (.aload_n 0, 1) := by decide +kernel
theorem dX9_step_14 : decode cX9_step 14 = .ok (.getfield 10, 3) := by decide +kernel
theorem dX9_step_17 : decode cX9_step 17 = .ok (.getfield 170, 3) := by decide +kernel
theorem dX9_step_20 : decode cX9_step 20 = .ok (.iload_n 1, 1) := by decide +kernel
theorem dX9_step_21 : decode cX9_step 21 = .ok (.iadd, 1) := by decide +kernel
theorem dX9_step_22 : decode cX9_step 22 = .ok (.sipush 9999, 3) := by decide +kernel
theorem dX9_step_25 : decode cX9_step 25 = .ok (.if_icmp .le 6, 3) := by decide +kernel
theorem dX9_step_28 : decode cX9_step 28 = .ok (.bipush (-3), 2) := by decide +kernel
theorem dX9_step_30 : decode cX9_step 30 = .ok (.ireturn, 1) := by decide +kernel
theorem dX9_step_31 : decode cX9_step 31 = .ok (.iconst 0, 1) := by decide +kernel
theorem dX9_step_32 : decode cX9_step 32 = .ok (.istore_n 2, 1) := by decide +kernel
theorem dX9_step_33 : decode cX9_step 33 = .ok (.iconst 0, 1) := by decide +kernel
theorem dX9_step_34 : decode cX9_step 34 = .ok (.istore_n 3, 1) := by decide +kernel
theorem dX9_step_35 : decode cX9_step 35 = .ok (.iload_n 3, 1) := by decide +kernel
theorem dX9_step_36 : decode cX9_step 36 = .ok (.iload_n 1, 1) := by decide +kernel
theorem dX9_step_37 : decode cX9_step 37 = .ok (.if_icmp .ge 19, 3) := by decide +kernel
theorem dX9_step_40 : decode cX9_step 40 = .ok (.iload_n 2, 1) := by decide +kernel
theorem dX9_step_41 : decode cX9_step 41 = .ok (.aload_n 0, 1) := by decide +kernel
theorem dX9_step_42 : decode cX9_step 42 = .ok (.getfield 10, 3) := by decide +kernel
theorem dX9_step_45 : decode cX9_step 45 = .ok (.invokevirtual 173, 3) := by decide +kernel
theorem dX9_step_48 : decode cX9_step 48 = .ok (.ior, 1) := by decide +kernel
theorem dX9_step_49 : decode cX9_step 49 = .ok (.istore_n 2, 1) := by decide +kernel
theorem dX9_step_50 : decode cX9_step 50 = .ok (.iinc 3 1, 3) := by decide +kernel
theorem dX9_step_53 : decode cX9_step 53 = .ok (.goto (-18), 3) := by decide +kernel
theorem dX9_step_56 : decode cX9_step 56 = .ok (.iload_n 2, 1) := by decide +kernel
theorem dX9_step_57 : decode cX9_step 57 = .ok (.ireturn, 1) := by decide +kernel
theorem dX9_next_0 : decode cX9_next 0 = .ok (.iload_n 1, 1) := by decide +kernel
theorem dX9_next_1 : decode cX9_next 1 = .ok (.iconst 0, 1) := by decide +kernel
theorem dX9_next_2 : decode cX9_next 2 = .ok (.iconst 4, 1) := by decide +kernel
theorem dX9_next_3 : decode cX9_next 3 = .ok (.invokestatic 108, 3) := by decide +kernel
theorem dX9_next_6 : decode cX9_next 6 = .ok (.ifCond .ne 6, 3) := by decide +kernel
theorem dX9_next_9 : decode cX9_next 9 = .ok (.bipush (-2), 2) := by decide +kernel
theorem dX9_next_11 : decode cX9_next 11 = .ok (.ireturn, 1) := by decide +kernel
theorem dX9_next_12 : decode cX9_next 12 = .ok (.aload_n 0, 1) := by decide +kernel
theorem dX9_next_13 : decode cX9_next 13 = .ok (.getfield 16, 3) := by decide +kernel
theorem dX9_next_16 : decode cX9_next 16 = .ok (.aload_n 0, 1) := by decide +kernel
theorem dX9_next_17 : decode cX9_next 17 = .ok (.getfield 10, 3) := by decide +kernel
theorem dX9_next_20 : decode cX9_next 20 = .ok (.invokevirtual 177, 3) := by decide +kernel
theorem dX9_next_23 : decode cX9_next 23 = .ok (.aload_n 0, 1) := by decide +kernel
theorem dX9_next_24 : decode cX9_next 24 = .ok (.getfield 16, 3) := by decide +kernel
theorem dX9_next_27 : decode cX9_next 27 = .ok (.invokevirtual 173, 3) := by decide +kernel
theorem dX9_next_30 : decode cX9_next 30 = .ok (.istore_n 2, 1) := by decide +kernel
theorem dX9_next_31 : decode cX9_next 31 = .ok (.iload_n 1, 1) := by decide +kernel
theorem dX9_next_32 : decode cX9_next 32 = .ok (.iconst 3, 1) := by decide +kernel
theorem dX9_next_33 : decode cX9_next 33 = .ok (.if_icmp .ge 13, 3) := by decide +kernel
theorem dX9_next_36 : decode cX9_next 36 = .ok (.aload_n 0, 1) := by decide +kernel
theorem dX9_next_37 : decode cX9_next 37 = .ok (.getfield 16, 3) := by decide +kernel
theorem dX9_next_40 : decode cX9_next 40 = .ok (.getfield 82, 3) := by decide +kernel
theorem dX9_next_43 : decode cX9_next 43 = .ok (.iload_n 1, 1) := by decide +kernel
theorem dX9_next_44 : decode cX9_next 44 = .ok (.iaload, 1) := by decide +kernel
theorem dX9_next_45 : decode cX9_next 45 = .ok (.ireturn, 1) := by decide +kernel
theorem dX9_next_46 : decode cX9_next 46 = .ok (.iload_n 1, 1) := by decide +kernel
theorem dX9_next_47 : decode cX9_next 47 = .ok (.iconst 3, 1) := by decide +kernel
theorem dX9_next_48 : decode cX9_next 48 = .ok (.if_icmp .ne 7, 3) := by decide +kernel
theorem dX9_next_51 : decode cX9_next 51 = .ok (.iload_n 2, 1) := by decide +kernel
theorem dX9_next_52 : decode cX9_next 52 = .ok (.goto 10, 3) := by decide +kernel
theorem dX9_next_55 : decode cX9_next 55 = .ok (.aload_n 0, 1) := by decide +kernel
theorem dX9_next_56 : decode cX9_next 56 = .ok (.getfield 16, 3) := by decide +kernel
theorem dX9_next_59 : decode cX9_next 59 = .ok (.invokevirtual 181, 3) := by decide +kernel
theorem dX9_next_62 : decode cX9_next 62 = .ok (.ireturn, 1) := by decide +kernel
theorem dX9_may_0 : decode cX9_may 0 = .ok (.iload_n 1, 1) := by decide +kernel
theorem dX9_may_1 : decode cX9_may 1 = .ok (.invokestatic 75, 3) := by decide +kernel
theorem dX9_may_4 : decode cX9_may 4 = .ok (.ifCond .ne 6, 3) := by decide +kernel
theorem dX9_may_7 : decode cX9_may 7 = .ok (.bipush (-2), 2) := by decide +kernel
theorem dX9_may_9 : decode cX9_may 9 = .ok (.ireturn, 1) := by decide +kernel
theorem dX9_may_10 : decode cX9_may 10 = .ok (.iconst 0, 1) := by decide +kernel
theorem dX9_may_11 : decode cX9_may 11 = .ok (.istore_n 2, 1) := by decide +kernel
theorem dX9_may_12 : decode cX9_may 12 = .ok (.iconst 0, 1) := by decide +kernel
theorem dX9_may_13 : decode cX9_may 13 = .ok (.istore_n 3, 1) := by decide +kernel
theorem dX9_may_14 : decode cX9_may 14 = .ok (.iload_n 3, 1) := by decide +kernel
theorem dX9_may_15 : decode cX9_may 15 = .ok (.iconst 4, 1) := by decide +kernel
theorem dX9_may_16 : decode cX9_may 16 = .ok (.if_icmp .ge 46, 3) := by decide +kernel
theorem dX9_may_19 : decode cX9_may 19 = .ok (.aload_n 0, 1) := by decide +kernel
theorem dX9_may_20 : decode cX9_may 20 = .ok (.getfield 16, 3) := by decide +kernel
theorem dX9_may_23 : decode cX9_may 23 = .ok (.aload_n 0, 1) := by decide +kernel
theorem dX9_may_24 : decode cX9_may 24 = .ok (.getfield 10, 3) := by decide +kernel
theorem dX9_may_27 : decode cX9_may 27 = .ok (.invokevirtual 177, 3) := by decide +kernel
theorem dX9_may_30 : decode cX9_may 30 = .ok (.aload_n 0, 1) := by decide +kernel
theorem dX9_may_31 : decode cX9_may 31 = .ok (.getfield 16, 3) := by decide +kernel
theorem dX9_may_34 : decode cX9_may 34 = .ok (.getfield 89, 3) := by decide +kernel
theorem dX9_may_37 : decode cX9_may 37 = .ok (.iload_n 1, 1) := by decide +kernel
theorem dX9_may_38 : decode cX9_may 38 = .ok (.iload_n 3, 1) := by decide +kernel
theorem dX9_may_39 : decode cX9_may 39 = .ok (.iastore, 1) := by decide +kernel
theorem dX9_may_40 : decode cX9_may 40 = .ok (.aload_n 0, 1) := by decide +kernel
theorem dX9_may_41 : decode cX9_may 41 = .ok (.getfield 16, 3) := by decide +kernel
theorem dX9_may_44 : decode cX9_may 44 = .ok (.invokevirtual 173, 3) := by decide +kernel
theorem dX9_may_47 : decode cX9_may 47 = .ok (.ifCond .ne 9, 3) := by decide +kernel
theorem dX9_may_50 : decode cX9_may 50 = .ok (.iload_n 2, 1) := by decide +kernel
theorem dX9_may_51 : decode cX9_may 51 = .ok (.iconst 1, 1) := by decide +kernel
theorem dX9_may_52 : decode cX9_may 52 = .ok (.iload_n 3, 1) := by decide +kernel
theorem dX9_may_53 : decode cX9_may 53 = .ok (.ishl, 1) := by decide +kernel
theorem dX9_may_54 : decode cX9_may 54 = .ok (.ior, 1) := by decide +kernel
theorem dX9_may_55 : decode cX9_may 55 = .ok (.istore_n 2, 1) := by decide +kernel
theorem dX9_may_56 : decode cX9_may 56 = .ok (.iinc 3 1, 3) := by decide +kernel
theorem dX9_may_59 : decode cX9_may 59 = .ok (.goto (-45), 3) := by decide +kernel
theorem dX9_may_62 : decode cX9_may 62 = .ok (.iload_n 2, 1) := by decide +kernel
theorem dX9_may_63 : decode cX9_may 63 = .ok (.ireturn, 1) := by decide +kernel
theorem dX9_weakest_0 : decode cX9_weakest 0 = .ok (.iload_n 1, 1) := by decide +kernel
theorem dX9_weakest_1 : decode cX9_weakest 1 = .ok (.invokestatic 75, 3) := by decide +kernel
theorem dX9_weakest_4 : decode cX9_weakest 4 = .ok (.ifCond .ne 6, 3) := by decide +kernel
theorem dX9_weakest_7 : decode cX9_weakest 7 = .ok (.bipush (-2), 2) := by decide +kernel
theorem dX9_weakest_9 : decode cX9_weakest 9 = .ok (.ireturn, 1) := by decide +kernel
theorem dX9_weakest_10 : decode cX9_weakest 10 = .ok (.iconst (-1), 1) := by decide +kernel
theorem dX9_weakest_11 : decode cX9_weakest 11 = .ok (.istore_n 2, 1) := by decide +kernel
theorem dX9_weakest_12 : decode cX9_weakest 12 = .ok (.iconst 0, 1) := by decide +kernel
theorem dX9_weakest_13 : decode cX9_weakest 13 = .ok (.istore_n 3, 1) := by decide +kernel
theorem dX9_weakest_14 : decode cX9_weakest 14 = .ok (.iconst 0, 1) := by decide +kernel
theorem dX9_weakest_15 : decode cX9_weakest 15 = .ok (.istore 4, 2) := by decide +kernel
theorem dX9_weakest_17 : decode cX9_weakest 17 = .ok (.iload 4, 2) := by decide +kernel
theorem dX9_weakest_19 : decode cX9_weakest 19 = .ok (.aload_n 0, 1) := by decide +kernel
theorem dX9_weakest_20 : decode cX9_weakest 20 = .ok (.getfield 10, 3) := by decide +kernel
theorem dX9_weakest_23 : decode cX9_weakest 23 = .ok (.getfield 164, 3) := by decide +kernel
theorem dX9_weakest_26 : decode cX9_weakest 26 = .ok (.if_icmp .ge 74, 3) := by decide +kernel
theorem dX9_weakest_29 : decode cX9_weakest 29 = .ok (.aload_n 0, 1) := by decide +kernel
theorem dX9_weakest_30 : decode cX9_weakest 30 = .ok (.getfield 10, 3) := by decide +kernel
theorem dX9_weakest_33 : decode cX9_weakest 33 = .ok (.getfield 119, 3) := by decide +kernel
theorem dX9_weakest_36 : decode cX9_weakest 36 = .ok (.iload 4, 2) := by decide +kernel
theorem dX9_weakest_38 : decode cX9_weakest 38 = .ok (.aaload, 1) := by decide +kernel
theorem dX9_weakest_39 : decode cX9_weakest 39 = .ok (.astore 5, 2) := by decide +kernel
theorem dX9_weakest_41 : decode cX9_weakest 41 = .ok (.aload 5, 2) := by decide +kernel
theorem dX9_weakest_43 : decode cX9_weakest 43 = .ok (.getfield 132, 3) := by decide +kernel
theorem dX9_weakest_46 : decode cX9_weakest 46 = .ok (.iload_n 1, 1) := by decide +kernel
theorem dX9_weakest_47 : decode cX9_weakest 47 = .ok (.if_icmp .ne 47, 3) := by decide +kernel
theorem dX9_weakest_50 : decode cX9_weakest 50 = .ok (.aload 5, 2) := by decide +kernel
theorem dX9_weakest_52 : decode cX9_weakest 52 = .ok (.invokevirtual 184, 3) := by decide +kernel
theorem dX9_weakest_55 : decode cX9_weakest 55 = .ok (.ifCond .eq 6, 3) := by decide +kernel
theorem dX9_weakest_58 : decode cX9_weakest 58 = .ok (.goto 36, 3) := by decide +kernel
theorem dX9_weakest_61 : decode cX9_weakest 61 = .ok (.aload 5, 2) := by decide +kernel
theorem dX9_weakest_63 : decode cX9_weakest 63 = .ok (.aload_n 0, 1) := by decide +kernel
theorem dX9_weakest_64 : decode cX9_weakest 64 = .ok (.getfield 10, 3) := by decide +kernel
theorem dX9_weakest_67 : decode cX9_weakest 67 = .ok (.getfield 82, 3) := by decide +kernel
theorem dX9_weakest_70 : decode cX9_weakest 70 = .ok (.iload_n 1, 1) := by decide +kernel
theorem dX9_weakest_71 : decode cX9_weakest 71 = .ok (.iaload, 1) := by decide +kernel
theorem dX9_weakest_72 : decode cX9_weakest 72 = .ok (.invokevirtual 141, 3) := by decide +kernel
theorem dX9_weakest_75 : decode cX9_weakest 75 = .ok (.istore 6, 2) := by decide +kernel
theorem dX9_weakest_77 : decode cX9_weakest 77 = .ok (.iload_n 2, 1) := by decide +kernel
theorem dX9_weakest_78 : decode cX9_weakest 78 = .ok (.iconst (-1), 1) := by decide +kernel
theorem dX9_weakest_79 : decode cX9_weakest 79 = .ok (.if_icmp .eq 9, 3) := by decide +kernel
theorem dX9_weakest_82 : decode cX9_weakest 82 = .ok (.iload 6, 2) := by decide +kernel
theorem dX9_weakest_84 : decode cX9_weakest 84 = .ok (.iload_n 3, 1) := by decide +kernel
theorem dX9_weakest_85 : decode cX9_weakest 85 = .ok (.if_icmp .ge 9, 3) := by decide +kernel
theorem dX9_weakest_88 : decode cX9_weakest 88 = .ok (.iload 4, 2) := by decide +kernel
theorem dX9_weakest_90 : decode cX9_weakest 90 = .ok (.istore_n 2, 1) := by decide +kernel
theorem dX9_weakest_91 : decode cX9_weakest 91 = .ok (.iload 6, 2) := by decide +kernel
theorem dX9_weakest_93 : decode cX9_weakest 93 = .ok (.istore_n 3, 1) := by decide +kernel
theorem dX9_weakest_94 : decode cX9_weakest 94 = .ok (.iinc 4 1, 3) := by decide +kernel
theorem dX9_weakest_97 : decode cX9_weakest 97 = .ok (.goto (-80), 3) := by decide +kernel
theorem dX9_weakest_100 : decode cX9_weakest 100 = .ok (.iload_n 2, 1) := by decide +kernel
theorem dX9_weakest_101 : decode cX9_weakest 101 = .ok (.ireturn, 1) := by decide +kernel
theorem dX9_until_0 : decode cX9_until 0 = .ok (.iload_n 1, 1) := by decide +kernel
theorem dX9_until_1 : decode cX9_until 1 = .ok (.invokestatic 75, 3) := by decide +kernel
theorem dX9_until_4 : decode cX9_until 4 = .ok (.ifCond .eq 10, 3) := by decide +kernel
theorem dX9_until_7 : decode cX9_until 7 = .ok (.iload_n 2, 1) := by decide +kernel
theorem dX9_until_8 : decode cX9_until 8 = .ok (.invokestatic 79, 3) := by decide +kernel
theorem dX9_until_11 : decode cX9_until 11 = .ok (.ifCond .ne 6, 3) := by decide +kernel
theorem dX9_until_14 : decode cX9_until 14 = .ok (.bipush (-2), 2) := by decide +kernel
theorem dX9_until_16 : decode cX9_until 16 = .ok (.ireturn, 1) := by decide +kernel
theorem dX9_until_17 : decode cX9_until 17 = .ok (.aload_n 0, 1) := by decide +kernel
theorem dX9_until_18 : decode cX9_until 18 = .ok (.getfield 16, 3) := by decide +kernel
theorem dX9_until_21 : decode cX9_until 21 = .ok (.aload_n 0, 1) := by decide +kernel
theorem dX9_until_22 : decode cX9_until 22 = .ok (.getfield 10, 3) := by decide +kernel
theorem dX9_until_25 : decode cX9_until 25 = .ok (.invokevirtual 177, 3) := by decide +kernel
theorem dX9_until_28 : decode cX9_until 28 = .ok (.iconst 0, 1) := by decide +kernel
theorem dX9_until_29 : decode cX9_until 29 = .ok (.istore_n 3, 1) := by decide +kernel
theorem dX9_until_30 : decode cX9_until 30 = .ok (.iload_n 3, 1) := by decide +kernel
theorem dX9_until_31 : decode cX9_until 31 = .ok (.bipush 60, 2) := by decide +kernel
theorem dX9_until_33 : decode cX9_until 33 = .ok (.if_icmp .gt 31, 3) := by decide +kernel
theorem dX9_until_36 : decode cX9_until 36 = .ok (.aload_n 0, 1) := by decide +kernel
theorem dX9_until_37 : decode cX9_until 37 = .ok (.getfield 16, 3) := by decide +kernel
theorem dX9_until_40 : decode cX9_until 40 = .ok (.getfield 82, 3) := by decide +kernel
theorem dX9_until_43 : decode cX9_until 43 = .ok (.iload_n 1, 1) := by decide +kernel
theorem dX9_until_44 : decode cX9_until 44 = .ok (.iaload, 1) := by decide +kernel
theorem dX9_until_45 : decode cX9_until 45 = .ok (.iload_n 2, 1) := by decide +kernel
theorem dX9_until_46 : decode cX9_until 46 = .ok (.if_icmp .lt 5, 3) := by decide +kernel
theorem dX9_until_49 : decode cX9_until 49 = .ok (.iload_n 3, 1) := by decide +kernel
theorem dX9_until_50 : decode cX9_until 50 = .ok (.ireturn, 1) := by decide +kernel
theorem dX9_until_51 : decode cX9_until 51 = .ok (.aload_n 0, 1) := by decide +kernel
theorem dX9_until_52 : decode cX9_until 52 = .ok (.getfield 16, 3) := by decide +kernel
theorem dX9_until_55 : decode cX9_until 55 = .ok (.invokevirtual 188, 3) := by decide +kernel
theorem dX9_until_58 : decode cX9_until 58 = .ok (.iinc 3 1, 3) := by decide +kernel
theorem dX9_until_61 : decode cX9_until 61 = .ok (.goto (-31), 3) := by decide +kernel
theorem dX9_until_64 : decode cX9_until 64 = .ok (.iconst (-1), 1) := by decide +kernel
theorem dX9_until_65 : decode cX9_until 65 = .ok (.ireturn, 1) := by decide +kernel
theorem dX9_cool_0 : decode cX9_cool 0 = .ok (.iload_n 1, 1) := by decide +kernel
theorem dX9_cool_1 : decode cX9_cool 1 = .ok (.invokestatic 79, 3) := by decide +kernel
theorem dX9_cool_4 : decode cX9_cool 4 = .ok (.ifCond .ne 6, 3) := by decide +kernel
theorem dX9_cool_7 : decode cX9_cool 7 = .ok (.bipush (-2), 2) := by decide +kernel
theorem dX9_cool_9 : decode cX9_cool 9 = .ok (.ireturn, 1) := by decide +kernel
theorem dX9_cool_10 : decode cX9_cool 10 = .ok (.aload_n 0, 1) := by decide +kernel
theorem dX9_cool_11 : decode cX9_cool 11 = .ok (.getfield 16, 3) := by decide +kernel
theorem dX9_cool_14 : decode cX9_cool 14 = .ok (.aload_n 0, 1) := by decide +kernel
theorem dX9_cool_15 : decode cX9_cool 15 = .ok (.getfield 10, 3) := by decide +kernel
theorem dX9_cool_18 : decode cX9_cool 18 = .ok (.invokevirtual 177, 3) := by decide +kernel
theorem dX9_cool_21 : decode cX9_cool 21 = .ok (.aload_n 0, 1) := by decide +kernel
theorem dX9_cool_22 : decode cX9_cool 22 = .ok (.getfield 16, 3) := by decide +kernel
theorem dX9_cool_25 : decode cX9_cool 25 = .ok (.iconst 0, 1) := by decide +kernel
theorem dX9_cool_26 : decode cX9_cool 26 = .ok (.invokevirtual 191, 3) := by decide +kernel
theorem dX9_cool_29 : decode cX9_cool 29 = .ok (.iconst 0, 1) := by decide +kernel
theorem dX9_cool_30 : decode cX9_cool 30 = .ok (.istore_n 2, 1) := by decide +kernel
theorem dX9_cool_31 : decode cX9_cool 31 = .ok (.iload_n 2, 1) := by decide +kernel
theorem dX9_cool_32 : decode cX9_cool 32 = .ok (.bipush 60, 2) := by decide +kernel
theorem dX9_cool_34 : decode cX9_cool 34 = .ok (.if_icmp .gt 37, 3) := by decide +kernel
theorem dX9_cool_37 : decode cX9_cool 37 = .ok (.aload_n 0, 1) := by decide +kernel
theorem dX9_cool_38 : decode cX9_cool 38 = .ok (.getfield 16, 3) := by decide +kernel
theorem dX9_cool_41 : decode cX9_cool 41 = .ok (.getfield 82, 3) := by decide +kernel
theorem dX9_cool_44 : decode cX9_cool 44 = .ok (.aload_n 0, 1) := by decide +kernel
theorem dX9_cool_45 : decode cX9_cool 45 = .ok (.getfield 16, 3) := by decide +kernel
theorem dX9_cool_48 : decode cX9_cool 48 = .ok (.invokevirtual 195, 3) := by decide +kernel
theorem dX9_cool_51 : decode cX9_cool 51 = .ok (.iaload, 1) := by decide +kernel
theorem dX9_cool_52 : decode cX9_cool 52 = .ok (.iload_n 1, 1) := by decide +kernel
theorem dX9_cool_53 : decode cX9_cool 53 = .ok (.if_icmp .gt 5, 3) := by decide +kernel
theorem dX9_cool_56 : decode cX9_cool 56 = .ok (.iload_n 2, 1) := by decide +kernel
theorem dX9_cool_57 : decode cX9_cool 57 = .ok (.ireturn, 1) := by decide +kernel
theorem dX9_cool_58 : decode cX9_cool 58 = .ok (.aload_n 0, 1) := by decide +kernel
theorem dX9_cool_59 : decode cX9_cool 59 = .ok (.getfield 16, 3) := by decide +kernel
theorem dX9_cool_62 : decode cX9_cool 62 = .ok (.invokevirtual 188, 3) := by decide +kernel
theorem dX9_cool_65 : decode cX9_cool 65 = .ok (.iinc 2 1, 3) := by decide +kernel
theorem dX9_cool_68 : decode cX9_cool 68 = .ok (.goto (-37), 3) := by decide +kernel
theorem dX9_cool_71 : decode cX9_cool 71 = .ok (.iconst (-1), 1) := by decide +kernel
theorem dX9_cool_72 : decode cX9_cool 72 = .ok (.ireturn, 1) := by decide +kernel
theorem dX9_feed_0 : decode cX9_feed 0 = .ok (.iload_n 1, 1) := by decide +kernel
theorem dX9_feed_1 : decode cX9_feed 1 = .ok (.iconst 1, 1) := by decide +kernel
theorem dX9_feed_2 : decode cX9_feed 2 = .ok (.bipush 8, 2) := by decide +kernel
theorem dX9_feed_4 : decode cX9_feed 4 = .ok (.invokestatic 108, 3) := by decide +kernel
theorem dX9_feed_7 : decode cX9_feed 7 = .ok (.ifCond .ne 6, 3) := by decide +kernel
theorem dX9_feed_10 : decode cX9_feed 10 = .ok (.bipush (-2), 2) := by decide +kernel
theorem dX9_feed_12 : decode cX9_feed 12 = .ok (.ireturn, 1) := by decide +kernel
theorem dX9_feed_13 : decode cX9_feed 13 = .ok (.iconst 0, 1) := by decide +kernel
theorem dX9_feed_14 : decode cX9_feed 14 = .ok (.istore 4, 2) := by decide +kernel
theorem dX9_feed_16 : decode cX9_feed 16 = .ok (.iload 4, 2) := by decide +kernel
theorem dX9_feed_18 : decode cX9_feed 18 = .ok (.iload_n 1, 1) := by decide +kernel
theorem dX9_feed_19 : decode cX9_feed 19 = .ok (.if_icmp .ge 23, 3) := by decide +kernel
theorem dX9_feed_22 : decode cX9_feed 22 = .ok (.lload_n 2, 1) := by decide +kernel
theorem dX9_feed_23 : decode cX9_feed 23 = .ok (.iload 4, 2) := by decide +kernel
theorem dX9_feed_25 : decode cX9_feed 25 = .ok (.invokestatic 198, 3) := by decide +kernel
theorem dX9_feed_28 : decode cX9_feed 28 = .ok (.bipush 127, 2) := by decide +kernel
theorem dX9_feed_30 : decode cX9_feed 30 = .ok (.if_icmp .le 6, 3) := by decide +kernel
theorem dX9_feed_33 : decode cX9_feed 33 = .ok (.bipush (-2), 2) := by decide +kernel
theorem dX9_feed_35 : decode cX9_feed 35 = .ok (.ireturn, 1) := by decide +kernel
theorem dX9_feed_36 : decode cX9_feed 36 = .ok (.iinc 4 1, 3) := by decide +kernel
theorem dX9_feed_39 : decode cX9_feed 39 = .ok (.goto (-23), 3) := by decide +kernel
theorem dX9_feed_42 : decode cX9_feed 42 = .ok (.aload_n 0, 1) := by decide +kernel
theorem dX9_feed_43 : decode cX9_feed 43 = .ok (.getfield 38, 3) := by decide +kernel
theorem dX9_feed_46 : decode cX9_feed 46 = .ok (.getfield 202, 3) := by decide +kernel
theorem dX9_feed_49 : decode cX9_feed 49 = .ok (.iload_n 1, 1) := by decide +kernel
theorem dX9_feed_50 : decode cX9_feed 50 = .ok (.iadd, 1) := by decide +kernel
theorem dX9_feed_51 : decode cX9_feed 51 = .ok (.bipush 120, 2) := by decide +kernel
theorem dX9_feed_53 : decode cX9_feed 53 = .ok (.if_icmp .le 6, 3) := by decide +kernel
theorem dX9_feed_56 : decode cX9_feed 56 = .ok (.bipush (-4), 2) := by decide +kernel
theorem dX9_feed_58 : decode cX9_feed 58 = .ok (.ireturn, 1) := by decide +kernel
theorem dX9_feed_59 : decode cX9_feed 59 = .ok (.iconst 0, 1) := by decide +kernel
theorem dX9_feed_60 : decode cX9_feed 60 = .ok (.istore 4, 2) := by decide +kernel
theorem dX9_feed_62 : decode cX9_feed 62 = .ok (.iload 4, 2) := by decide +kernel
theorem dX9_feed_64 : decode cX9_feed 64 = .ok (.iload_n 1, 1) := by decide +kernel
theorem dX9_feed_65 : decode cX9_feed 65 = .ok (.if_icmp .ge 22, 3) := by decide +kernel
theorem dX9_feed_68 : decode cX9_feed 68 = .ok (.aload_n 0, 1) := by decide +kernel
theorem dX9_feed_69 : decode cX9_feed 69 = .ok (.getfield 38, 3) := by decide +kernel
theorem dX9_feed_72 : decode cX9_feed 72 = .ok (.lload_n 2, 1) := by decide +kernel
theorem dX9_feed_73 : decode cX9_feed 73 = .ok (.iload 4, 2) := by decide +kernel
theorem dX9_feed_75 : decode cX9_feed 75 = .ok (.invokestatic 198, 3) := by decide +kernel
theorem dX9_feed_78 : decode cX9_feed 78 = .ok (.invokevirtual 203, 3) := by decide +kernel
theorem dX9_feed_81 : decode cX9_feed 81 = .ok (.iinc 4 1, 3) := by decide +kernel
theorem dX9_feed_84 : decode cX9_feed 84 = .ok (.goto (-22), 3) := by decide +kernel
theorem dX9_feed_87 : decode cX9_feed 87 = .ok (.aload_n 0, 1) := by decide +kernel
theorem dX9_feed_88 : decode cX9_feed 88 = .ok (.getfield 38, 3) := by decide +kernel
theorem dX9_feed_91 : decode cX9_feed 91 = .ok (.getfield 202, 3) := by decide +kernel
theorem dX9_feed_94 : decode cX9_feed 94 = .ok (.ireturn, 1) := by decide +kernel
theorem dX9_course_0 : decode cX9_course 0 = .ok (.iload_n 1, 1) := by decide +kernel
theorem dX9_course_1 : decode cX9_course 1 = .ok (.invokestatic 206, 3) := by decide +kernel
theorem dX9_course_4 : decode cX9_course 4 = .ok (.ifCond .ne 6, 3) := by decide +kernel
theorem dX9_course_7 : decode cX9_course 7 = .ok (.bipush (-2), 2) := by decide +kernel
theorem dX9_course_9 : decode cX9_course 9 = .ok (.ireturn, 1) := by decide +kernel
theorem dX9_course_10 : decode cX9_course 10 = .ok (.aload_n 0, 1) := by decide +kernel
theorem dX9_course_11 : decode cX9_course 11 = .ok (.getfield 38, 3) := by decide +kernel
theorem dX9_course_14 : decode cX9_course 14 = .ok (.aload_n 0, 1) := by decide +kernel
theorem dX9_course_15 : decode cX9_course 15 = .ok (.getfield 50, 3) := by decide +kernel
theorem dX9_course_18 : decode cX9_course 18 = .ok (.invokevirtual 209, 3) := by decide +kernel
theorem dX9_course_21 : decode cX9_course 21 = .ok (.istore_n 2, 1) := by decide +kernel
theorem dX9_course_22 : decode cX9_course 22 = .ok (.aload_n 0, 1) := by decide +kernel
theorem dX9_course_23 : decode cX9_course 23 = .ok (.getfield 38, 3) := by decide +kernel
theorem dX9_course_26 : decode cX9_course 26 = .ok (.iconst 0, 1) := by decide +kernel
theorem dX9_course_27 : decode cX9_course 27 = .ok (.putfield 202, 3) := by decide +kernel
theorem dX9_course_30 : decode cX9_course 30 = .ok (.iload_n 2, 1) := by decide +kernel
theorem dX9_course_31 : decode cX9_course 31 = .ok (.iconst (-1), 1) := by decide +kernel
theorem dX9_course_32 : decode cX9_course 32 = .ok (.if_icmp .eq 8, 3) := by decide +kernel
theorem dX9_course_35 : decode cX9_course 35 = .ok (.bipush (-100), 2) := by decide +kernel
theorem dX9_course_37 : decode cX9_course 37 = .ok (.iload_n 2, 1) := by decide +kernel
theorem dX9_course_38 : decode cX9_course 38 = .ok (.isub, 1) := by decide +kernel
theorem dX9_course_39 : decode cX9_course 39 = .ok (.ireturn, 1) := by decide +kernel
theorem dX9_course_40 : decode cX9_course 40 = .ok (.aload_n 0, 1) := by decide +kernel
theorem dX9_course_41 : decode cX9_course 41 = .ok (.getfield 24, 3) := by decide +kernel
theorem dX9_course_44 : decode cX9_course 44 = .ok (.iload_n 1, 1) := by decide +kernel
theorem dX9_course_45 : decode cX9_course 45 = .ok (.aaload, 1) := by decide +kernel
theorem dX9_course_46 : decode cX9_course 46 = .ok (.aload_n 0, 1) := by decide +kernel
theorem dX9_course_47 : decode cX9_course 47 = .ok (.getfield 50, 3) := by decide +kernel
theorem dX9_course_50 : decode cX9_course 50 = .ok (.invokevirtual 213, 3) := by decide +kernel
theorem dX9_course_53 : decode cX9_course 53 = .ok (.aload_n 0, 1) := by decide +kernel
theorem dX9_course_54 : decode cX9_course 54 = .ok (.getfield 24, 3) := by decide +kernel
theorem dX9_course_57 : decode cX9_course 57 = .ok (.iload_n 1, 1) := by decide +kernel
theorem dX9_course_58 : decode cX9_course 58 = .ok (.aaload, 1) := by decide +kernel
theorem dX9_course_59 : decode cX9_course 59 = .ok (.getfield 216, 3) := by decide +kernel
theorem dX9_course_62 : decode cX9_course 62 = .ok (.ireturn, 1) := by decide +kernel
theorem dX9_leg_0 : decode cX9_leg 0 = .ok (.iload_n 1, 1) := by decide +kernel
theorem dX9_leg_1 : decode cX9_leg 1 = .ok (.invokestatic 206, 3) := by decide +kernel
theorem dX9_leg_4 : decode cX9_leg 4 = .ok (.ifCond .eq 12, 3) := by decide +kernel
theorem dX9_leg_7 : decode cX9_leg 7 = .ok (.iload_n 3, 1) := by decide +kernel
theorem dX9_leg_8 : decode cX9_leg 8 = .ok (.iconst 0, 1) := by decide +kernel
theorem dX9_leg_9 : decode cX9_leg 9 = .ok (.iconst 3, 1) := by decide +kernel
theorem dX9_leg_10 : decode cX9_leg 10 = .ok (.invokestatic 108, 3) := by decide +kernel
theorem dX9_leg_13 : decode cX9_leg 13 = .ok (.ifCond .ne 6, 3) := by decide +kernel
theorem dX9_leg_16 : decode cX9_leg 16 = .ok (.bipush (-2), 2) := by decide +kernel
theorem dX9_leg_18 : decode cX9_leg 18 = .ok (.ireturn, 1) := by decide +kernel
theorem dX9_leg_19 : decode cX9_leg 19 = .ok (.aload_n 0, 1) := by decide +kernel
theorem dX9_leg_20 : decode cX9_leg 20 = .ok (.getfield 24, 3) := by decide +kernel
theorem dX9_leg_23 : decode cX9_leg 23 = .ok (.iload_n 1, 1) := by decide +kernel
theorem dX9_leg_24 : decode cX9_leg 24 = .ok (.aaload, 1) := by decide +kernel
theorem dX9_leg_25 : decode cX9_leg 25 = .ok (.invokevirtual 219, 3) := by decide +kernel
theorem dX9_leg_28 : decode cX9_leg 28 = .ok (.ifCond .eq 6, 3) := by decide +kernel
theorem dX9_leg_31 : decode cX9_leg 31 = .ok (.bipush (-3), 2) := by decide +kernel
theorem dX9_leg_33 : decode cX9_leg 33 = .ok (.ireturn, 1) := by decide +kernel
theorem dX9_leg_34 : decode cX9_leg 34 = .ok (.iload_n 2, 1) := by decide +kernel
theorem dX9_leg_35 : decode cX9_leg 35 = .ok (.iconst 0, 1) := by decide +kernel
theorem dX9_leg_36 : decode cX9_leg 36 = .ok (.aload_n 0, 1) := by decide +kernel
theorem dX9_leg_37 : decode cX9_leg 37 = .ok (.getfield 24, 3) := by decide +kernel
theorem dX9_leg_40 : decode cX9_leg 40 = .ok (.iload_n 1, 1) := by decide +kernel
theorem dX9_leg_41 : decode cX9_leg 41 = .ok (.aaload, 1) := by decide +kernel
theorem dX9_leg_42 : decode cX9_leg 42 = .ok (.getfield 216, 3) := by decide +kernel
theorem dX9_leg_45 : decode cX9_leg 45 = .ok (.iconst 1, 1) := by decide +kernel
theorem dX9_leg_46 : decode cX9_leg 46 = .ok (.isub, 1) := by decide +kernel
theorem dX9_leg_47 : decode cX9_leg 47 = .ok (.invokestatic 108, 3) := by decide +kernel
theorem dX9_leg_50 : decode cX9_leg 50 = .ok (.ifCond .ne 6, 3) := by decide +kernel
theorem dX9_leg_53 : decode cX9_leg 53 = .ok (.bipush (-12), 2) := by decide +kernel
theorem dX9_leg_55 : decode cX9_leg 55 = .ok (.ireturn, 1) := by decide +kernel
theorem dX9_leg_56 : decode cX9_leg 56 = .ok (.iload_n 3, 1) := by decide +kernel
theorem dX9_leg_57 : decode cX9_leg 57 = .ok (.iconst 3, 1) := by decide +kernel
theorem dX9_leg_58 : decode cX9_leg 58 = .ok (.if_icmp .ne 17, 3) := by decide +kernel
theorem dX9_leg_61 : decode cX9_leg 61 = .ok (.aload_n 0, 1) := by decide +kernel
theorem dX9_leg_62 : decode cX9_leg 62 = .ok (.getfield 24, 3) := by decide +kernel
theorem dX9_leg_65 : decode cX9_leg 65 = .ok (.iload_n 1, 1) := by decide +kernel
theorem dX9_leg_66 : decode cX9_leg 66 = .ok (.aaload, 1) := by decide +kernel
theorem dX9_leg_67 : decode cX9_leg 67 = .ok (.getfield 222, 3) := by decide +kernel
theorem dX9_leg_70 : decode cX9_leg 70 = .ok (.iload_n 2, 1) := by decide +kernel
theorem dX9_leg_71 : decode cX9_leg 71 = .ok (.iaload, 1) := by decide +kernel
theorem dX9_leg_72 : decode cX9_leg 72 = .ok (.goto 14, 3) := by decide +kernel
theorem dX9_leg_75 : decode cX9_leg 75 = .ok (.aload_n 0, 1) := by decide +kernel
theorem dX9_leg_76 : decode cX9_leg 76 = .ok (.getfield 24, 3) := by decide +kernel
theorem dX9_leg_79 : decode cX9_leg 79 = .ok (.iload_n 1, 1) := by decide +kernel
theorem dX9_leg_80 : decode cX9_leg 80 = .ok (.aaload, 1) := by decide +kernel
theorem dX9_leg_81 : decode cX9_leg 81 = .ok (.iload_n 2, 1) := by decide +kernel
theorem dX9_leg_82 : decode cX9_leg 82 = .ok (.iload_n 3, 1) := by decide +kernel
theorem dX9_leg_83 : decode cX9_leg 83 = .ok (.invokevirtual 224, 3) := by decide +kernel
theorem dX9_leg_86 : decode cX9_leg 86 = .ok (.ireturn, 1) := by decide +kernel
theorem dX9_print_0 : decode cX9_print 0 = .ok (.iload_n 1, 1) := by decide +kernel
theorem dX9_print_1 : decode cX9_print 1 = .ok (.invokestatic 206, 3) := by decide +kernel
theorem dX9_print_4 : decode cX9_print 4 = .ok (.ifCond .eq 8, 3) := by decide +kernel
theorem dX9_print_7 : decode cX9_print 7 = .ok (.iload_n 2, 1) := by decide +kernel
theorem dX9_print_8 : decode cX9_print 8 = .ok (.iconst (-1), 1) := by decide +kernel
theorem dX9_print_9 : decode cX9_print 9 = .ok (.if_icmp .ge 6, 3) := by decide +kernel
theorem dX9_print_12 : decode cX9_print 12 = .ok (.bipush (-2), 2) := by decide +kernel
theorem dX9_print_14 : decode cX9_print 14 = .ok (.ireturn, 1) := by decide +kernel
theorem dX9_print_15 : decode cX9_print 15 = .ok (.aload_n 0, 1) := by decide +kernel
theorem dX9_print_16 : decode cX9_print 16 = .ok (.getfield 24, 3) := by decide +kernel
theorem dX9_print_19 : decode cX9_print 19 = .ok (.iload_n 1, 1) := by decide +kernel
theorem dX9_print_20 : decode cX9_print 20 = .ok (.aaload, 1) := by decide +kernel
theorem dX9_print_21 : decode cX9_print 21 = .ok (.invokevirtual 219, 3) := by decide +kernel
theorem dX9_print_24 : decode cX9_print 24 = .ok (.ifCond .eq 6, 3) := by decide +kernel
theorem dX9_print_27 : decode cX9_print 27 = .ok (.bipush (-3), 2) := by decide +kernel
theorem dX9_print_29 : decode cX9_print 29 = .ok (.ireturn, 1) := by decide +kernel
theorem dX9_print_30 : decode cX9_print 30 = .ok (.aload_n 0, 1) := by decide +kernel
theorem dX9_print_31 : decode cX9_print 31 = .ok (.getfield 45, 3) := by decide +kernel
theorem dX9_print_34 : decode cX9_print 34 = .ok (.aload_n 0, 1) := by decide +kernel
theorem dX9_print_35 : decode cX9_print 35 = .ok (.getfield 24, 3) := by decide +kernel
theorem dX9_print_38 : decode cX9_print 38 = .ok (.iload_n 1, 1) := by decide +kernel
theorem dX9_print_39 : decode cX9_print 39 = .ok (.aaload, 1) := by decide +kernel
theorem dX9_print_40 : decode cX9_print 40 = .ok (.invokevirtual 227, 3) := by decide +kernel
theorem dX9_print_43 : decode cX9_print 43 = .ok (.iload_n 2, 1) := by decide +kernel
theorem dX9_print_44 : decode cX9_print 44 = .ok (.iconst (-1), 1) := by decide +kernel
theorem dX9_print_45 : decode cX9_print 45 = .ok (.if_icmp .ne 11, 3) := by decide +kernel
theorem dX9_print_48 : decode cX9_print 48 = .ok (.aload_n 0, 1) := by decide +kernel
theorem dX9_print_49 : decode cX9_print 49 = .ok (.getfield 45, 3) := by decide +kernel
theorem dX9_print_52 : decode cX9_print 52 = .ok (.getfield 230, 3) := by decide +kernel
theorem dX9_print_55 : decode cX9_print 55 = .ok (.ireturn, 1) := by decide +kernel
theorem dX9_print_56 : decode cX9_print 56 = .ok (.iload_n 2, 1) := by decide +kernel
theorem dX9_print_57 : decode cX9_print 57 = .ok (.aload_n 0, 1) := by decide +kernel
theorem dX9_print_58 : decode cX9_print 58 = .ok (.getfield 45, 3) := by decide +kernel
theorem dX9_print_61 : decode cX9_print 61 = .ok (.getfield 230, 3) := by decide +kernel
theorem dX9_print_64 : decode cX9_print 64 = .ok (.if_icmp .ge 15, 3) := by decide +kernel
theorem dX9_print_67 : decode cX9_print 67 = .ok (.aload_n 0, 1) := by decide +kernel
theorem dX9_print_68 : decode cX9_print 68 = .ok (.getfield 45, 3) := by decide +kernel
theorem dX9_print_71 : decode cX9_print 71 = .ok (.getfield 231, 3) := by decide +kernel
theorem dX9_print_74 : decode cX9_print 74 = .ok (.iload_n 2, 1) := by decide +kernel
theorem dX9_print_75 : decode cX9_print 75 = .ok (.baload, 1) := by decide +kernel
theorem dX9_print_76 : decode cX9_print 76 = .ok (.goto 5, 3) := by decide +kernel
theorem dX9_print_79 : decode cX9_print 79 = .ok (.bipush (-12), 2) := by decide +kernel
theorem dX9_print_81 : decode cX9_print 81 = .ok (.ireturn, 1) := by decide +kernel
theorem dX9_spelled_0 : decode cX9_spelled 0 = .ok (.iload_n 1, 1) := by decide +kernel
theorem dX9_spelled_1 : decode cX9_spelled 1 = .ok (.invokestatic 206, 3) := by decide +kernel
theorem dX9_spelled_4 : decode cX9_spelled 4 = .ok (.ifCond .ne 6, 3) := by decide +kernel
theorem dX9_spelled_7 : decode cX9_spelled 7 = .ok (.bipush (-2), 2) := by decide +kernel
theorem dX9_spelled_9 : decode cX9_spelled 9 = .ok (.ireturn, 1) := by decide +kernel
theorem dX9_spelled_10 : decode cX9_spelled 10 = .ok (.aload_n 0, 1) := by decide +kernel
theorem dX9_spelled_11 : decode cX9_spelled 11 = .ok (.getfield 24, 3) := by decide +kernel
theorem dX9_spelled_14 : decode cX9_spelled 14 = .ok (.iload_n 1, 1) := by decide +kernel
theorem dX9_spelled_15 : decode cX9_spelled 15 = .ok (.aaload, 1) := by decide +kernel
theorem dX9_spelled_16 : decode cX9_spelled 16 = .ok (.invokevirtual 219, 3) := by decide +kernel
theorem dX9_spelled_19 : decode cX9_spelled 19 = .ok (.ifCond .eq 6, 3) := by decide +kernel
theorem dX9_spelled_22 : decode cX9_spelled 22 = .ok (.bipush (-3), 2) := by decide +kernel
theorem dX9_spelled_24 : decode cX9_spelled 24 = .ok (.ireturn, 1) := by decide +kernel
theorem dX9_spelled_25 : decode cX9_spelled 25 = .ok (.aload_n 0, 1) := by decide +kernel
theorem dX9_spelled_26 : decode cX9_spelled 26 = .ok (.getfield 45, 3) := by decide +kernel
theorem dX9_spelled_29 : decode cX9_spelled 29 = .ok (.aload_n 0, 1) := by decide +kernel
theorem dX9_spelled_30 : decode cX9_spelled 30 = .ok (.getfield 24, 3) := by decide +kernel
theorem dX9_spelled_33 : decode cX9_spelled 33 = .ok (.iload_n 1, 1) := by decide +kernel
theorem dX9_spelled_34 : decode cX9_spelled 34 = .ok (.aaload, 1) := by decide +kernel
theorem dX9_spelled_35 : decode cX9_spelled 35 = .ok (.invokevirtual 227, 3) := by decide +kernel
theorem dX9_spelled_38 : decode cX9_spelled 38 = .ok (.aload_n 0, 1) := by decide +kernel
theorem dX9_spelled_39 : decode cX9_spelled 39 = .ok (.getfield 45, 3) := by decide +kernel
theorem dX9_spelled_42 : decode cX9_spelled 42 = .ok (.aload_n 0, 1) := by decide +kernel
theorem dX9_spelled_43 : decode cX9_spelled 43 = .ok (.getfield 38, 3) := by decide +kernel
theorem dX9_spelled_46 : decode cX9_spelled 46 = .ok (.invokevirtual 235, 3) := by decide +kernel
theorem dX9_spelled_49 : decode cX9_spelled 49 = .ok (.ifCond .eq 7, 3) := by decide +kernel
theorem dX9_spelled_52 : decode cX9_spelled 52 = .ok (.iconst 1, 1) := by decide +kernel
theorem dX9_spelled_53 : decode cX9_spelled 53 = .ok (.goto 4, 3) := by decide +kernel
theorem dX9_spelled_56 : decode cX9_spelled 56 = .ok (.iconst 0, 1) := by decide +kernel
theorem dX9_spelled_57 : decode cX9_spelled 57 = .ok (.ireturn, 1) := by decide +kernel
theorem dX9_join_0 : decode cX9_join 0 = .ok (.iload_n 1, 1) := by decide +kernel
theorem dX9_join_1 : decode cX9_join 1 = .ok (.invokestatic 206, 3) := by decide +kernel
theorem dX9_join_4 : decode cX9_join 4 = .ok (.ifCond .eq 10, 3) := by decide +kernel
theorem dX9_join_7 : decode cX9_join 7 = .ok (.iload_n 2, 1) := by decide +kernel
theorem dX9_join_8 : decode cX9_join 8 = .ok (.invokestatic 206, 3) := by decide +kernel
theorem dX9_join_11 : decode cX9_join 11 = .ok (.ifCond .ne 6, 3) := by decide +kernel
theorem dX9_join_14 : decode cX9_join 14 = .ok (.bipush (-2), 2) := by decide +kernel
theorem dX9_join_16 : decode cX9_join 16 = .ok (.ireturn, 1) := by decide +kernel
theorem dX9_join_17 : decode cX9_join 17 = .ok (.aload_n 0, 1) := by decide +kernel
theorem dX9_join_18 : decode cX9_join 18 = .ok (.getfield 24, 3) := by decide +kernel
theorem dX9_join_21 : decode cX9_join 21 = .ok (.iload_n 1, 1) := by decide +kernel
theorem dX9_join_22 : decode cX9_join 22 = .ok (.aaload, 1) := by decide +kernel
theorem dX9_join_23 : decode cX9_join 23 = .ok (.invokevirtual 219, 3) := by decide +kernel
theorem dX9_join_26 : decode cX9_join 26 = .ok (.ifCond .ne 15, 3) := by decide +kernel
theorem dX9_join_29 : decode cX9_join 29 = .ok (.aload_n 0, 1) := by decide +kernel
theorem dX9_join_30 : decode cX9_join 30 = .ok (.getfield 24, 3) := by decide +kernel
theorem dX9_join_33 : decode cX9_join 33 = .ok (.iload_n 2, 1) := by decide +kernel
theorem dX9_join_34 : decode cX9_join 34 = .ok (.aaload, 1) := by decide +kernel
theorem dX9_join_35 : decode cX9_join 35 = .ok (.invokevirtual 219, 3) := by decide +kernel
theorem dX9_join_38 : decode cX9_join 38 = .ok (.ifCond .eq 6, 3) := by decide +kernel
theorem dX9_join_41 : decode cX9_join 41 = .ok (.bipush (-3), 2) := by decide +kernel
theorem dX9_join_43 : decode cX9_join 43 = .ok (.ireturn, 1) := by decide +kernel
theorem dX9_join_44 : decode cX9_join 44 = .ok (.aload_n 0, 1) := by decide +kernel
theorem dX9_join_45 : decode cX9_join 45 = .ok (.getfield 24, 3) := by decide +kernel
theorem dX9_join_48 : decode cX9_join 48 = .ok (.iload_n 1, 1) := by decide +kernel
theorem dX9_join_49 : decode cX9_join 49 = .ok (.aaload, 1) := by decide +kernel
theorem dX9_join_50 : decode cX9_join 50 = .ok (.getfield 216, 3) := by decide +kernel
theorem dX9_join_53 : decode cX9_join 53 = .ok (.aload_n 0, 1) := by decide +kernel
theorem dX9_join_54 : decode cX9_join 54 = .ok (.getfield 24, 3) := by decide +kernel
theorem dX9_join_57 : decode cX9_join 57 = .ok (.iload_n 2, 1) := by decide +kernel
theorem dX9_join_58 : decode cX9_join 58 = .ok (.aaload, 1) := by decide +kernel
theorem dX9_join_59 : decode cX9_join 59 = .ok (.getfield 216, 3) := by decide +kernel
theorem dX9_join_62 : decode cX9_join 62 = .ok (.iadd, 1) := by decide +kernel
theorem dX9_join_63 : decode cX9_join 63 = .ok (.bipush 6, 2) := by decide +kernel
theorem dX9_join_65 : decode cX9_join 65 = .ok (.if_icmp .le 6, 3) := by decide +kernel
theorem dX9_join_68 : decode cX9_join 68 = .ok (.bipush (-4), 2) := by decide +kernel
theorem dX9_join_70 : decode cX9_join 70 = .ok (.ireturn, 1) := by decide +kernel
theorem dX9_join_71 : decode cX9_join 71 = .ok (.aload_n 0, 1) := by decide +kernel
theorem dX9_join_72 : decode cX9_join 72 = .ok (.getfield 24, 3) := by decide +kernel
theorem dX9_join_75 : decode cX9_join 75 = .ok (.iload_n 1, 1) := by decide +kernel
theorem dX9_join_76 : decode cX9_join 76 = .ok (.aaload, 1) := by decide +kernel
theorem dX9_join_77 : decode cX9_join 77 = .ok (.aload_n 0, 1) := by decide +kernel
theorem dX9_join_78 : decode cX9_join 78 = .ok (.getfield 24, 3) := by decide +kernel
theorem dX9_join_81 : decode cX9_join 81 = .ok (.iload_n 2, 1) := by decide +kernel
theorem dX9_join_82 : decode cX9_join 82 = .ok (.aaload, 1) := by decide +kernel
theorem dX9_join_83 : decode cX9_join 83 = .ok (.invokevirtual 239, 3) := by decide +kernel
theorem dX9_join_86 : decode cX9_join 86 = .ok (.aload_n 0, 1) := by decide +kernel
theorem dX9_join_87 : decode cX9_join 87 = .ok (.getfield 24, 3) := by decide +kernel
theorem dX9_join_90 : decode cX9_join 90 = .ok (.iload_n 1, 1) := by decide +kernel
theorem dX9_join_91 : decode cX9_join 91 = .ok (.aaload, 1) := by decide +kernel
theorem dX9_join_92 : decode cX9_join 92 = .ok (.getfield 216, 3) := by decide +kernel
theorem dX9_join_95 : decode cX9_join 95 = .ok (.ireturn, 1) := by decide +kernel
theorem dX9_clear_0 : decode cX9_clear 0 = .ok (.iload_n 1, 1) := by decide +kernel
theorem dX9_clear_1 : decode cX9_clear 1 = .ok (.invokestatic 206, 3) := by decide +kernel
theorem dX9_clear_4 : decode cX9_clear 4 = .ok (.ifCond .ne 6, 3) := by decide +kernel
theorem dX9_clear_7 : decode cX9_clear 7 = .ok (.bipush (-2), 2) := by decide +kernel
theorem dX9_clear_9 : decode cX9_clear 9 = .ok (.ireturn, 1) := by decide +kernel
theorem dX9_clear_10 : decode cX9_clear 10 = .ok (.aload_n 0, 1) := by decide +kernel
theorem dX9_clear_11 : decode cX9_clear 11 = .ok (.getfield 24, 3) := by decide +kernel
theorem dX9_clear_14 : decode cX9_clear 14 = .ok (.iload_n 1, 1) := by decide +kernel
theorem dX9_clear_15 : decode cX9_clear 15 = .ok (.aaload, 1) := by decide +kernel
theorem dX9_clear_16 : decode cX9_clear 16 = .ok (.invokevirtual 219, 3) := by decide +kernel
theorem dX9_clear_19 : decode cX9_clear 19 = .ok (.ifCond .eq 6, 3) := by decide +kernel
theorem dX9_clear_22 : decode cX9_clear 22 = .ok (.bipush (-3), 2) := by decide +kernel
theorem dX9_clear_24 : decode cX9_clear 24 = .ok (.ireturn, 1) := by decide +kernel
theorem dX9_clear_25 : decode cX9_clear 25 = .ok (.aload_n 0, 1) := by decide +kernel
theorem dX9_clear_26 : decode cX9_clear 26 = .ok (.getfield 24, 3) := by decide +kernel
theorem dX9_clear_29 : decode cX9_clear 29 = .ok (.iload_n 1, 1) := by decide +kernel
theorem dX9_clear_30 : decode cX9_clear 30 = .ok (.aaload, 1) := by decide +kernel
theorem dX9_clear_31 : decode cX9_clear 31 = .ok (.getfield 216, 3) := by decide +kernel
theorem dX9_clear_34 : decode cX9_clear 34 = .ok (.istore_n 2, 1) := by decide +kernel
theorem dX9_clear_35 : decode cX9_clear 35 = .ok (.aload_n 0, 1) := by decide +kernel
theorem dX9_clear_36 : decode cX9_clear 36 = .ok (.getfield 24, 3) := by decide +kernel
theorem dX9_clear_39 : decode cX9_clear 39 = .ok (.iload_n 1, 1) := by decide +kernel
theorem dX9_clear_40 : decode cX9_clear 40 = .ok (.aaload, 1) := by decide +kernel
theorem dX9_clear_41 : decode cX9_clear 41 = .ok (.iconst 0, 1) := by decide +kernel
theorem dX9_clear_42 : decode cX9_clear 42 = .ok (.putfield 216, 3) := by decide +kernel
theorem dX9_clear_45 : decode cX9_clear 45 = .ok (.iload_n 2, 1) := by decide +kernel
theorem dX9_clear_46 : decode cX9_clear 46 = .ok (.ireturn, 1) := by decide +kernel
theorem dX9_fire_0 : decode cX9_fire 0 = .ok (.iload_n 1, 1) := by decide +kernel
theorem dX9_fire_1 : decode cX9_fire 1 = .ok (.invokestatic 206, 3) := by decide +kernel
theorem dX9_fire_4 : decode cX9_fire 4 = .ok (.ifCond .ne 6, 3) := by decide +kernel
theorem dX9_fire_7 : decode cX9_fire 7 = .ok (.bipush (-2), 2) := by decide +kernel
theorem dX9_fire_9 : decode cX9_fire 9 = .ok (.ireturn, 1) := by decide +kernel
theorem dX9_fire_10 : decode cX9_fire 10 = .ok (.aload_n 0, 1) := by decide +kernel
theorem dX9_fire_11 : decode cX9_fire 11 = .ok (.getfield 24, 3) := by decide +kernel
theorem dX9_fire_14 : decode cX9_fire 14 = .ok (.iload_n 1, 1) := by decide +kernel
theorem dX9_fire_15 : decode cX9_fire 15 = .ok (.aaload, 1) := by decide +kernel
theorem dX9_fire_16 : decode cX9_fire 16 = .ok (.invokevirtual 219, 3) := by decide +kernel
theorem dX9_fire_19 : decode cX9_fire 19 = .ok (.ifCond .ne 26, 3) := by decide +kernel
theorem dX9_fire_22 : decode cX9_fire 22 = .ok (.aload_n 0, 1) := by decide +kernel
theorem dX9_fire_23 : decode cX9_fire 23 = .ok (.getfield 10, 3) := by decide +kernel
theorem dX9_fire_26 : decode cX9_fire 26 = .ok (.getfield 170, 3) := by decide +kernel
theorem dX9_fire_29 : decode cX9_fire 29 = .ok (.aload_n 0, 1) := by decide +kernel
theorem dX9_fire_30 : decode cX9_fire 30 = .ok (.getfield 24, 3) := by decide +kernel
theorem dX9_fire_33 : decode cX9_fire 33 = .ok (.iload_n 1, 1) := by decide +kernel
theorem dX9_fire_34 : decode cX9_fire 34 = .ok (.aaload, 1) := by decide +kernel
theorem dX9_fire_35 : decode cX9_fire 35 = .ok (.invokevirtual 242, 3) := by decide +kernel
theorem dX9_fire_38 : decode cX9_fire 38 = .ok (.iadd, 1) := by decide +kernel
theorem dX9_fire_39 : decode cX9_fire 39 = .ok (.sipush 9999, 3) := by decide +kernel
theorem dX9_fire_42 : decode cX9_fire 42 = .ok (.if_icmp .le 6, 3) := by decide +kernel
theorem dX9_fire_45 : decode cX9_fire 45 = .ok (.bipush (-3), 2) := by decide +kernel
theorem dX9_fire_47 : decode cX9_fire 47 = .ok (.ireturn, 1) := by decide +kernel
theorem dX9_fire_48 : decode cX9_fire 48 = .ok (.aload_n 0, 1) := by decide +kernel
theorem dX9_fire_49 : decode cX9_fire 49 = .ok (.getfield 57, 3) := by decide +kernel
theorem dX9_fire_52 : decode cX9_fire 52 = .ok (.aload_n 0, 1) := by decide +kernel
theorem dX9_fire_53 : decode cX9_fire 53 = .ok (.getfield 10, 3) := by decide +kernel
theorem dX9_fire_56 : decode cX9_fire 56 = .ok (.aload_n 0, 1) := by decide +kernel
theorem dX9_fire_57 : decode cX9_fire 57 = .ok (.getfield 24, 3) := by decide +kernel
theorem dX9_fire_60 : decode cX9_fire 60 = .ok (.iload_n 1, 1) := by decide +kernel
theorem dX9_fire_61 : decode cX9_fire 61 = .ok (.aaload, 1) := by decide +kernel
theorem dX9_fire_62 : decode cX9_fire 62 = .ok (.iload_n 2, 1) := by decide +kernel
theorem dX9_fire_63 : decode cX9_fire 63 = .ok (.invokevirtual 245, 3) := by decide +kernel
theorem dX9_fire_66 : decode cX9_fire 66 = .ok (.aload_n 0, 1) := by decide +kernel
theorem dX9_fire_67 : decode cX9_fire 67 = .ok (.getfield 57, 3) := by decide +kernel
theorem dX9_fire_70 : decode cX9_fire 70 = .ok (.getfield 249, 3) := by decide +kernel
theorem dX9_fire_73 : decode cX9_fire 73 = .ok (.ireturn, 1) := by decide +kernel
theorem dX9_tries_0 : decode cX9_tries 0 = .ok (.iload_n 1, 1) := by decide +kernel
theorem dX9_tries_1 : decode cX9_tries 1 = .ok (.invokestatic 206, 3) := by decide +kernel
theorem dX9_tries_4 : decode cX9_tries 4 = .ok (.ifCond .eq 13, 3) := by decide +kernel
theorem dX9_tries_7 : decode cX9_tries 7 = .ok (.iload_n 2, 1) := by decide +kernel
theorem dX9_tries_8 : decode cX9_tries 8 = .ok (.iconst 0, 1) := by decide +kernel
theorem dX9_tries_9 : decode cX9_tries 9 = .ok (.bipush 8, 2) := by decide +kernel
theorem dX9_tries_11 : decode cX9_tries 11 = .ok (.invokestatic 108, 3) := by decide +kernel
theorem dX9_tries_14 : decode cX9_tries 14 = .ok (.ifCond .ne 6, 3) := by decide +kernel
theorem dX9_tries_17 : decode cX9_tries 17 = .ok (.bipush (-2), 2) := by decide +kernel
theorem dX9_tries_19 : decode cX9_tries 19 = .ok (.ireturn, 1) := by decide +kernel
theorem dX9_tries_20 : decode cX9_tries 20 = .ok (.aload_n 0, 1) := by decide +kernel
theorem dX9_tries_21 : decode cX9_tries 21 = .ok (.getfield 24, 3) := by decide +kernel
theorem dX9_tries_24 : decode cX9_tries 24 = .ok (.iload_n 1, 1) := by decide +kernel
theorem dX9_tries_25 : decode cX9_tries 25 = .ok (.aaload, 1) := by decide +kernel
theorem dX9_tries_26 : decode cX9_tries 26 = .ok (.invokevirtual 219, 3) := by decide +kernel
theorem dX9_tries_29 : decode cX9_tries 29 = .ok (.ifCond .eq 6, 3) := by decide +kernel
theorem dX9_tries_32 : decode cX9_tries 32 = .ok (.bipush (-3), 2) := by decide +kernel
theorem dX9_tries_34 : decode cX9_tries 34 = .ok (.ireturn, 1) := by decide +kernel
theorem dX9_tries_35 : decode cX9_tries 35 = .ok (.aload_n 0, 1) := by decide +kernel
theorem dX9_tries_36 : decode cX9_tries 36 = .ok (.getfield 16, 3) := by decide +kernel
theorem dX9_tries_39 : decode cX9_tries 39 = .ok (.aload_n 0, 1) := by decide +kernel
theorem dX9_tries_40 : decode cX9_tries 40 = .ok (.getfield 10, 3) := by decide +kernel
theorem dX9_tries_43 : decode cX9_tries 43 = .ok (.invokevirtual 177, 3) := by decide +kernel
