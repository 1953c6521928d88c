theorem dX0_given_0 : decode cX0_given 0 = .ok (.iload_n 0, 1) := by decide +kernel
theorem dX0_given_1 : decode cX0_given 1 = .ok (.tableswitch 64 1 3 #[27, 39, 51], 27) := by decide +kernel
theorem dX0_given_28 : decode cX0_given 28 = .ok (.iconst 0, 1) := by decide +kernel
theorem dX0_given_29 : decode cX0_given 29 = .ok (.bipush 60, 2) := by decide +kernel
theorem dX0_given_31 : decode cX0_given 31 = .ok (.iload_n 1, 1) := by decide +kernel
theorem dX0_given_32 : decode cX0_given 32 = .ok (.bipush 20, 2) := by decide +kernel
theorem dX0_given_34 : decode cX0_given 34 = .ok (.idiv, 1) := by decide +kernel
theorem dX0_given_35 : decode cX0_given 35 = .ok (.isub, 1) := by decide +kernel
theorem dX0_given_36 : decode cX0_given 36 = .ok (.invokestatic 7, 3) := by decide +kernel
theorem dX0_given_39 : decode cX0_given 39 = .ok (.ireturn, 1) := by decide +kernel
theorem dX0_given_40 : decode cX0_given 40 = .ok (.iconst 0, 1) := by decide +kernel
theorem dX0_given_41 : decode cX0_given 41 = .ok (.bipush 120, 2) := by decide +kernel
theorem dX0_given_43 : decode cX0_given 43 = .ok (.iload_n 1, 1) := by decide +kernel
theorem dX0_given_44 : decode cX0_given 44 = .ok (.bipush 15, 2) := by decide +kernel
theorem dX0_given_46 : decode cX0_given 46 = .ok (.idiv, 1) := by decide +kernel
theorem dX0_given_47 : decode cX0_given 47 = .ok (.isub, 1) := by decide +kernel
theorem dX0_given_48 : decode cX0_given 48 = .ok (.invokestatic 7, 3) := by decide +kernel
theorem dX0_given_51 : decode cX0_given 51 = .ok (.ireturn, 1) := by decide +kernel
theorem dX0_given_52 : decode cX0_given 52 = .ok (.iconst 0, 1) := by decide +kernel
theorem dX0_given_53 : decode cX0_given 53 = .ok (.sipush 200, 3) := by decide +kernel
theorem dX0_given_56 : decode cX0_given 56 = .ok (.iload_n 1, 1) := by decide +kernel
theorem dX0_given_57 : decode cX0_given 57 = .ok (.bipush 10, 2) := by decide +kernel
theorem dX0_given_59 : decode cX0_given 59 = .ok (.idiv, 1) := by decide +kernel
theorem dX0_given_60 : decode cX0_given 60 = .ok (.isub, 1) := by decide +kernel
theorem dX0_given_61 : decode cX0_given 61 = .ok (.invokestatic 7, 3) := by decide +kernel
theorem dX0_given_64 : decode cX0_given 64 = .ok (.ireturn, 1) := by decide +kernel
theorem dX0_given_65 : decode cX0_given 65 = .ok (.iconst 0, 1) := by decide +kernel
theorem dX0_given_66 : decode cX0_given 66 = .ok (.ireturn, 1) := by decide +kernel
theorem dX0_burnt_0 : decode cX0_burnt 0 = .ok (.iload_n 0, 1) := by decide +kernel
theorem dX0_burnt_1 : decode cX0_burnt 1 = .ok (.tableswitch 34 1 3 #[27, 29, 31], 27) := by decide +kernel
theorem dX0_burnt_28 : decode cX0_burnt 28 = .ok (.iconst 1, 1) := by decide +kernel
theorem dX0_burnt_29 : decode cX0_burnt 29 = .ok (.ireturn, 1) := by decide +kernel
theorem dX0_burnt_30 : decode cX0_burnt 30 = .ok (.iconst 3, 1) := by decide +kernel
theorem dX0_burnt_31 : decode cX0_burnt 31 = .ok (.ireturn, 1) := by decide +kernel
theorem dX0_burnt_32 : decode cX0_burnt 32 = .ok (.bipush 6, 2) := by decide +kernel
theorem dX0_burnt_34 : decode cX0_burnt 34 = .ok (.ireturn, 1) := by decide +kernel
theorem dX0_burnt_35 : decode cX0_burnt 35 = .ok (.iconst 0, 1) := by decide +kernel
theorem dX0_burnt_36 : decode cX0_burnt 36 = .ok (.ireturn, 1) := by decide +kernel
theorem dX0_word_0 : decode cX0_word 0 = .ok (.iload_n 0, 1) := by decide +kernel
theorem dX0_word_1 : decode cX0_word 1 = .ok (.tableswitch 36 1 3 #[27, 30, 33], 27) := by decide +kernel
theorem dX0_word_28 : decode cX0_word 28 = .ok (.ldc 13, 2) := by decide +kernel
theorem dX0_word_30 : decode cX0_word 30 = .ok (.areturn, 1) := by decide +kernel
theorem dX0_word_31 : decode cX0_word 31 = .ok (.ldc 15, 2) := by decide +kernel
theorem dX0_word_33 : decode cX0_word 33 = .ok (.areturn, 1) := by decide +kernel
theorem dX0_word_34 : decode cX0_word 34 = .ok (.ldc 17, 2) := by decide +kernel
theorem dX0_word_36 : decode cX0_word 36 = .ok (.areturn, 1) := by decide +kernel
theorem dX0_word_37 : decode cX0_word 37 = .ok (.ldc 19, 2) := by decide +kernel
theorem dX0_word_39 : decode cX0_word 39 = .ok (.areturn, 1) := by decide +kernel
theorem dX1_init_0 : decode cX1_init 0 = .ok (.aload_n 0, 1) := by decide +kernel
theorem dX1_init_1 : decode cX1_init 1 = .ok (.invokespecial 3, 3) := by decide +kernel
theorem dX1_init_4 : decode cX1_init 4 = .ok (.aload_n 0, 1) := by decide +kernel
theorem dX1_init_5 : decode cX1_init 5 = .ok (.bipush 18, 2) := by decide +kernel
theorem dX1_init_7 : decode cX1_init 7 = .ok (.newarray .int, 2) := by decide +kernel
theorem dX1_init_9 : decode cX1_init 9 = .ok (.putfield 9, 3) := by decide +kernel
theorem dX1_init_12 : decode cX1_init 12 = .ok (.aload_n 0, 1) := by decide +kernel
theorem dX1_init_13 : decode cX1_init 13 = .ok (.bipush 6, 2) := by decide +kernel
theorem dX1_init_15 : decode cX1_init 15 = .ok (.newarray .int, 2) := by decide +kernel
theorem dX1_init_17 : decode cX1_init 17 = .ok (.putfield 15, 3) := by decide +kernel
theorem dX1_init_20 : decode cX1_init 20 = .ok (.aload_n 0, 1) := by decide +kernel
theorem dX1_init_21 : decode cX1_init 21 = .ok (.iconst 0, 1) := by decide +kernel
theorem dX1_init_22 : decode cX1_init 22 = .ok (.putfield 18, 3) := by decide +kernel
theorem dX1_init_25 : decode cX1_init 25 = .ok (.return_, 1) := by decide +kernel
theorem dX1_isNone_0 : decode cX1_isNone 0 = .ok (.aload_n 0, 1) := by decide +kernel
theorem dX1_isNone_1 : decode cX1_isNone 1 = .ok (.getfield 18, 3) := by decide +kernel
theorem dX1_isNone_4 : decode cX1_isNone 4 = .ok (.ifCond .ne 7, 3) := by decide +kernel
theorem dX1_isNone_7 : decode cX1_isNone 7 = .ok (.iconst 1, 1) := by decide +kernel
theorem dX1_isNone_8 : decode cX1_isNone 8 = .ok (.goto 4, 3) := by decide +kernel
theorem dX1_isNone_11 : decode cX1_isNone 11 = .ok (.iconst 0, 1) := by decide +kernel
theorem dX1_isNone_12 : decode cX1_isNone 12 = .ok (.ireturn, 1) := by decide +kernel
theorem dX1_settingOf_0 : decode cX1_settingOf 0 = .ok (.aload_n 0, 1) := by decide +kernel
theorem dX1_settingOf_1 : decode cX1_settingOf 1 = .ok (.getfield 9, 3) := by decide +kernel
theorem dX1_settingOf_4 : decode cX1_settingOf 4 = .ok (.iload_n 1, 1) := by decide +kernel
theorem dX1_settingOf_5 : decode cX1_settingOf 5 = .ok (.iconst 3, 1) := by decide +kernel
theorem dX1_settingOf_6 : decode cX1_settingOf 6 = .ok (.imul, 1) := by decide +kernel
theorem dX1_settingOf_7 : decode cX1_settingOf 7 = .ok (.iload_n 2, 1) := by decide +kernel
theorem dX1_settingOf_8 : decode cX1_settingOf 8 = .ok (.iadd, 1) := by decide +kernel
theorem dX1_settingOf_9 : decode cX1_settingOf 9 = .ok (.iaload, 1) := by decide +kernel
theorem dX1_settingOf_10 : decode cX1_settingOf 10 = .ok (.ireturn, 1) := by decide +kernel
theorem dX1_become_0 : decode cX1_become 0 = .ok (.aload_n 0, 1) := by decide +kernel
theorem dX1_become_1 : decode cX1_become 1 = .ok (.iconst 0, 1) := by decide +kernel
theorem dX1_become_2 : decode cX1_become 2 = .ok (.putfield 18, 3) := by decide +kernel
theorem dX1_become_5 : decode cX1_become 5 = .ok (.aload_n 0, 1) := by decide +kernel
theorem dX1_become_6 : decode cX1_become 6 = .ok (.aload_n 1, 1) := by decide +kernel
theorem dX1_become_7 : decode cX1_become 7 = .ok (.invokevirtual 22, 3) := by decide +kernel
theorem dX1_become_10 : decode cX1_become 10 = .ok (.return_, 1) := by decide +kernel
theorem dX1_append_0 : decode cX1_append 0 = .ok (.aload_n 1, 1) := by decide +kernel
theorem dX1_append_1 : decode cX1_append 1 = .ok (.getfield 18, 3) := by decide +kernel
theorem dX1_append_4 : decode cX1_append 4 = .ok (.istore_n 2, 1) := by decide +kernel
theorem dX1_append_5 : decode cX1_append 5 = .ok (.iconst 0, 1) := by decide +kernel
theorem dX1_append_6 : decode cX1_append 6 = .ok (.istore_n 3, 1) := by decide +kernel
theorem dX1_append_7 : decode cX1_append 7 = .ok (.iload_n 3, 1) := by decide +kernel
theorem dX1_append_8 : decode cX1_append 8 = .ok (.iload_n 2, 1) := by decide +kernel
theorem dX1_append_9 : decode cX1_append 9 = .ok (.if_icmp .ge 37, 3) := by decide +kernel
theorem dX1_append_12 : decode cX1_append 12 = .ok (.aload_n 0, 1) := by decide +kernel
theorem dX1_append_13 : decode cX1_append 13 = .ok (.aload_n 1, 1) := by decide +kernel
theorem dX1_append_14 : decode cX1_append 14 = .ok (.iload_n 3, 1) := by decide +kernel
theorem dX1_append_15 : decode cX1_append 15 = .ok (.iconst 0, 1) := by decide +kernel
theorem dX1_append_16 : decode cX1_append 16 = .ok (.invokevirtual 26, 3) := by decide +kernel
theorem dX1_append_19 : decode cX1_append 19 = .ok (.aload_n 1, 1) := by decide +kernel
theorem dX1_append_20 : decode cX1_append 20 = .ok (.iload_n 3, 1) := by decide +kernel
theorem dX1_append_21 : decode cX1_append 21 = .ok (.iconst 1, 1) := by decide +kernel
theorem dX1_append_22 : decode cX1_append 22 = .ok (.invokevirtual 26, 3) := by decide +kernel
theorem dX1_append_25 : decode cX1_append 25 = .ok (.aload_n 1, 1) := by decide +kernel
theorem dX1_append_26 : decode cX1_append 26 = .ok (.iload_n 3, 1) := by decide +kernel
theorem dX1_append_27 : decode cX1_append 27 = .ok (.iconst 2, 1) := by decide +kernel
theorem dX1_append_28 : decode cX1_append 28 = .ok (.invokevirtual 26, 3) := by decide +kernel
theorem dX1_append_31 : decode cX1_append 31 = .ok (.aload_n 1, 1) := by decide +kernel
theorem dX1_append_32 : decode cX1_append 32 = .ok (.getfield 15, 3) := by decide +kernel
theorem dX1_append_35 : decode cX1_append 35 = .ok (.iload_n 3, 1) := by decide +kernel
theorem dX1_append_36 : decode cX1_append 36 = .ok (.iaload, 1) := by decide +kernel
theorem dX1_append_37 : decode cX1_append 37 = .ok (.invokevirtual 30, 3) := by decide +kernel
theorem dX1_append_40 : decode cX1_append 40 = .ok (.iinc 3 1, 3) := by decide +kernel
theorem dX1_append_43 : decode cX1_append 43 = .ok (.goto (-36), 3) := by decide +kernel
theorem dX1_append_46 : decode cX1_append 46 = .ok (.return_, 1) := by decide +kernel
theorem dX1_addLeg_0 : decode cX1_addLeg 0 = .ok (.aload_n 0, 1) := by decide +kernel
theorem dX1_addLeg_1 : decode cX1_addLeg 1 = .ok (.getfield 18, 3) := by decide +kernel
theorem dX1_addLeg_4 : decode cX1_addLeg 4 = .ok (.bipush 6, 2) := by decide +kernel
theorem dX1_addLeg_6 : decode cX1_addLeg 6 = .ok (.if_icmp .lt 4, 3) := by decide +kernel
theorem dX1_addLeg_9 : decode cX1_addLeg 9 = .ok (.return_, 1) := by decide +kernel
theorem dX1_addLeg_10 : decode cX1_addLeg 10 = .ok (.aload_n 0, 1) := by decide +kernel
theorem dX1_addLeg_11 : decode cX1_addLeg 11 = .ok (.getfield 9, 3) := by decide +kernel
theorem dX1_addLeg_14 : decode cX1_addLeg 14 = .ok (.aload_n 0, 1) := by decide +kernel
theorem dX1_addLeg_15 : decode cX1_addLeg 15 = .ok (.getfield 18, 3) := by decide +kernel
theorem dX1_addLeg_18 : decode cX1_addLeg 18 = .ok (.iconst 3, 1) := by decide +kernel
theorem dX1_addLeg_19 : decode cX1_addLeg 19 = .ok (.imul, 1) := by decide +kernel
theorem dX1_addLeg_20 : decode cX1_addLeg 20 = .ok (.iload_n 1, 1) := by decide +kernel
theorem dX1_addLeg_21 : decode cX1_addLeg 21 = .ok (.iastore, 1) := by decide +kernel
theorem dX1_addLeg_22 : decode cX1_addLeg 22 = .ok (.aload_n 0, 1) := by decide +kernel
theorem dX1_addLeg_23 : decode cX1_addLeg 23 = .ok (.getfield 9, 3) := by decide +kernel
theorem dX1_addLeg_26 : decode cX1_addLeg 26 = .ok (.aload_n 0, 1) := by decide +kernel
theorem dX1_addLeg_27 : decode cX1_addLeg 27 = .ok (.getfield 18, 3) := by decide +kernel
theorem dX1_addLeg_30 : decode cX1_addLeg 30 = .ok (.iconst 3, 1) := by decide +kernel
theorem dX1_addLeg_31 : decode cX1_addLeg 31 = .ok (.imul, 1) := by decide +kernel
theorem dX1_addLeg_32 : decode cX1_addLeg 32 = .ok (.iconst 1, 1) := by decide +kernel
theorem dX1_addLeg_33 : decode cX1_addLeg 33 = .ok (.iadd, 1) := by decide +kernel
theorem dX1_addLeg_34 : decode cX1_addLeg 34 = .ok (.iload_n 2, 1) := by decide +kernel
theorem dX1_addLeg_35 : decode cX1_addLeg 35 = .ok (.iastore, 1) := by decide +kernel
theorem dX1_addLeg_36 : decode cX1_addLeg 36 = .ok (.aload_n 0, 1) := by decide +kernel
theorem dX1_addLeg_37 : decode cX1_addLeg 37 = .ok (.getfield 9, 3) := by decide +kernel
theorem dX1_addLeg_40 : decode cX1_addLeg 40 = .ok (.aload_n 0, 1) := by decide +kernel
theorem dX1_addLeg_41 : decode cX1_addLeg 41 = .ok (.getfield 18, 3) := by decide +kernel
theorem dX1_addLeg_44 : decode cX1_addLeg 44 = .ok (.iconst 3, 1) := by decide +kernel
theorem dX1_addLeg_45 : decode cX1_addLeg 45 = .ok (.imul, 1) := by decide +kernel
theorem dX1_addLeg_46 : decode cX1_addLeg 46 = .ok (.iconst 2, 1) := by decide +kernel
theorem dX1_addLeg_47 : decode cX1_addLeg 47 = .ok (.iadd, 1) := by decide +kernel
theorem dX1_addLeg_48 : decode cX1_addLeg 48 = .ok (.iload_n 3, 1) := by decide +kernel
theorem dX1_addLeg_49 : decode cX1_addLeg 49 = .ok (.iastore, 1) := by decide +kernel
theorem dX1_addLeg_50 : decode cX1_addLeg 50 = .ok (.aload_n 0, 1) := by decide +kernel
theorem dX1_addLeg_51 : decode cX1_addLeg 51 = .ok (.getfield 15, 3) := by decide +kernel
theorem dX1_addLeg_54 : decode cX1_addLeg 54 = .ok (.aload_n 0, 1) := by decide +kernel
theorem dX1_addLeg_55 : decode cX1_addLeg 55 = .ok (.getfield 18, 3) := by decide +kernel
theorem dX1_addLeg_58 : decode cX1_addLeg 58 = .ok (.iload 4, 2) := by decide +kernel
theorem dX1_addLeg_60 : decode cX1_addLeg 60 = .ok (.iastore, 1) := by decide +kernel
theorem dX1_addLeg_61 : decode cX1_addLeg 61 = .ok (.aload_n 0, 1) := by decide +kernel
theorem dX1_addLeg_62 : decode cX1_addLeg 62 = .ok (.dup, 1) := by decide +kernel
theorem dX1_addLeg_63 : decode cX1_addLeg 63 = .ok (.getfield 18, 3) := by decide +kernel
theorem dX1_addLeg_66 : decode cX1_addLeg 66 = .ok (.iconst 1, 1) := by decide +kernel
theorem dX1_addLeg_67 : decode cX1_addLeg 67 = .ok (.iadd, 1) := by decide +kernel
theorem dX1_addLeg_68 : decode cX1_addLeg 68 = .ok (.putfield 18, 3) := by decide +kernel
theorem dX1_addLeg_71 : decode cX1_addLeg 71 = .ok (.return_, 1) := by decide +kernel
theorem dX1_isEven_0 : decode cX1_isEven 0 = .ok (.aload_n 0, 1) := by decide +kernel
theorem dX1_isEven_1 : decode cX1_isEven 1 = .ok (.iload_n 1, 1) := by decide +kernel
theorem dX1_isEven_2 : decode cX1_isEven 2 = .ok (.iconst 0, 1) := by decide +kernel
theorem dX1_isEven_3 : decode cX1_isEven 3 = .ok (.invokevirtual 26, 3) := by decide +kernel
theorem dX1_isEven_6 : decode cX1_isEven 6 = .ok (.istore_n 2, 1) := by decide +kernel
theorem dX1_isEven_7 : decode cX1_isEven 7 = .ok (.iload_n 2, 1) := by decide +kernel
theorem dX1_isEven_8 : decode cX1_isEven 8 = .ok (.aload_n 0, 1) := by decide +kernel
theorem dX1_isEven_9 : decode cX1_isEven 9 = .ok (.iload_n 1, 1) := by decide +kernel
theorem dX1_isEven_10 : decode cX1_isEven 10 = .ok (.iconst 1, 1) := by decide +kernel
theorem dX1_isEven_11 : decode cX1_isEven 11 = .ok (.invokevirtual 26, 3) := by decide +kernel
theorem dX1_isEven_14 : decode cX1_isEven 14 = .ok (.if_icmp .ne 17, 3) := by decide +kernel
theorem dX1_isEven_17 : decode cX1_isEven 17 = .ok (.iload_n 2, 1) := by decide +kernel
theorem dX1_isEven_18 : decode cX1_isEven 18 = .ok (.aload_n 0, 1) := by decide +kernel
theorem dX1_isEven_19 : decode cX1_isEven 19 = .ok (.iload_n 1, 1) := by decide +kernel
theorem dX1_isEven_20 : decode cX1_isEven 20 = .ok (.iconst 2, 1) := by decide +kernel
theorem dX1_isEven_21 : decode cX1_isEven 21 = .ok (.invokevirtual 26, 3) := by decide +kernel
theorem dX1_isEven_24 : decode cX1_isEven 24 = .ok (.if_icmp .ne 7, 3) := by decide +kernel
theorem dX1_isEven_27 : decode cX1_isEven 27 = .ok (.iconst 1, 1) := by decide +kernel
theorem dX1_isEven_28 : decode cX1_isEven 28 = .ok (.goto 4, 3) := by decide +kernel
theorem dX1_isEven_31 : decode cX1_isEven 31 = .ok (.iconst 0, 1) := by decide +kernel
theorem dX1_isEven_32 : decode cX1_isEven 32 = .ok (.ireturn, 1) := by decide +kernel
theorem dX1_allSteps_0 : decode cX1_allSteps 0 = .ok (.iconst 0, 1) := by decide +kernel
theorem dX1_allSteps_1 : decode cX1_allSteps 1 = .ok (.istore_n 1, 1) := by decide +kernel
theorem dX1_allSteps_2 : decode cX1_allSteps 2 = .ok (.iconst 0, 1) := by decide +kernel
theorem dX1_allSteps_3 : decode cX1_allSteps 3 = .ok (.istore_n 2, 1) := by decide +kernel
theorem dX1_allSteps_4 : decode cX1_allSteps 4 = .ok (.iload_n 2, 1) := by decide +kernel
theorem dX1_allSteps_5 : decode cX1_allSteps 5 = .ok (.aload_n 0, 1) := by decide +kernel
theorem dX1_allSteps_6 : decode cX1_allSteps 6 = .ok (.getfield 18, 3) := by decide +kernel
theorem dX1_allSteps_9 : decode cX1_allSteps 9 = .ok (.if_icmp .ge 18, 3) := by decide +kernel
theorem dX1_allSteps_12 : decode cX1_allSteps 12 = .ok (.iload_n 1, 1) := by decide +kernel
theorem dX1_allSteps_13 : decode cX1_allSteps 13 = .ok (.aload_n 0, 1) := by decide +kernel
theorem dX1_allSteps_14 : decode cX1_allSteps 14 = .ok (.getfield 15, 3) := by decide +kernel
theorem dX1_allSteps_17 : decode cX1_allSteps 17 = .ok (.iload_n 2, 1) := by decide +kernel
theorem dX1_allSteps_18 : decode cX1_allSteps 18 = .ok (.iaload, 1) := by decide +kernel
theorem dX1_allSteps_19 : decode cX1_allSteps 19 = .ok (.iadd, 1) := by decide +kernel
theorem dX1_allSteps_20 : decode cX1_allSteps 20 = .ok (.istore_n 1, 1) := by decide +kernel
theorem dX1_allSteps_21 : decode cX1_allSteps 21 = .ok (.iinc 2 1, 3) := by decide +kernel
theorem dX1_allSteps_24 : decode cX1_allSteps 24 = .ok (.goto (-20), 3) := by decide +kernel
theorem dX1_allSteps_27 : decode cX1_allSteps 27 = .ok (.iload_n 1, 1) := by decide +kernel
theorem dX1_allSteps_28 : decode cX1_allSteps 28 = .ok (.ireturn, 1) := by decide +kernel
theorem dX2_init_0 : decode cX2_init 0 = .ok (.aload_n 0, 1) := by decide +kernel
theorem dX2_init_1 : decode cX2_init 1 = .ok (.invokespecial 3, 3) := by decide +kernel
theorem dX2_init_4 : decode cX2_init 4 = .ok (.aload_n 0, 1) := by decide +kernel
theorem dX2_init_5 : decode cX2_init 5 = .ok (.iconst 0, 1) := by decide +kernel
theorem dX2_init_6 : decode cX2_init 6 = .ok (.putfield 9, 3) := by decide +kernel
theorem dX2_init_9 : decode cX2_init 9 = .ok (.aload_n 0, 1) := by decide +kernel
theorem dX2_init_10 : decode cX2_init 10 = .ok (.iconst (-1), 1) := by decide +kernel
theorem dX2_init_11 : decode cX2_init 11 = .ok (.putfield 15, 3) := by decide +kernel
theorem dX2_init_14 : decode cX2_init 14 = .ok (.aload_n 0, 1) := by decide +kernel
theorem dX2_init_15 : decode cX2_init 15 = .ok (.iconst (-1), 1) := by decide +kernel
theorem dX2_init_16 : decode cX2_init 16 = .ok (.putfield 18, 3) := by decide +kernel
theorem dX2_init_19 : decode cX2_init 19 = .ok (.return_, 1) := by decide +kernel
theorem dX2_run_0 : decode cX2_run 0 = .ok (.aload_n 0, 1) := by decide +kernel
theorem dX2_run_1 : decode cX2_run 1 = .ok (.iconst 0, 1) := by decide +kernel
theorem dX2_run_2 : decode cX2_run 2 = .ok (.putfield 9, 3) := by decide +kernel
theorem dX2_run_5 : decode cX2_run 5 = .ok (.aload_n 0, 1) := by decide +kernel
theorem dX2_run_6 : decode cX2_run 6 = .ok (.iconst (-1), 1) := by decide +kernel
theorem dX2_run_7 : decode cX2_run 7 = .ok (.putfield 15, 3) := by decide +kernel
theorem dX2_run_10 : decode cX2_run 10 = .ok (.aload_n 0, 1) := by decide +kernel
theorem dX2_run_11 : decode cX2_run 11 = .ok (.iconst (-1), 1) := by decide +kernel
theorem dX2_run_12 : decode cX2_run 12 = .ok (.putfield 18, 3) := by decide +kernel
theorem dX2_run_15 : decode cX2_run 15 = .ok (.iconst 0, 1) := by decide +kernel
theorem dX2_run_16 : decode cX2_run 16 = .ok (.istore 4, 2) := by decide +kernel
theorem dX2_run_18 : decode cX2_run 18 = .ok (.iload 4, 2) := by decide +kernel
theorem dX2_run_20 : decode cX2_run 20 = .ok (.aload_n 2, 1) := by decide +kernel
theorem dX2_run_21 : decode cX2_run 21 = .ok (.getfield 21, 3) := by decide +kernel
theorem dX2_run_24 : decode cX2_run 24 = .ok (.if_icmp .ge 81, 3) := by decide +kernel
theorem dX2_run_27 : decode cX2_run 27 = .ok (.iconst 0, 1) := by decide +kernel
theorem dX2_run_28 : decode cX2_run 28 = .ok (.istore 5, 2) := by decide +kernel
theorem dX2_run_30 : decode cX2_run 30 = .ok (.iload 5, 2) := by decide +kernel
theorem dX2_run_32 : decode cX2_run 32 = .ok (.iconst 3, 1) := by decide +kernel
theorem dX2_run_33 : decode cX2_run 33 = .ok (.if_icmp .ge 24, 3) := by decide +kernel
theorem dX2_run_36 : decode cX2_run 36 = .ok (.aload_n 1, 1) := by decide +kernel
theorem dX2_run_37 : decode cX2_run 37 = .ok (.getfield 26, 3) := by decide +kernel
theorem dX2_run_40 : decode cX2_run 40 = .ok (.iload 5, 2) := by decide +kernel
theorem dX2_run_42 : decode cX2_run 42 = .ok (.aload_n 2, 1) := by decide +kernel
theorem dX2_run_43 : decode cX2_run 43 = .ok (.iload 4, 2) := by decide +kernel
theorem dX2_run_45 : decode cX2_run 45 = .ok (.iload 5, 2) := by decide +kernel
theorem dX2_run_47 : decode cX2_run 47 = .ok (.invokevirtual 32, 3) := by decide +kernel
theorem dX2_run_50 : decode cX2_run 50 = .ok (.iastore, 1) := by decide +kernel
theorem dX2_run_51 : decode cX2_run 51 = .ok (.iinc 5 1, 3) := by decide +kernel
theorem dX2_run_54 : decode cX2_run 54 = .ok (.goto (-24), 3) := by decide +kernel
theorem dX2_run_57 : decode cX2_run 57 = .ok (.iconst 0, 1) := by decide +kernel
theorem dX2_run_58 : decode cX2_run 58 = .ok (.istore 5, 2) := by decide +kernel
theorem dX2_run_60 : decode cX2_run 60 = .ok (.iload 5, 2) := by decide +kernel
theorem dX2_run_62 : decode cX2_run 62 = .ok (.aload_n 2, 1) := by decide +kernel
theorem dX2_run_63 : decode cX2_run 63 = .ok (.getfield 36, 3) := by decide +kernel
theorem dX2_run_66 : decode cX2_run 66 = .ok (.iload 4, 2) := by decide +kernel
theorem dX2_run_68 : decode cX2_run 68 = .ok (.iaload, 1) := by decide +kernel
theorem dX2_run_69 : decode cX2_run 69 = .ok (.if_icmp .ge 30, 3) := by decide +kernel
theorem dX2_run_72 : decode cX2_run 72 = .ok (.aload_n 0, 1) := by decide +kernel
theorem dX2_run_73 : decode cX2_run 73 = .ok (.aload_n 1, 1) := by decide +kernel
theorem dX2_run_74 : decode cX2_run 74 = .ok (.invokevirtual 39, 3) := by decide +kernel
theorem dX2_run_77 : decode cX2_run 77 = .ok (.invokevirtual 43, 3) := by decide +kernel
theorem dX2_run_80 : decode cX2_run 80 = .ok (.iload_n 3, 1) := by decide +kernel
theorem dX2_run_81 : decode cX2_run 81 = .ok (.ifCond .eq 12, 3) := by decide +kernel
theorem dX2_run_84 : decode cX2_run 84 = .ok (.aload_n 0, 1) := by decide +kernel
theorem dX2_run_85 : decode cX2_run 85 = .ok (.getfield 15, 3) := by decide +kernel
theorem dX2_run_88 : decode cX2_run 88 = .ok (.iconst (-1), 1) := by decide +kernel
theorem dX2_run_89 : decode cX2_run 89 = .ok (.if_icmp .eq 4, 3) := by decide +kernel
theorem dX2_run_92 : decode cX2_run 92 = .ok (.return_, 1) := by decide +kernel
theorem dX2_run_93 : decode cX2_run 93 = .ok (.iinc 5 1, 3) := by decide +kernel
theorem dX2_run_96 : decode cX2_run 96 = .ok (.goto (-36), 3) := by decide +kernel
theorem dX2_run_99 : decode cX2_run 99 = .ok (.iinc 4 1, 3) := by decide +kernel
theorem dX2_run_102 : decode cX2_run 102 = .ok (.goto (-84), 3) := by decide +kernel
theorem dX2_run_105 : decode cX2_run 105 = .ok (.return_, 1) := by decide +kernel
theorem dX2_note_0 : decode cX2_note 0 = .ok (.aload_n 0, 1) := by decide +kernel
theorem dX2_note_1 : decode cX2_note 1 = .ok (.dup, 1) := by decide +kernel
theorem dX2_note_2 : decode cX2_note 2 = .ok (.getfield 9, 3) := by decide +kernel
theorem dX2_note_5 : decode cX2_note 5 = .ok (.iconst 1, 1) := by decide +kernel
theorem dX2_note_6 : decode cX2_note 6 = .ok (.iadd, 1) := by decide +kernel
theorem dX2_note_7 : decode cX2_note 7 = .ok (.putfield 9, 3) := by decide +kernel
theorem dX2_note_10 : decode cX2_note 10 = .ok (.iload_n 1, 1) := by decide +kernel
theorem dX2_note_11 : decode cX2_note 11 = .ok (.ifCond .eq 27, 3) := by decide +kernel
theorem dX2_note_14 : decode cX2_note 14 = .ok (.aload_n 0, 1) := by decide +kernel
theorem dX2_note_15 : decode cX2_note 15 = .ok (.getfield 15, 3) := by decide +kernel
theorem dX2_note_18 : decode cX2_note 18 = .ok (.iconst (-1), 1) := by decide +kernel
theorem dX2_note_19 : decode cX2_note 19 = .ok (.if_icmp .ne 19, 3) := by decide +kernel
theorem dX2_note_22 : decode cX2_note 22 = .ok (.aload_n 0, 1) := by decide +kernel
theorem dX2_note_23 : decode cX2_note 23 = .ok (.aload_n 0, 1) := by decide +kernel
theorem dX2_note_24 : decode cX2_note 24 = .ok (.getfield 9, 3) := by decide +kernel
theorem dX2_note_27 : decode cX2_note 27 = .ok (.putfield 15, 3) := by decide +kernel
theorem dX2_note_30 : decode cX2_note 30 = .ok (.aload_n 0, 1) := by decide +kernel
theorem dX2_note_31 : decode cX2_note 31 = .ok (.iload_n 1, 1) := by decide +kernel
theorem dX2_note_32 : decode cX2_note 32 = .ok (.invokestatic 47, 3) := by decide +kernel
theorem dX2_note_35 : decode cX2_note 35 = .ok (.putfield 18, 3) := by decide +kernel
theorem dX2_note_38 : decode cX2_note 38 = .ok (.return_, 1) := by decide +kernel
theorem dX2_lowestBit_0 : decode cX2_lowestBit 0 = .ok (.iconst 0, 1) := by decide +kernel
theorem dX2_lowestBit_1 : decode cX2_lowestBit 1 = .ok (.istore_n 1, 1) := by decide +kernel
theorem dX2_lowestBit_2 : decode cX2_lowestBit 2 = .ok (.iload_n 1, 1) := by decide +kernel
theorem dX2_lowestBit_3 : decode cX2_lowestBit 3 = .ok (.bipush 8, 2) := by decide +kernel
theorem dX2_lowestBit_5 : decode cX2_lowestBit 5 = .ok (.if_icmp .ge 19, 3) := by decide +kernel
theorem dX2_lowestBit_8 : decode cX2_lowestBit 8 = .ok (.iload_n 0, 1) := by decide +kernel
theorem dX2_lowestBit_9 : decode cX2_lowestBit 9 = .ok (.iload_n 1, 1) := by decide +kernel
theorem dX2_lowestBit_10 : decode cX2_lowestBit 10 = .ok (.ishr, 1) := by decide +kernel
theorem dX2_lowestBit_11 : decode cX2_lowestBit 11 = .ok (.iconst 1, 1) := by decide +kernel
theorem dX2_lowestBit_12 : decode cX2_lowestBit 12 = .ok (.iand, 1) := by decide +kernel
theorem dX2_lowestBit_13 : decode cX2_lowestBit 13 = .ok (.ifCond .eq 5, 3) := by decide +kernel
theorem dX2_lowestBit_16 : decode cX2_lowestBit 16 = .ok (.iload_n 1, 1) := by decide +kernel
theorem dX2_lowestBit_17 : decode cX2_lowestBit 17 = .ok (.ireturn, 1) := by decide +kernel
theorem dX2_lowestBit_18 : decode cX2_lowestBit 18 = .ok (.iinc 1 1, 3) := by decide +kernel
theorem dX2_lowestBit_21 : decode cX2_lowestBit 21 = .ok (.goto (-19), 3) := by decide +kernel
theorem dX2_lowestBit_24 : decode cX2_lowestBit 24 = .ok (.iconst (-1), 1) := by decide +kernel
theorem dX2_lowestBit_25 : decode cX2_lowestBit 25 = .ok (.ireturn, 1) := by decide +kernel
theorem dX3_init_0 : decode cX3_init 0 = .ok (.aload_n 0, 1) := by decide +kernel
theorem dX3_init_1 : decode cX3_init 1 = .ok (.invokespecial 3, 3) := by decide +kernel
theorem dX3_init_4 : decode cX3_init 4 = .ok (.aload_n 0, 1) := by decide +kernel
theorem dX3_init_5 : decode cX3_init 5 = .ok (.iconst 3, 1) := by decide +kernel
theorem dX3_init_6 : decode cX3_init 6 = .ok (.newarray .int, 2) := by decide +kernel
theorem dX3_init_8 : decode cX3_init 8 = .ok (.putfield 9, 3) := by decide +kernel
theorem dX3_init_11 : decode cX3_init 11 = .ok (.aload_n 0, 1) := by decide +kernel
theorem dX3_init_12 : decode cX3_init 12 = .ok (.iconst 3, 1) := by decide +kernel
theorem dX3_init_13 : decode cX3_init 13 = .ok (.newarray .int, 2) := by decide +kernel
theorem dX3_init_15 : decode cX3_init 15 = .ok (.putfield 15, 3) := by decide +kernel
theorem dX3_init_18 : decode cX3_init 18 = .ok (.aload_n 0, 1) := by decide +kernel
theorem dX3_init_19 : decode cX3_init 19 = .ok (.iconst 3, 1) := by decide +kernel
theorem dX3_init_20 : decode cX3_init 20 = .ok (.newarray .int, 2) := by decide +kernel
theorem dX3_init_22 : decode cX3_init 22 = .ok (.putfield 18, 3) := by decide +kernel
theorem dX3_init_25 : decode cX3_init 25 = .ok (.aload_n 0, 1) := by decide +kernel
theorem dX3_init_26 : decode cX3_init 26 = .ok (.bipush 8, 2) := by decide +kernel
theorem dX3_init_28 : decode cX3_init 28 = .ok (.anewarray 21, 3) := by decide +kernel
theorem dX3_init_31 : decode cX3_init 31 = .ok (.putfield 23, 3) := by decide +kernel
theorem dX3_init_34 : decode cX3_init 34 = .ok (.aload_n 0, 1) := by decide +kernel
theorem dX3_init_35 : decode cX3_init 35 = .ok (.iconst 0, 1) := by decide +kernel
theorem dX3_init_36 : decode cX3_init 36 = .ok (.putfield 27, 3) := by decide +kernel
theorem dX3_init_39 : decode cX3_init 39 = .ok (.aload_n 0, 1) := by decide +kernel
theorem dX3_init_40 : decode cX3_init 40 = .ok (.iconst 0, 1) := by decide +kernel
theorem dX3_init_41 : decode cX3_init 41 = .ok (.putfield 31, 3) := by decide +kernel
theorem dX3_init_44 : decode cX3_init 44 = .ok (.aload_n 0, 1) := by decide +kernel
theorem dX3_init_45 : decode cX3_init 45 = .ok (.iconst 0, 1) := by decide +kernel
theorem dX3_init_46 : decode cX3_init 46 = .ok (.putfield 34, 3) := by decide +kernel
theorem dX3_init_49 : decode cX3_init 49 = .ok (.aload_n 0, 1) := by decide +kernel
theorem dX3_init_50 : decode cX3_init 50 = .ok (.iconst 3, 1) := by decide +kernel
theorem dX3_init_51 : decode cX3_init 51 = .ok (.newarray .int, 2) := by decide +kernel
theorem dX3_init_53 : decode cX3_init 53 = .ok (.putfield 37, 3) := by decide +kernel
theorem dX3_init_56 : decode cX3_init 56 = .ok (.iconst 0, 1) := by decide +kernel
theorem dX3_init_57 : decode cX3_init 57 = .ok (.istore_n 1, 1) := by decide +kernel
theorem dX3_init_58 : decode cX3_init 58 = .ok (.iload_n 1, 1) := by decide +kernel
theorem dX3_init_59 : decode cX3_init 59 = .ok (.iconst 3, 1) := by decide +kernel
theorem dX3_init_60 : decode cX3_init 60 = .ok (.if_icmp .ge 17, 3) := by decide +kernel
theorem dX3_init_63 : decode cX3_init 63 = .ok (.aload_n 0, 1) := by decide +kernel
theorem dX3_init_64 : decode cX3_init 64 = .ok (.getfield 9, 3) := by decide +kernel
theorem dX3_init_67 : decode cX3_init 67 = .ok (.iload_n 1, 1) := by decide +kernel
theorem dX3_init_68 : decode cX3_init 68 = .ok (.bipush 20, 2) := by decide +kernel
theorem dX3_init_70 : decode cX3_init 70 = .ok (.iastore, 1) := by decide +kernel
theorem dX3_init_71 : decode cX3_init 71 = .ok (.iinc 1 1, 3) := by decide +kernel
theorem dX3_init_74 : decode cX3_init 74 = .ok (.goto (-16), 3) := by decide +kernel
theorem dX3_init_77 : decode cX3_init 77 = .ok (.iconst 0, 1) := by decide +kernel
theorem dX3_init_78 : decode cX3_init 78 = .ok (.istore_n 1, 1) := by decide +kernel
theorem dX3_init_79 : decode cX3_init 79 = .ok (.iload_n 1, 1) := by decide +kernel
theorem dX3_init_80 : decode cX3_init 80 = .ok (.bipush 8, 2) := by decide +kernel
theorem dX3_init_82 : decode cX3_init 82 = .ok (.if_icmp .ge 22, 3) := by decide +kernel
theorem dX3_init_85 : decode cX3_init 85 = .ok (.aload_n 0, 1) := by decide +kernel
theorem dX3_init_86 : decode cX3_init 86 = .ok (.getfield 23, 3) := by decide +kernel
theorem dX3_init_89 : decode cX3_init 89 = .ok (.iload_n 1, 1) := by decide +kernel
theorem dX3_init_90 : decode cX3_init 90 = .ok (.new 21, 3) := by decide +kernel
theorem dX3_init_93 : decode cX3_init 93 = .ok (.dup, 1) := by decide +kernel
theorem dX3_init_94 : decode cX3_init 94 = .ok (.invokespecial 40, 3) := by decide +kernel
theorem dX3_init_97 : decode cX3_init 97 = .ok (.aastore, 1) := by decide +kernel
theorem dX3_init_98 : decode cX3_init 98 = .ok (.iinc 1 1, 3) := by decide +kernel
theorem dX3_init_101 : decode cX3_init 101 = .ok (.goto (-22), 3) := by decide +kernel
theorem dX3_init_104 : decode cX3_init 104 = .ok (.return_, 1) := by decide +kernel
theorem dX3_become_0 : decode cX3_become 0 = .ok (.iconst 0, 1) := by decide +kernel
theorem dX3_become_1 : decode cX3_become 1 = .ok (.istore_n 2, 1) := by decide +kernel
theorem dX3_become_2 : decode cX3_become 2 = .ok (.iload_n 2, 1) := by decide +kernel
theorem dX3_become_3 : decode cX3_become 3 = .ok (.iconst 3, 1) := by decide +kernel
theorem dX3_become_4 : decode cX3_become 4 = .ok (.if_icmp .ge 45, 3) := by decide +kernel
theorem dX3_become_7 : decode cX3_become 7 = .ok (.aload_n 0, 1) := by decide +kernel
theorem dX3_become_8 : decode cX3_become 8 = .ok (.getfield 9, 3) := by decide +kernel
theorem dX3_become_11 : decode cX3_become 11 = .ok (.iload_n 2, 1) := by decide +kernel
theorem dX3_become_12 : decode cX3_become 12 = .ok (.aload_n 1, 1) := by decide +kernel
theorem dX3_become_13 : decode cX3_become 13 = .ok (.getfield 9, 3) := by decide +kernel
theorem dX3_become_16 : decode cX3_become 16 = .ok (.iload_n 2, 1) := by decide +kernel
theorem dX3_become_17 : decode cX3_become 17 = .ok (.iaload, 1) := by decide +kernel
theorem dX3_become_18 : decode cX3_become 18 = .ok (.iastore, 1) := by decide +kernel
theorem dX3_become_19 : decode cX3_become 19 = .ok (.aload_n 0, 1) := by decide +kernel
theorem dX3_become_20 : decode cX3_become 20 = .ok (.getfield 15, 3) := by decide +kernel
theorem dX3_become_23 : decode cX3_become 23 = .ok (.iload_n 2, 1) := by decide +kernel
theorem dX3_become_24 : decode cX3_become 24 = .ok (.aload_n 1, 1) := by decide +kernel
theorem dX3_become_25 : decode cX3_become 25 = .ok (.getfield 15, 3) := by decide +kernel
theorem dX3_become_28 : decode cX3_become 28 = .ok (.iload_n 2, 1) := by decide +kernel
theorem dX3_become_29 : decode cX3_become 29 = .ok (.iaload, 1) := by decide +kernel
theorem dX3_become_30 : decode cX3_become 30 = .ok (.iastore, 1) := by decide +kernel
theorem dX3_become_31 : decode cX3_become 31 = .ok (.aload_n 0, 1) := by decide +kernel
theorem dX3_become_32 : decode cX3_become 32 = .ok (.getfield 18, 3) := by decide +kernel
theorem dX3_become_35 : decode cX3_become 35 = .ok (.iload_n 2, 1) := by decide +kernel
theorem dX3_become_36 : decode cX3_become 36 = .ok (.aload_n 1, 1) := by decide +kernel
theorem dX3_become_37 : decode cX3_become 37 = .ok (.getfield 18, 3) := by decide +kernel
theorem dX3_become_40 : decode cX3_become 40 = .ok (.iload_n 2, 1) := by decide +kernel
theorem dX3_become_41 : decode cX3_become 41 = .ok (.iaload, 1) := by decide +kernel
theorem dX3_become_42 : decode cX3_become 42 = .ok (.iastore, 1) := by decide +kernel
theorem dX3_become_43 : decode cX3_become 43 = .ok (.iinc 2 1, 3) := by decide +kernel
theorem dX3_become_46 : decode cX3_become 46 = .ok (.goto (-44), 3) := by decide +kernel
theorem dX3_become_49 : decode cX3_become 49 = .ok (.iconst 0, 1) := by decide +kernel
theorem dX3_become_50 : decode cX3_become 50 = .ok (.istore_n 2, 1) := by decide +kernel
theorem dX3_become_51 : decode cX3_become 51 = .ok (.iload_n 2, 1) := by decide +kernel
theorem dX3_become_52 : decode cX3_become 52 = .ok (.aload_n 1, 1) := by decide +kernel
theorem dX3_become_53 : decode cX3_become 53 = .ok (.getfield 27, 3) := by decide +kernel
theorem dX3_become_56 : decode cX3_become 56 = .ok (.if_icmp .ge 24, 3) := by decide +kernel
theorem dX3_become_59 : decode cX3_become 59 = .ok (.aload_n 0, 1) := by decide +kernel
theorem dX3_become_60 : decode cX3_become 60 = .ok (.getfield 23, 3) := by decide +kernel
theorem dX3_become_63 : decode cX3_become 63 = .ok (.iload_n 2, 1) := by decide +kernel
theorem dX3_become_64 : decode cX3_become 64 = .ok (.aaload, 1) := by decide +kernel
theorem dX3_become_65 : decode cX3_become 65 = .ok (.aload_n 1, 1) := by decide +kernel
theorem dX3_become_66 : decode cX3_become 66 = .ok (.getfield 23, 3) := by decide +kernel
theorem dX3_become_69 : decode cX3_become 69 = .ok (.iload_n 2, 1) := by decide +kernel
theorem dX3_become_70 : decode cX3_become 70 = .ok (.aaload, 1) := by decide +kernel
theorem dX3_become_71 : decode cX3_become 71 = .ok (.invokevirtual 41, 3) := by decide +kernel
theorem dX3_become_74 : decode cX3_become 74 = .ok (.iinc 2 1, 3) := by decide +kernel
theorem dX3_become_77 : decode cX3_become 77 = .ok (.goto (-26), 3) := by decide +kernel
theorem dX3_become_80 : decode cX3_become 80 = .ok (.aload_n 0, 1) := by decide +kernel
theorem dX3_become_81 : decode cX3_become 81 = .ok (.aload_n 1, 1) := by decide +kernel
theorem dX3_become_82 : decode cX3_become 82 = .ok (.getfield 27, 3) := by decide +kernel
theorem dX3_become_85 : decode cX3_become 85 = .ok (.putfield 27, 3) := by decide +kernel
theorem dX3_become_88 : decode cX3_become 88 = .ok (.aload_n 0, 1) := by decide +kernel
theorem dX3_become_89 : decode cX3_become 89 = .ok (.aload_n 1, 1) := by decide +kernel
theorem dX3_become_90 : decode cX3_become 90 = .ok (.getfield 31, 3) := by decide +kernel
theorem dX3_become_93 : decode cX3_become 93 = .ok (.putfield 31, 3) := by decide +kernel
theorem dX3_become_96 : decode cX3_become 96 = .ok (.aload_n 0, 1) := by decide +kernel
theorem dX3_become_97 : decode cX3_become 97 = .ok (.aload_n 1, 1) := by decide +kernel
theorem dX3_become_98 : decode cX3_become 98 = .ok (.getfield 34, 3) := by decide +kernel
theorem dX3_become_101 : decode cX3_become 101 = .ok (.putfield 34, 3) := by decide +kernel
theorem dX3_become_104 : decode cX3_become 104 = .ok (.return_, 1) := by decide +kernel
theorem dX3_bring_0 : decode cX3_bring 0 = .ok (.aload_n 0, 1) := by decide +kernel
theorem dX3_bring_1 : decode cX3_bring 1 = .ok (.getfield 27, 3) := by decide +kernel
theorem dX3_bring_4 : decode cX3_bring 4 = .ok (.istore 4, 2) := by decide +kernel
theorem dX3_bring_6 : decode cX3_bring 6 = .ok (.iload 4, 2) := by decide +kernel
theorem dX3_bring_8 : decode cX3_bring 8 = .ok (.bipush 8, 2) := by decide +kernel
theorem dX3_bring_10 : decode cX3_bring 10 = .ok (.if_icmp .lt 6, 3) := by decide +kernel
theorem dX3_bring_13 : decode cX3_bring 13 = .ok (.bipush (-4), 2) := by decide +kernel
theorem dX3_bring_15 : decode cX3_bring 15 = .ok (.ireturn, 1) := by decide +kernel
theorem dX3_bring_16 : decode cX3_bring 16 = .ok (.aload_n 0, 1) := by decide +kernel
theorem dX3_bring_17 : decode cX3_bring 17 = .ok (.getfield 23, 3) := by decide +kernel
theorem dX3_bring_20 : decode cX3_bring 20 = .ok (.iload 4, 2) := by decide +kernel
theorem dX3_bring_22 : decode cX3_bring 22 = .ok (.aaload, 1) := by decide +kernel
theorem dX3_bring_23 : decode cX3_bring 23 = .ok (.iload_n 1, 1) := by decide +kernel
theorem dX3_bring_24 : decode cX3_bring 24 = .ok (.iload_n 2, 1) := by decide +kernel
theorem dX3_bring_25 : decode cX3_bring 25 = .ok (.iload_n 3, 1) := by decide +kernel
theorem dX3_bring_26 : decode cX3_bring 26 = .ok (.invokevirtual 45, 3) := by decide +kernel
theorem dX3_bring_29 : decode cX3_bring 29 = .ok (.aload_n 0, 1) := by decide +kernel
theorem dX3_bring_30 : decode cX3_bring 30 = .ok (.dup, 1) := by decide +kernel
theorem dX3_bring_31 : decode cX3_bring 31 = .ok (.getfield 27, 3) := by decide +kernel
theorem dX3_bring_34 : decode cX3_bring 34 = .ok (.iconst 1, 1) := by decide +kernel
theorem dX3_bring_35 : decode cX3_bring 35 = .ok (.iadd, 1) := by decide +kernel
theorem dX3_bring_36 : decode cX3_bring 36 = .ok (.putfield 27, 3) := by decide +kernel
theorem dX3_bring_39 : decode cX3_bring 39 = .ok (.aload_n 0, 1) := by decide +kernel
theorem dX3_bring_40 : decode cX3_bring 40 = .ok (.invokevirtual 49, 3) := by decide +kernel
theorem dX3_bring_43 : decode cX3_bring 43 = .ok (.iload 4, 2) := by decide +kernel
theorem dX3_bring_45 : decode cX3_bring 45 = .ok (.ireturn, 1) := by decide +kernel
theorem dX3_weigh_0 : decode cX3_weigh 0 = .ok (.iconst 0, 1) := by decide +kernel
theorem dX3_weigh_1 : decode cX3_weigh 1 = .ok (.istore_n 1, 1) := by decide +kernel
theorem dX3_weigh_2 : decode cX3_weigh 2 = .ok (.iload_n 1, 1) := by decide +kernel
theorem dX3_weigh_3 : decode cX3_weigh 3 = .ok (.iconst 3, 1) := by decide +kernel
theorem dX3_weigh_4 : decode cX3_weigh 4 = .ok (.if_icmp .ge 16, 3) := by decide +kernel
theorem dX3_weigh_7 : decode cX3_weigh 7 = .ok (.aload_n 0, 1) := by decide +kernel
theorem dX3_weigh_8 : decode cX3_weigh 8 = .ok (.getfield 18, 3) := by decide +kernel
theorem dX3_weigh_11 : decode cX3_weigh 11 = .ok (.iload_n 1, 1) := by decide +kernel
theorem dX3_weigh_12 : decode cX3_weigh 12 = .ok (.iconst 0, 1) := by decide +kernel
theorem dX3_weigh_13 : decode cX3_weigh 13 = .ok (.iastore, 1) := by decide +kernel
theorem dX3_weigh_14 : decode cX3_weigh 14 = .ok (.iinc 1 1, 3) := by decide +kernel
theorem dX3_weigh_17 : decode cX3_weigh 17 = .ok (.goto (-15), 3) := by decide +kernel
theorem dX3_weigh_20 : decode cX3_weigh 20 = .ok (.iconst 0, 1) := by decide +kernel
theorem dX3_weigh_21 : decode cX3_weigh 21 = .ok (.istore_n 1, 1) := by decide +kernel
theorem dX3_weigh_22 : decode cX3_weigh 22 = .ok (.iload_n 1, 1) := by decide +kernel
theorem dX3_weigh_23 : decode cX3_weigh 23 = .ok (.aload_n 0, 1) := by decide +kernel
theorem dX3_weigh_24 : decode cX3_weigh 24 = .ok (.getfield 27, 3) := by decide +kernel
theorem dX3_weigh_27 : decode cX3_weigh 27 = .ok (.if_icmp .ge 35, 3) := by decide +kernel
theorem dX3_weigh_30 : decode cX3_weigh 30 = .ok (.aload_n 0, 1) := by decide +kernel
theorem dX3_weigh_31 : decode cX3_weigh 31 = .ok (.getfield 18, 3) := by decide +kernel
theorem dX3_weigh_34 : decode cX3_weigh 34 = .ok (.aload_n 0, 1) := by decide +kernel
theorem dX3_weigh_35 : decode cX3_weigh 35 = .ok (.getfield 23, 3) := by decide +kernel
theorem dX3_weigh_38 : decode cX3_weigh 38 = .ok (.iload_n 1, 1) := by decide +kernel
theorem dX3_weigh_39 : decode cX3_weigh 39 = .ok (.aaload, 1) := by decide +kernel
theorem dX3_weigh_40 : decode cX3_weigh 40 = .ok (.getfield 52, 3) := by decide +kernel
theorem dX3_weigh_43 : decode cX3_weigh 43 = .ok (.dup2, 1) := by decide +kernel
theorem dX3_weigh_44 : decode cX3_weigh 44 = .ok (.iaload, 1) := by decide +kernel
theorem dX3_weigh_45 : decode cX3_weigh 45 = .ok (.aload_n 0, 1) := by decide +kernel
theorem dX3_weigh_46 : decode cX3_weigh 46 = .ok (.getfield 23, 3) := by decide +kernel
theorem dX3_weigh_49 : decode cX3_weigh 49 = .ok (.iload_n 1, 1) := by decide +kernel
theorem dX3_weigh_50 : decode cX3_weigh 50 = .ok (.aaload, 1) := by decide +kernel
theorem dX3_weigh_51 : decode cX3_weigh 51 = .ok (.getfield 55, 3) := by decide +kernel
theorem dX3_weigh_54 : decode cX3_weigh 54 = .ok (.iadd, 1) := by decide +kernel
theorem dX3_weigh_55 : decode cX3_weigh 55 = .ok (.iastore, 1) := by decide +kernel
theorem dX3_weigh_56 : decode cX3_weigh 56 = .ok (.iinc 1 1, 3) := by decide +kernel
theorem dX3_weigh_59 : decode cX3_weigh 59 = .ok (.goto (-37), 3) := by decide +kernel
theorem dX3_weigh_62 : decode cX3_weigh 62 = .ok (.return_, 1) := by decide +kernel
theorem dX3_heatBehind_0 : decode cX3_heatBehind 0 = .ok (.aload_n 0, 1) := by decide +kernel
theorem dX3_heatBehind_1 : decode cX3_heatBehind 1 = .ok (.getfield 9, 3) := by decide +kernel
theorem dX3_heatBehind_4 : decode cX3_heatBehind 4 = .ok (.iload_n 1, 1) := by decide +kernel
theorem dX3_heatBehind_5 : decode cX3_heatBehind 5 = .ok (.iaload, 1) := by decide +kernel
theorem dX3_heatBehind_6 : decode cX3_heatBehind 6 = .ok (.istore_n 3, 1) := by decide +kernel
theorem dX3_heatBehind_7 : decode cX3_heatBehind 7 = .ok (.bipush 10, 2) := by decide +kernel
theorem dX3_heatBehind_9 : decode cX3_heatBehind 9 = .ok (.aload_n 0, 1) := by decide +kernel
theorem dX3_heatBehind_10 : decode cX3_heatBehind 10 = .ok (.getfield 18, 3) := by decide +kernel
theorem dX3_heatBehind_13 : decode cX3_heatBehind 13 = .ok (.iload_n 1, 1) := by decide +kernel
theorem dX3_heatBehind_14 : decode cX3_heatBehind 14 = .ok (.iaload, 1) := by decide +kernel
theorem dX3_heatBehind_15 : decode cX3_heatBehind 15 = .ok (.iadd, 1) := by decide +kernel
theorem dX3_heatBehind_16 : decode cX3_heatBehind 16 = .ok (.istore 4, 2) := by decide +kernel
theorem dX3_heatBehind_18 : decode cX3_heatBehind 18 = .ok (.iload_n 3, 1) := by decide +kernel
theorem dX3_heatBehind_19 : decode cX3_heatBehind 19 = .ok (.iload_n 3, 1) := by decide +kernel
theorem dX3_heatBehind_20 : decode cX3_heatBehind 20 = .ok (.bipush 20, 2) := by decide +kernel
theorem dX3_heatBehind_22 : decode cX3_heatBehind 22 = .ok (.isub, 1) := by decide +kernel
theorem dX3_heatBehind_23 : decode cX3_heatBehind 23 = .ok (.bipush 40, 2) := by decide +kernel
theorem dX3_heatBehind_25 : decode cX3_heatBehind 25 = .ok (.idiv, 1) := by decide +kernel
theorem dX3_heatBehind_26 : decode cX3_heatBehind 26 = .ok (.isub, 1) := by decide +kernel
theorem dX3_heatBehind_27 : decode cX3_heatBehind 27 = .ok (.istore 5, 2) := by decide +kernel
theorem dX3_heatBehind_29 : decode cX3_heatBehind 29 = .ok (.iload 4, 2) := by decide +kernel
theorem dX3_heatBehind_31 : decode cX3_heatBehind 31 = .ok (.ifCond .le 19, 3) := by decide +kernel
theorem dX3_heatBehind_34 : decode cX3_heatBehind 34 = .ok (.iload 5, 2) := by decide +kernel
theorem dX3_heatBehind_36 : decode cX3_heatBehind 36 = .ok (.iload_n 2, 1) := by decide +kernel
theorem dX3_heatBehind_37 : decode cX3_heatBehind 37 = .ok (.iload_n 3, 1) := by decide +kernel
theorem dX3_heatBehind_38 : decode cX3_heatBehind 38 = .ok (.invokestatic 57, 3) := by decide +kernel
theorem dX3_heatBehind_41 : decode cX3_heatBehind 41 = .ok (.bipush 10, 2) := by decide +kernel
theorem dX3_heatBehind_43 : decode cX3_heatBehind 43 = .ok (.imul, 1) := by decide +kernel
theorem dX3_heatBehind_44 : decode cX3_heatBehind 44 = .ok (.iload 4, 2) := by decide +kernel
theorem dX3_heatBehind_46 : decode cX3_heatBehind 46 = .ok (.idiv, 1) := by decide +kernel
theorem dX3_heatBehind_47 : decode cX3_heatBehind 47 = .ok (.iadd, 1) := by decide +kernel
theorem dX3_heatBehind_48 : decode cX3_heatBehind 48 = .ok (.istore 5, 2) := by decide +kernel
theorem dX3_heatBehind_50 : decode cX3_heatBehind 50 = .ok (.iload_n 1, 1) := by decide +kernel
theorem dX3_heatBehind_51 : decode cX3_heatBehind 51 = .ok (.ifCond .le 21, 3) := by decide +kernel
theorem dX3_heatBehind_54 : decode cX3_heatBehind 54 = .ok (.iload 5, 2) := by decide +kernel
theorem dX3_heatBehind_56 : decode cX3_heatBehind 56 = .ok (.aload_n 0, 1) := by decide +kernel
theorem dX3_heatBehind_57 : decode cX3_heatBehind 57 = .ok (.getfield 9, 3) := by decide +kernel
theorem dX3_heatBehind_60 : decode cX3_heatBehind 60 = .ok (.iload_n 1, 1) := by decide +kernel
theorem dX3_heatBehind_61 : decode cX3_heatBehind 61 = .ok (.iconst 1, 1) := by decide +kernel
theorem dX3_heatBehind_62 : decode cX3_heatBehind 62 = .ok (.isub, 1) := by decide +kernel
theorem dX3_heatBehind_63 : decode cX3_heatBehind 63 = .ok (.iaload, 1) := by decide +kernel
theorem dX3_heatBehind_64 : decode cX3_heatBehind 64 = .ok (.iload_n 3, 1) := by decide +kernel
theorem dX3_heatBehind_65 : decode cX3_heatBehind 65 = .ok (.isub, 1) := by decide +kernel
theorem dX3_heatBehind_66 : decode cX3_heatBehind 66 = .ok (.bipush 8, 2) := by decide +kernel
theorem dX3_heatBehind_68 : decode cX3_heatBehind 68 = .ok (.idiv, 1) := by decide +kernel
theorem dX3_heatBehind_69 : decode cX3_heatBehind 69 = .ok (.iadd, 1) := by decide +kernel
theorem dX3_heatBehind_70 : decode cX3_heatBehind 70 = .ok (.istore 5, 2) := by decide +kernel
theorem dX3_heatBehind_72 : decode cX3_heatBehind 72 = .ok (.iload_n 1, 1) := by decide +kernel
theorem dX3_heatBehind_73 : decode cX3_heatBehind 73 = .ok (.iconst 2, 1) := by decide +kernel
theorem dX3_heatBehind_74 : decode cX3_heatBehind 74 = .ok (.if_icmp .ge 21, 3) := by decide +kernel
theorem dX3_heatBehind_77 : decode cX3_heatBehind 77 = .ok (.iload 5, 2) := by decide +kernel
theorem dX3_heatBehind_79 : decode cX3_heatBehind 79 = .ok (.aload_n 0, 1) := by decide +kernel
theorem dX3_heatBehind_80 : decode cX3_heatBehind 80 = .ok (.getfield 9, 3) := by decide +kernel
theorem dX3_heatBehind_83 : decode cX3_heatBehind 83 = .ok (.iload_n 1, 1) := by decide +kernel
theorem dX3_heatBehind_84 : decode cX3_heatBehind 84 = .ok (.iconst 1, 1) := by decide +kernel
theorem dX3_heatBehind_85 : decode cX3_heatBehind 85 = .ok (.iadd, 1) := by decide +kernel
theorem dX3_heatBehind_86 : decode cX3_heatBehind 86 = .ok (.iaload, 1) := by decide +kernel
theorem dX3_heatBehind_87 : decode cX3_heatBehind 87 = .ok (.iload_n 3, 1) := by decide +kernel
theorem dX3_heatBehind_88 : decode cX3_heatBehind 88 = .ok (.isub, 1) := by decide +kernel
theorem dX3_heatBehind_89 : decode cX3_heatBehind 89 = .ok (.bipush 8, 2) := by decide +kernel
theorem dX3_heatBehind_91 : decode cX3_heatBehind 91 = .ok (.idiv, 1) := by decide +kernel
theorem dX3_heatBehind_92 : decode cX3_heatBehind 92 = .ok (.iadd, 1) := by decide +kernel
theorem dX3_heatBehind_93 : decode cX3_heatBehind 93 = .ok (.istore 5, 2) := by decide +kernel
theorem dX3_heatBehind_95 : decode cX3_heatBehind 95 = .ok (.iconst 0, 1) := by decide +kernel
theorem dX3_heatBehind_96 : decode cX3_heatBehind 96 = .ok (.sipush 1300, 3) := by decide +kernel
theorem dX3_heatBehind_99 : decode cX3_heatBehind 99 = .ok (.iload 5, 2) := by decide +kernel
theorem dX3_heatBehind_101 : decode cX3_heatBehind 101 = .ok (.invokestatic 63, 3) := by decide +kernel
theorem dX3_heatBehind_104 : decode cX3_heatBehind 104 = .ok (.invokestatic 68, 3) := by decide +kernel
theorem dX3_heatBehind_107 : decode cX3_heatBehind 107 = .ok (.ireturn, 1) := by decide +kernel
theorem dX3_warm_0 : decode cX3_warm 0 = .ok (.iconst 0, 1) := by decide +kernel
theorem dX3_warm_1 : decode cX3_warm 1 = .ok (.istore_n 1, 1) := by decide +kernel
theorem dX3_warm_2 : decode cX3_warm 2 = .ok (.iload_n 1, 1) := by decide +kernel
theorem dX3_warm_3 : decode cX3_warm 3 = .ok (.iconst 3, 1) := by decide +kernel
theorem dX3_warm_4 : decode cX3_warm 4 = .ok (.if_icmp .ge 26, 3) := by decide +kernel
theorem dX3_warm_7 : decode cX3_warm 7 = .ok (.aload_n 0, 1) := by decide +kernel
theorem dX3_warm_8 : decode cX3_warm 8 = .ok (.getfield 37, 3) := by decide +kernel
theorem dX3_warm_11 : decode cX3_warm 11 = .ok (.iload_n 1, 1) := by decide +kernel
theorem dX3_warm_12 : decode cX3_warm 12 = .ok (.aload_n 0, 1) := by decide +kernel
theorem dX3_warm_13 : decode cX3_warm 13 = .ok (.iload_n 1, 1) := by decide +kernel
theorem dX3_warm_14 : decode cX3_warm 14 = .ok (.aload_n 0, 1) := by decide +kernel
theorem dX3_warm_15 : decode cX3_warm 15 = .ok (.getfield 15, 3) := by decide +kernel
theorem dX3_warm_18 : decode cX3_warm 18 = .ok (.iload_n 1, 1) := by decide +kernel
theorem dX3_warm_19 : decode cX3_warm 19 = .ok (.iaload, 1) := by decide +kernel
theorem dX3_warm_20 : decode cX3_warm 20 = .ok (.invokevirtual 71, 3) := by decide +kernel
theorem dX3_warm_23 : decode cX3_warm 23 = .ok (.iastore, 1) := by decide +kernel
theorem dX3_warm_24 : decode cX3_warm 24 = .ok (.iinc 1 1, 3) := by decide +kernel
theorem dX3_warm_27 : decode cX3_warm 27 = .ok (.goto (-25), 3) := by decide +kernel
theorem dX3_warm_30 : decode cX3_warm 30 = .ok (.aload_n 0, 1) := by decide +kernel
theorem dX3_warm_31 : decode cX3_warm 31 = .ok (.invokevirtual 74, 3) := by decide +kernel
theorem dX3_warm_34 : decode cX3_warm 34 = .ok (.return_, 1) := by decide +kernel
theorem dX3_goStep_0 : decode cX3_goStep 0 = .ok (.iconst 0, 1) := by decide +kernel
theorem dX3_goStep_1 : decode cX3_goStep 1 = .ok (.istore_n 1, 1) := by decide +kernel
theorem dX3_goStep_2 : decode cX3_goStep 2 = .ok (.iload_n 1, 1) := by decide +kernel
theorem dX3_goStep_3 : decode cX3_goStep 3 = .ok (.iconst 3, 1) := by decide +kernel
theorem dX3_goStep_4 : decode cX3_goStep 4 = .ok (.if_icmp .ge 44, 3) := by decide +kernel
theorem dX3_goStep_7 : decode cX3_goStep 7 = .ok (.aload_n 0, 1) := by decide +kernel
theorem dX3_goStep_8 : decode cX3_goStep 8 = .ok (.getfield 37, 3) := by decide +kernel
theorem dX3_goStep_11 : decode cX3_goStep 11 = .ok (.iload_n 1, 1) := by decide +kernel
theorem dX3_goStep_12 : decode cX3_goStep 12 = .ok (.aload_n 0, 1) := by decide +kernel
theorem dX3_goStep_13 : decode cX3_goStep 13 = .ok (.iload_n 1, 1) := by decide +kernel
theorem dX3_goStep_14 : decode cX3_goStep 14 = .ok (.aload_n 0, 1) := by decide +kernel
theorem dX3_goStep_15 : decode cX3_goStep 15 = .ok (.getfield 15, 3) := by decide +kernel
theorem dX3_goStep_18 : decode cX3_goStep 18 = .ok (.iload_n 1, 1) := by decide +kernel
theorem dX3_goStep_19 : decode cX3_goStep 19 = .ok (.iaload, 1) := by decide +kernel
theorem dX3_goStep_20 : decode cX3_goStep 20 = .ok (.invokevirtual 71, 3) := by decide +kernel
theorem dX3_goStep_23 : decode cX3_goStep 23 = .ok (.iastore, 1) := by decide +kernel
theorem dX3_goStep_24 : decode cX3_goStep 24 = .ok (.aload_n 0, 1) := by decide +kernel
theorem dX3_goStep_25 : decode cX3_goStep 25 = .ok (.dup, 1) := by decide +kernel
theorem dX3_goStep_26 : decode cX3_goStep 26 = .ok (.getfield 31, 3) := by decide +kernel
theorem dX3_goStep_29 : decode cX3_goStep 29 = .ok (.aload_n 0, 1) := by decide +kernel
theorem dX3_goStep_30 : decode cX3_goStep 30 = .ok (.getfield 15, 3) := by decide +kernel
theorem dX3_goStep_33 : decode cX3_goStep 33 = .ok (.iload_n 1, 1) := by decide +kernel
theorem dX3_goStep_34 : decode cX3_goStep 34 = .ok (.iaload, 1) := by decide +kernel
theorem dX3_goStep_35 : decode cX3_goStep 35 = .ok (.invokestatic 77, 3) := by decide +kernel
theorem dX3_goStep_38 : decode cX3_goStep 38 = .ok (.iadd, 1) := by decide +kernel
theorem dX3_goStep_39 : decode cX3_goStep 39 = .ok (.putfield 31, 3) := by decide +kernel
theorem dX3_goStep_42 : decode cX3_goStep 42 = .ok (.iinc 1 1, 3) := by decide +kernel
theorem dX3_goStep_45 : decode cX3_goStep 45 = .ok (.goto (-43), 3) := by decide +kernel
theorem dX3_goStep_48 : decode cX3_goStep 48 = .ok (.iconst 0, 1) := by decide +kernel
theorem dX3_goStep_49 : decode cX3_goStep 49 = .ok (.istore_n 1, 1) := by decide +kernel
theorem dX3_goStep_50 : decode cX3_goStep 50 = .ok (.iconst 0, 1) := by decide +kernel
theorem dX3_goStep_51 : decode cX3_goStep 51 = .ok (.istore_n 2, 1) := by decide +kernel
theorem dX3_goStep_52 : decode cX3_goStep 52 = .ok (.iload_n 2, 1) := by decide +kernel
theorem dX3_goStep_53 : decode cX3_goStep 53 = .ok (.aload_n 0, 1) := by decide +kernel
theorem dX3_goStep_54 : decode cX3_goStep 54 = .ok (.getfield 27, 3) := by decide +kernel
theorem dX3_goStep_57 : decode cX3_goStep 57 = .ok (.if_icmp .ge 49, 3) := by decide +kernel
theorem dX3_goStep_60 : decode cX3_goStep 60 = .ok (.aload_n 0, 1) := by decide +kernel
theorem dX3_goStep_61 : decode cX3_goStep 61 = .ok (.getfield 23, 3) := by decide +kernel
theorem dX3_goStep_64 : decode cX3_goStep 64 = .ok (.iload_n 2, 1) := by decide +kernel
theorem dX3_goStep_65 : decode cX3_goStep 65 = .ok (.aaload, 1) := by decide +kernel
theorem dX3_goStep_66 : decode cX3_goStep 66 = .ok (.getfield 52, 3) := by decide +kernel
theorem dX3_goStep_69 : decode cX3_goStep 69 = .ok (.istore_n 3, 1) := by decide +kernel
theorem dX3_goStep_70 : decode cX3_goStep 70 = .ok (.aload_n 0, 1) := by decide +kernel
theorem dX3_goStep_71 : decode cX3_goStep 71 = .ok (.getfield 23, 3) := by decide +kernel
theorem dX3_goStep_74 : decode cX3_goStep 74 = .ok (.iload_n 2, 1) := by decide +kernel
theorem dX3_goStep_75 : decode cX3_goStep 75 = .ok (.aaload, 1) := by decide +kernel
theorem dX3_goStep_76 : decode cX3_goStep 76 = .ok (.aload_n 0, 1) := by decide +kernel
theorem dX3_goStep_77 : decode cX3_goStep 77 = .ok (.getfield 9, 3) := by decide +kernel
theorem dX3_goStep_80 : decode cX3_goStep 80 = .ok (.iload_n 3, 1) := by decide +kernel
theorem dX3_goStep_81 : decode cX3_goStep 81 = .ok (.iaload, 1) := by decide +kernel
theorem dX3_goStep_82 : decode cX3_goStep 82 = .ok (.aload_n 0, 1) := by decide +kernel
theorem dX3_goStep_83 : decode cX3_goStep 83 = .ok (.getfield 37, 3) := by decide +kernel
theorem dX3_goStep_86 : decode cX3_goStep 86 = .ok (.iload_n 3, 1) := by decide +kernel
theorem dX3_goStep_87 : decode cX3_goStep 87 = .ok (.iaload, 1) := by decide +kernel
theorem dX3_goStep_88 : decode cX3_goStep 88 = .ok (.invokevirtual 81, 3) := by decide +kernel
theorem dX3_goStep_91 : decode cX3_goStep 91 = .ok (.ifCond .eq 9, 3) := by decide +kernel
theorem dX3_goStep_94 : decode cX3_goStep 94 = .ok (.iload_n 1, 1) := by decide +kernel
theorem dX3_goStep_95 : decode cX3_goStep 95 = .ok (.iconst 1, 1) := by decide +kernel
theorem dX3_goStep_96 : decode cX3_goStep 96 = .ok (.iload_n 2, 1) := by decide +kernel
theorem dX3_goStep_97 : decode cX3_goStep 97 = .ok (.ishl, 1) := by decide +kernel
theorem dX3_goStep_98 : decode cX3_goStep 98 = .ok (.ior, 1) := by decide +kernel
theorem dX3_goStep_99 : decode cX3_goStep 99 = .ok (.istore_n 1, 1) := by decide +kernel
theorem dX3_goStep_100 : decode cX3_goStep 100 = .ok (.iinc 2 1, 3) := by decide +kernel
theorem dX3_goStep_103 : decode cX3_goStep 103 = .ok (.goto (-51), 3) := by decide +kernel
theorem dX3_goStep_106 : decode cX3_goStep 106 = .ok (.aload_n 0, 1) := by decide +kernel
theorem dX3_goStep_107 : decode cX3_goStep 107 = .ok (.invokevirtual 74, 3) := by decide +kernel
theorem dX3_goStep_110 : decode cX3_goStep 110 = .ok (.aload_n 0, 1) := by decide +kernel
theorem dX3_goStep_111 : decode cX3_goStep 111 = .ok (.dup, 1) := by decide +kernel
theorem dX3_goStep_112 : decode cX3_goStep 112 = .ok (.getfield 34, 3) := by decide +kernel
theorem dX3_goStep_115 : decode cX3_goStep 115 = .ok (.iconst 1, 1) := by decide +kernel
theorem dX3_goStep_116 : decode cX3_goStep 116 = .ok (.iadd, 1) := by decide +kernel
theorem dX3_goStep_117 : decode cX3_goStep 117 = .ok (.putfield 34, 3) := by decide +kernel
theorem dX3_goStep_120 : decode cX3_goStep 120 = .ok (.iload_n 1, 1) := by decide +kernel
theorem dX3_goStep_121 : decode cX3_goStep 121 = .ok (.ireturn, 1) := by decide +kernel
theorem dX3_takeHeats_0 : decode cX3_takeHeats 0 = .ok (.iconst 0, 1) := by decide +kernel
theorem dX3_takeHeats_1 : decode cX3_takeHeats 1 = .ok (.istore_n 1, 1) := by decide +kernel
theorem dX3_takeHeats_2 : decode cX3_takeHeats 2 = .ok (.iload_n 1, 1) := by decide +kernel
theorem dX3_takeHeats_3 : decode cX3_takeHeats 3 = .ok (.iconst 3, 1) := by decide +kernel
theorem dX3_takeHeats_4 : decode cX3_takeHeats 4 = .ok (.if_icmp .ge 21, 3) := by decide +kernel
theorem dX3_takeHeats_7 : decode cX3_takeHeats 7 = .ok (.aload_n 0, 1) := by decide +kernel
theorem dX3_takeHeats_8 : decode cX3_takeHeats 8 = .ok (.getfield 9, 3) := by decide +kernel
theorem dX3_takeHeats_11 : decode cX3_takeHeats 11 = .ok (.iload_n 1, 1) := by decide +kernel
theorem dX3_takeHeats_12 : decode cX3_takeHeats 12 = .ok (.aload_n 0, 1) := by decide +kernel
theorem dX3_takeHeats_13 : decode cX3_takeHeats 13 = .ok (.getfield 37, 3) := by decide +kernel
theorem dX3_takeHeats_16 : decode cX3_takeHeats 16 = .ok (.iload_n 1, 1) := by decide +kernel
theorem dX3_takeHeats_17 : decode cX3_takeHeats 17 = .ok (.iaload, 1) := by decide +kernel
theorem dX3_takeHeats_18 : decode cX3_takeHeats 18 = .ok (.iastore, 1) := by decide +kernel
theorem dX3_takeHeats_19 : decode cX3_takeHeats 19 = .ok (.iinc 1 1, 3) := by decide +kernel
theorem dX3_takeHeats_22 : decode cX3_takeHeats 22 = .ok (.goto (-20), 3) := by decide +kernel
theorem dX3_takeHeats_25 : decode cX3_takeHeats 25 = .ok (.return_, 1) := by decide +kernel
theorem dX3_goCarefulStep_0 : decode cX3_goCarefulStep 0 = .ok (.aload_n 0, 1) := by decide +kernel
theorem dX3_goCarefulStep_1 : decode cX3_goCarefulStep 1 = .ok (.iconst 0, 1) := by decide +kernel
theorem dX3_goCarefulStep_2 : decode cX3_goCarefulStep 2 = .ok (.aload_n 0, 1) := by decide +kernel
theorem dX3_goCarefulStep_3 : decode cX3_goCarefulStep 3 = .ok (.invokevirtual 85, 3) := by decide +kernel
theorem dX3_goCarefulStep_6 : decode cX3_goCarefulStep 6 = .ok (.invokestatic 68, 3) := by decide +kernel
theorem dX3_goCarefulStep_9 : decode cX3_goCarefulStep 9 = .ok (.invokevirtual 89, 3) := by decide +kernel
theorem dX3_goCarefulStep_12 : decode cX3_goCarefulStep 12 = .ok (.aload_n 0, 1) := by decide +kernel
theorem dX3_goCarefulStep_13 : decode cX3_goCarefulStep 13 = .ok (.invokevirtual 93, 3) := by decide +kernel
theorem dX3_goCarefulStep_16 : decode cX3_goCarefulStep 16 = .ok (.pop, 1) := by decide +kernel
theorem dX3_goCarefulStep_17 : decode cX3_goCarefulStep 17 = .ok (.return_, 1) := by decide +kernel
theorem dX3_carefulCode_0 : decode cX3_carefulCode 0 = .ok (.iconst 0, 1) := by decide +kernel
theorem dX3_carefulCode_1 : decode cX3_carefulCode 1 = .ok (.istore_n 1, 1) := by decide +kernel
theorem dX3_carefulCode_2 : decode cX3_carefulCode 2 = .ok (.iconst 0, 1) := by decide +kernel
theorem dX3_carefulCode_3 : decode cX3_carefulCode 3 = .ok (.istore_n 2, 1) := by decide +kernel
theorem dX3_carefulCode_4 : decode cX3_carefulCode 4 = .ok (.iload_n 2, 1) := by decide +kernel
theorem dX3_carefulCode_5 : decode cX3_carefulCode 5 = .ok (.iconst 3, 1) := by decide +kernel
theorem dX3_carefulCode_6 : decode cX3_carefulCode 6 = .ok (.if_icmp .ge 28, 3) := by decide +kernel
theorem dX3_carefulCode_9 : decode cX3_carefulCode 9 = .ok (.aload_n 0, 1) := by decide +kernel
theorem dX3_carefulCode_10 : decode cX3_carefulCode 10 = .ok (.iload_n 2, 1) := by decide +kernel
theorem dX3_carefulCode_11 : decode cX3_carefulCode 11 = .ok (.invokevirtual 96, 3) := by decide +kernel
theorem dX3_carefulCode_14 : decode cX3_carefulCode 14 = .ok (.istore_n 3, 1) := by decide +kernel
theorem dX3_carefulCode_15 : decode cX3_carefulCode 15 = .ok (.iload_n 3, 1) := by decide +kernel
theorem dX3_carefulCode_16 : decode cX3_carefulCode 16 = .ok (.iconst (-1), 1) := by decide +kernel
theorem dX3_carefulCode_17 : decode cX3_carefulCode 17 = .ok (.if_icmp .ne 5, 3) := by decide +kernel
theorem dX3_carefulCode_20 : decode cX3_carefulCode 20 = .ok (.iconst (-1), 1) := by decide +kernel
theorem dX3_carefulCode_21 : decode cX3_carefulCode 21 = .ok (.ireturn, 1) := by decide +kernel
theorem dX3_carefulCode_22 : decode cX3_carefulCode 22 = .ok (.iload_n 1, 1) := by decide +kernel
theorem dX3_carefulCode_23 : decode cX3_carefulCode 23 = .ok (.iconst 4, 1) := by decide +kernel
theorem dX3_carefulCode_24 : decode cX3_carefulCode 24 = .ok (.imul, 1) := by decide +kernel
theorem dX3_carefulCode_25 : decode cX3_carefulCode 25 = .ok (.iload_n 3, 1) := by decide +kernel
theorem dX3_carefulCode_26 : decode cX3_carefulCode 26 = .ok (.iadd, 1) := by decide +kernel
theorem dX3_carefulCode_27 : decode cX3_carefulCode 27 = .ok (.istore_n 1, 1) := by decide +kernel
theorem dX3_carefulCode_28 : decode cX3_carefulCode 28 = .ok (.iinc 2 1, 3) := by decide +kernel
theorem dX3_carefulCode_31 : decode cX3_carefulCode 31 = .ok (.goto (-27), 3) := by decide +kernel
theorem dX3_carefulCode_34 : decode cX3_carefulCode 34 = .ok (.iload_n 1, 1) := by decide +kernel
theorem dX3_carefulCode_35 : decode cX3_carefulCode 35 = .ok (.ireturn, 1) := by decide +kernel
theorem dX3_carefulSetting_0 : decode cX3_carefulSetting 0 = .ok (.iconst (-1), 1) := by decide +kernel
theorem dX3_carefulSetting_1 : decode cX3_carefulSetting 1 = .ok (.istore_n 2, 1) := by decide +kernel
theorem dX3_carefulSetting_2 : decode cX3_carefulSetting 2 = .ok (.iconst (-1), 1) := by decide +kernel
theorem dX3_carefulSetting_3 : decode cX3_carefulSetting 3 = .ok (.istore_n 3, 1) := by decide +kernel
theorem dX3_carefulSetting_4 : decode cX3_carefulSetting 4 = .ok (.iconst 0, 1) := by decide +kernel
theorem dX3_carefulSetting_5 : decode cX3_carefulSetting 5 = .ok (.istore 4, 2) := by decide +kernel
theorem dX3_carefulSetting_7 : decode cX3_carefulSetting 7 = .ok (.iload 4, 2) := by decide +kernel
theorem dX3_carefulSetting_9 : decode cX3_carefulSetting 9 = .ok (.iconst 4, 1) := by decide +kernel
theorem dX3_carefulSetting_10 : decode cX3_carefulSetting 10 = .ok (.if_icmp .ge 40, 3) := by decide +kernel
theorem dX3_carefulSetting_13 : decode cX3_carefulSetting 13 = .ok (.aload_n 0, 1) := by decide +kernel
theorem dX3_carefulSetting_14 : decode cX3_carefulSetting 14 = .ok (.iload_n 1, 1) := by decide +kernel
theorem dX3_carefulSetting_15 : decode cX3_carefulSetting 15 = .ok (.iload 4, 2) := by decide +kernel
theorem dX3_carefulSetting_17 : decode cX3_carefulSetting 17 = .ok (.invokevirtual 71, 3) := by decide +kernel
theorem dX3_carefulSetting_20 : decode cX3_carefulSetting 20 = .ok (.istore 5, 2) := by decide +kernel
theorem dX3_carefulSetting_22 : decode cX3_carefulSetting 22 = .ok (.iload 5, 2) := by decide +kernel
theorem dX3_carefulSetting_24 : decode cX3_carefulSetting 24 = .ok (.iload_n 3, 1) := by decide +kernel
theorem dX3_carefulSetting_25 : decode cX3_carefulSetting 25 = .ok (.if_icmp .le 19, 3) := by decide +kernel
theorem dX3_carefulSetting_28 : decode cX3_carefulSetting 28 = .ok (.aload_n 0, 1) := by decide +kernel
theorem dX3_carefulSetting_29 : decode cX3_carefulSetting 29 = .ok (.iload_n 1, 1) := by decide +kernel
theorem dX3_carefulSetting_30 : decode cX3_carefulSetting 30 = .ok (.iload 5, 2) := by decide +kernel
theorem dX3_carefulSetting_32 : decode cX3_carefulSetting 32 = .ok (.invokevirtual 99, 3) := by decide +kernel
theorem dX3_carefulSetting_35 : decode cX3_carefulSetting 35 = .ok (.ifCond .eq 9, 3) := by decide +kernel
theorem dX3_carefulSetting_38 : decode cX3_carefulSetting 38 = .ok (.iload 4, 2) := by decide +kernel
theorem dX3_carefulSetting_40 : decode cX3_carefulSetting 40 = .ok (.istore_n 2, 1) := by decide +kernel
theorem dX3_carefulSetting_41 : decode cX3_carefulSetting 41 = .ok (.iload 5, 2) := by decide +kernel
theorem dX3_carefulSetting_43 : decode cX3_carefulSetting 43 = .ok (.istore_n 3, 1) := by decide +kernel
theorem dX3_carefulSetting_44 : decode cX3_carefulSetting 44 = .ok (.iinc 4 1, 3) := by decide +kernel
theorem dX3_carefulSetting_47 : decode cX3_carefulSetting 47 = .ok (.goto (-40), 3) := by decide +kernel
theorem dX3_carefulSetting_50 : decode cX3_carefulSetting 50 = .ok (.iload_n 2, 1) := by decide +kernel
theorem dX3_carefulSetting_51 : decode cX3_carefulSetting 51 = .ok (.ireturn, 1) := by decide +kernel
theorem dX3_allBear_0 : decode cX3_allBear 0 = .ok (.iconst 0, 1) := by decide +kernel
theorem dX3_allBear_1 : decode cX3_allBear 1 = .ok (.istore_n 3, 1) := by decide +kernel
theorem dX3_allBear_2 : decode cX3_allBear 2 = .ok (.iload_n 3, 1) := by decide +kernel
theorem dX3_allBear_3 : decode cX3_allBear 3 = .ok (.aload_n 0, 1) := by decide +kernel
theorem dX3_allBear_4 : decode cX3_allBear 4 = .ok (.getfield 27, 3) := by decide +kernel
theorem dX3_allBear_7 : decode cX3_allBear 7 = .ok (.if_icmp .ge 51, 3) := by decide +kernel
theorem dX3_allBear_10 : decode cX3_allBear 10 = .ok (.aload_n 0, 1) := by decide +kernel
theorem dX3_allBear_11 : decode cX3_allBear 11 = .ok (.getfield 23, 3) := by decide +kernel
theorem dX3_allBear_14 : decode cX3_allBear 14 = .ok (.iload_n 3, 1) := by decide +kernel
theorem dX3_allBear_15 : decode cX3_allBear 15 = .ok (.aaload, 1) := by decide +kernel
theorem dX3_allBear_16 : decode cX3_allBear 16 = .ok (.astore 4, 2) := by decide +kernel
theorem dX3_allBear_18 : decode cX3_allBear 18 = .ok (.aload 4, 2) := by decide +kernel
theorem dX3_allBear_20 : decode cX3_allBear 20 = .ok (.getfield 52, 3) := by decide +kernel
theorem dX3_allBear_23 : decode cX3_allBear 23 = .ok (.iload_n 1, 1) := by decide +kernel
theorem dX3_allBear_24 : decode cX3_allBear 24 = .ok (.if_icmp .ne 28, 3) := by decide +kernel
theorem dX3_allBear_27 : decode cX3_allBear 27 = .ok (.aload 4, 2) := by decide +kernel
theorem dX3_allBear_29 : decode cX3_allBear 29 = .ok (.invokevirtual 102, 3) := by decide +kernel
theorem dX3_allBear_32 : decode cX3_allBear 32 = .ok (.ifCond .ne 20, 3) := by decide +kernel
theorem dX3_allBear_35 : decode cX3_allBear 35 = .ok (.aload 4, 2) := by decide +kernel
theorem dX3_allBear_37 : decode cX3_allBear 37 = .ok (.aload_n 0, 1) := by decide +kernel
theorem dX3_allBear_38 : decode cX3_allBear 38 = .ok (.getfield 9, 3) := by decide +kernel
theorem dX3_allBear_41 : decode cX3_allBear 41 = .ok (.iload_n 1, 1) := by decide +kernel
theorem dX3_allBear_42 : decode cX3_allBear 42 = .ok (.iaload, 1) := by decide +kernel
theorem dX3_allBear_43 : decode cX3_allBear 43 = .ok (.iload_n 2, 1) := by decide +kernel
theorem dX3_allBear_44 : decode cX3_allBear 44 = .ok (.invokevirtual 106, 3) := by decide +kernel
theorem dX3_allBear_47 : decode cX3_allBear 47 = .ok (.ifCond .eq 5, 3) := by decide +kernel
theorem dX3_allBear_50 : decode cX3_allBear 50 = .ok (.iconst 0, 1) := by decide +kernel
theorem dX3_allBear_51 : decode cX3_allBear 51 = .ok (.ireturn, 1) := by decide +kernel
theorem dX3_allBear_52 : decode cX3_allBear 52 = .ok (.iinc 3 1, 3) := by decide +kernel
theorem dX3_allBear_55 : decode cX3_allBear 55 = .ok (.goto (-53), 3) := by decide +kernel
theorem dX3_allBear_58 : decode cX3_allBear 58 = .ok (.iconst 1, 1) := by decide +kernel
theorem dX3_allBear_59 : decode cX3_allBear 59 = .ok (.ireturn, 1) := by decide +kernel
theorem dX3_code_0 : decode cX3_code 0 = .ok (.iconst 0, 1) := by decide +kernel
theorem dX3_code_1 : decode cX3_code 1 = .ok (.istore_n 1, 1) := by decide +kernel
theorem dX3_code_2 : decode cX3_code 2 = .ok (.iconst 0, 1) := by decide +kernel
theorem dX3_code_3 : decode cX3_code 3 = .ok (.istore_n 2, 1) := by decide +kernel
theorem dX3_code_4 : decode cX3_code 4 = .ok (.iload_n 2, 1) := by decide +kernel
theorem dX3_code_5 : decode cX3_code 5 = .ok (.iconst 3, 1) := by decide +kernel
theorem dX3_code_6 : decode cX3_code 6 = .ok (.if_icmp .ge 20, 3) := by decide +kernel
theorem dX3_code_9 : decode cX3_code 9 = .ok (.iload_n 1, 1) := by decide +kernel
theorem dX3_code_10 : decode cX3_code 10 = .ok (.iconst 4, 1) := by decide +kernel
theorem dX3_code_11 : decode cX3_code 11 = .ok (.imul, 1) := by decide +kernel
theorem dX3_code_12 : decode cX3_code 12 = .ok (.aload_n 0, 1) := by decide +kernel
theorem dX3_code_13 : decode cX3_code 13 = .ok (.getfield 15, 3) := by decide +kernel
theorem dX3_code_16 : decode cX3_code 16 = .ok (.iload_n 2, 1) := by decide +kernel
theorem dX3_code_17 : decode cX3_code 17 = .ok (.iaload, 1) := by decide +kernel
theorem dX3_code_18 : decode cX3_code 18 = .ok (.iadd, 1) := by decide +kernel
theorem dX3_code_19 : decode cX3_code 19 = .ok (.istore_n 1, 1) := by decide +kernel
theorem dX3_code_20 : decode cX3_code 20 = .ok (.iinc 2 1, 3) := by decide +kernel
theorem dX3_code_23 : decode cX3_code 23 = .ok (.goto (-19), 3) := by decide +kernel
theorem dX3_code_26 : decode cX3_code 26 = .ok (.iload_n 1, 1) := by decide +kernel
theorem dX3_code_27 : decode cX3_code 27 = .ok (.ireturn, 1) := by decide +kernel
theorem dX3_setByCode_0 : decode cX3_setByCode 0 = .ok (.iload_n 1, 1) := by decide +kernel
theorem dX3_setByCode_1 : decode cX3_setByCode 1 = .ok (.istore_n 2, 1) := by decide +kernel
theorem dX3_setByCode_2 : decode cX3_setByCode 2 = .ok (.iconst 2, 1) := by decide +kernel
theorem dX3_setByCode_3 : decode cX3_setByCode 3 = .ok (.istore_n 3, 1) := by decide +kernel
theorem dX3_setByCode_4 : decode cX3_setByCode 4 = .ok (.iload_n 3, 1) := by decide +kernel
theorem dX3_setByCode_5 : decode cX3_setByCode 5 = .ok (.ifCond .lt 22, 3) := by decide +kernel
theorem dX3_setByCode_8 : decode cX3_setByCode 8 = .ok (.aload_n 0, 1) := by decide +kernel
theorem dX3_setByCode_9 : decode cX3_setByCode 9 = .ok (.getfield 15, 3) := by decide +kernel
theorem dX3_setByCode_12 : decode cX3_setByCode 12 = .ok (.iload_n 3, 1) := by decide +kernel
theorem dX3_setByCode_13 : decode cX3_setByCode 13 = .ok (.iload_n 2, 1) := by decide +kernel
theorem dX3_setByCode_14 : decode cX3_setByCode 14 = .ok (.iconst 3, 1) := by decide +kernel
theorem dX3_setByCode_15 : decode cX3_setByCode 15 = .ok (.iand, 1) := by decide +kernel
theorem dX3_setByCode_16 : decode cX3_setByCode 16 = .ok (.iastore, 1) := by decide +kernel
theorem dX3_setByCode_17 : decode cX3_setByCode 17 = .ok (.iload_n 2, 1) := by decide +kernel
theorem dX3_setByCode_18 : decode cX3_setByCode 18 = .ok (.iconst 2, 1) := by decide +kernel
theorem dX3_setByCode_19 : decode cX3_setByCode 19 = .ok (.ishr, 1) := by decide +kernel
theorem dX3_setByCode_20 : decode cX3_setByCode 20 = .ok (.istore_n 2, 1) := by decide +kernel
theorem dX3_setByCode_21 : decode cX3_setByCode 21 = .ok (.iinc 3 (-1), 3) := by decide +kernel
theorem dX3_setByCode_24 : decode cX3_setByCode 24 = .ok (.goto (-20), 3) := by decide +kernel
theorem dX3_setByCode_27 : decode cX3_setByCode 27 = .ok (.return_, 1) := by decide +kernel
theorem dX3_hottestZone_0 : decode cX3_hottestZone 0 = .ok (.iconst 0, 1) := by decide +kernel
theorem dX3_hottestZone_1 : decode cX3_hottestZone 1 = .ok (.istore_n 1, 1) := by decide +kernel
theorem dX3_hottestZone_2 : decode cX3_hottestZone 2 = .ok (.iconst 1, 1) := by decide +kernel
theorem dX3_hottestZone_3 : decode cX3_hottestZone 3 = .ok (.istore_n 2, 1) := by decide +kernel
theorem dX3_hottestZone_4 : decode cX3_hottestZone 4 = .ok (.iload_n 2, 1) := by decide +kernel
theorem dX3_hottestZone_5 : decode cX3_hottestZone 5 = .ok (.iconst 3, 1) := by decide +kernel
theorem dX3_hottestZone_6 : decode cX3_hottestZone 6 = .ok (.if_icmp .ge 26, 3) := by decide +kernel
theorem dX3_hottestZone_9 : decode cX3_hottestZone 9 = .ok (.aload_n 0, 1) := by decide +kernel
theorem dX3_hottestZone_10 : decode cX3_hottestZone 10 = .ok (.getfield 9, 3) := by decide +kernel
theorem dX3_hottestZone_13 : decode cX3_hottestZone 13 = .ok (.iload_n 2, 1) := by decide +kernel
theorem dX3_hottestZone_14 : decode cX3_hottestZone 14 = .ok (.iaload, 1) := by decide +kernel
theorem dX3_hottestZone_15 : decode cX3_hottestZone 15 = .ok (.aload_n 0, 1) := by decide +kernel
theorem dX3_hottestZone_16 : decode cX3_hottestZone 16 = .ok (.getfield 9, 3) := by decide +kernel
theorem dX3_hottestZone_19 : decode cX3_hottestZone 19 = .ok (.iload_n 1, 1) := by decide +kernel
theorem dX3_hottestZone_20 : decode cX3_hottestZone 20 = .ok (.iaload, 1) := by decide +kernel
theorem dX3_hottestZone_21 : decode cX3_hottestZone 21 = .ok (.if_icmp .le 5, 3) := by decide +kernel
theorem dX3_hottestZone_24 : decode cX3_hottestZone 24 = .ok (.iload_n 2, 1) := by decide +kernel
theorem dX3_hottestZone_25 : decode cX3_hottestZone 25 = .ok (.istore_n 1, 1) := by decide +kernel
theorem dX3_hottestZone_26 : decode cX3_hottestZone 26 = .ok (.iinc 2 1, 3) := by decide +kernel
theorem dX3_hottestZone_29 : decode cX3_hottestZone 29 = .ok (.goto (-25), 3) := by decide +kernel
theorem dX3_hottestZone_32 : decode cX3_hottestZone 32 = .ok (.iload_n 1, 1) := by decide +kernel
theorem dX3_hottestZone_33 : decode cX3_hottestZone 33 = .ok (.ireturn, 1) := by decide +kernel
theorem dX3_bitsInZone_0 : decode cX3_bitsInZone 0 = .ok (.iconst 0, 1) := by decide +kernel
theorem dX3_bitsInZone_1 : decode cX3_bitsInZone 1 = .ok (.istore_n 2, 1) := by decide +kernel
theorem dX3_bitsInZone_2 : decode cX3_bitsInZone 2 = .ok (.iconst 0, 1) := by decide +kernel
theorem dX3_bitsInZone_3 : decode cX3_bitsInZone 3 = .ok (.istore_n 3, 1) := by decide +kernel
theorem dX3_bitsInZone_4 : decode cX3_bitsInZone 4 = .ok (.iload_n 3, 1) := by decide +kernel
theorem dX3_bitsInZone_5 : decode cX3_bitsInZone 5 = .ok (.aload_n 0, 1) := by decide +kernel
theorem dX3_bitsInZone_6 : decode cX3_bitsInZone 6 = .ok (.getfield 27, 3) := by decide +kernel
theorem dX3_bitsInZone_9 : decode cX3_bitsInZone 9 = .ok (.if_icmp .ge 28, 3) := by decide +kernel
theorem dX3_bitsInZone_12 : decode cX3_bitsInZone 12 = .ok (.aload_n 0, 1) := by decide +kernel
theorem dX3_bitsInZone_13 : decode cX3_bitsInZone 13 = .ok (.getfield 23, 3) := by decide +kernel
theorem dX3_bitsInZone_16 : decode cX3_bitsInZone 16 = .ok (.iload_n 3, 1) := by decide +kernel
theorem dX3_bitsInZone_17 : decode cX3_bitsInZone 17 = .ok (.aaload, 1) := by decide +kernel
theorem dX3_bitsInZone_18 : decode cX3_bitsInZone 18 = .ok (.getfield 52, 3) := by decide +kernel
theorem dX3_bitsInZone_21 : decode cX3_bitsInZone 21 = .ok (.iload_n 1, 1) := by decide +kernel
theorem dX3_bitsInZone_22 : decode cX3_bitsInZone 22 = .ok (.if_icmp .ne 9, 3) := by decide +kernel
theorem dX3_bitsInZone_25 : decode cX3_bitsInZone 25 = .ok (.iload_n 2, 1) := by decide +kernel
theorem dX3_bitsInZone_26 : decode cX3_bitsInZone 26 = .ok (.iconst 1, 1) := by decide +kernel
theorem dX3_bitsInZone_27 : decode cX3_bitsInZone 27 = .ok (.iload_n 3, 1) := by decide +kernel
theorem dX3_bitsInZone_28 : decode cX3_bitsInZone 28 = .ok (.ishl, 1) := by decide +kernel
theorem dX3_bitsInZone_29 : decode cX3_bitsInZone 29 = .ok (.ior, 1) := by decide +kernel
theorem dX3_bitsInZone_30 : decode cX3_bitsInZone 30 = .ok (.istore_n 2, 1) := by decide +kernel
theorem dX3_bitsInZone_31 : decode cX3_bitsInZone 31 = .ok (.iinc 3 1, 3) := by decide +kernel
theorem dX3_bitsInZone_34 : decode cX3_bitsInZone 34 = .ok (.goto (-30), 3) := by decide +kernel
theorem dX3_bitsInZone_37 : decode cX3_bitsInZone 37 = .ok (.iload_n 2, 1) := by decide +kernel
theorem dX3_bitsInZone_38 : decode cX3_bitsInZone 38 = .ok (.ireturn, 1) := by decide +kernel
theorem dX3_bitsOfDone_0 : decode cX3_bitsOfDone 0 = .ok (.iconst 0, 1) := by decide +kernel
theorem dX3_bitsOfDone_1 : decode cX3_bitsOfDone 1 = .ok (.istore_n 1, 1) := by decide +kernel
theorem dX3_bitsOfDone_2 : decode cX3_bitsOfDone 2 = .ok (.iconst 0, 1) := by decide +kernel
theorem dX3_bitsOfDone_3 : decode cX3_bitsOfDone 3 = .ok (.istore_n 2, 1) := by decide +kernel
theorem dX3_bitsOfDone_4 : decode cX3_bitsOfDone 4 = .ok (.iload_n 2, 1) := by decide +kernel
theorem dX3_bitsOfDone_5 : decode cX3_bitsOfDone 5 = .ok (.aload_n 0, 1) := by decide +kernel
theorem dX3_bitsOfDone_6 : decode cX3_bitsOfDone 6 = .ok (.getfield 27, 3) := by decide +kernel
theorem dX3_bitsOfDone_9 : decode cX3_bitsOfDone 9 = .ok (.if_icmp .ge 28, 3) := by decide +kernel
theorem dX3_bitsOfDone_12 : decode cX3_bitsOfDone 12 = .ok (.aload_n 0, 1) := by decide +kernel
theorem dX3_bitsOfDone_13 : decode cX3_bitsOfDone 13 = .ok (.getfield 23, 3) := by decide +kernel
theorem dX3_bitsOfDone_16 : decode cX3_bitsOfDone 16 = .ok (.iload_n 2, 1) := by decide +kernel
theorem dX3_bitsOfDone_17 : decode cX3_bitsOfDone 17 = .ok (.aaload, 1) := by decide +kernel
theorem dX3_bitsOfDone_18 : decode cX3_bitsOfDone 18 = .ok (.getfield 109, 3) := by decide +kernel
theorem dX3_bitsOfDone_21 : decode cX3_bitsOfDone 21 = .ok (.iconst 1, 1) := by decide +kernel
theorem dX3_bitsOfDone_22 : decode cX3_bitsOfDone 22 = .ok (.if_icmp .ne 9, 3) := by decide +kernel
theorem dX3_bitsOfDone_25 : decode cX3_bitsOfDone 25 = .ok (.iload_n 1, 1) := by decide +kernel
theorem dX3_bitsOfDone_26 : decode cX3_bitsOfDone 26 = .ok (.iconst 1, 1) := by decide +kernel
theorem dX3_bitsOfDone_27 : decode cX3_bitsOfDone 27 = .ok (.iload_n 2, 1) := by decide +kernel
theorem dX3_bitsOfDone_28 : decode cX3_bitsOfDone 28 = .ok (.ishl, 1) := by decide +kernel
theorem dX3_bitsOfDone_29 : decode cX3_bitsOfDone 29 = .ok (.ior, 1) := by decide +kernel
theorem dX3_bitsOfDone_30 : decode cX3_bitsOfDone 30 = .ok (.istore_n 1, 1) := by decide +kernel
theorem dX3_bitsOfDone_31 : decode cX3_bitsOfDone 31 = .ok (.iinc 2 1, 3) := by decide +kernel
theorem dX3_bitsOfDone_34 : decode cX3_bitsOfDone 34 = .ok (.goto (-30), 3) := by decide +kernel
theorem dX3_bitsOfDone_37 : decode cX3_bitsOfDone 37 = .ok (.iload_n 1, 1) := by decide +kernel
theorem dX3_bitsOfDone_38 : decode cX3_bitsOfDone 38 = .ok (.ireturn, 1) := by decide +kernel
theorem dX3_bitsOfSpoiled_0 : decode cX3_bitsOfSpoiled 0 = .ok (.iconst 0, 1) := by decide +kernel
theorem dX3_bitsOfSpoiled_1 : decode cX3_bitsOfSpoiled 1 = .ok (.istore_n 1, 1) := by decide +kernel
theorem dX3_bitsOfSpoiled_2 : decode cX3_bitsOfSpoiled 2 = .ok (.iconst 0, 1) := by decide +kernel
theorem dX3_bitsOfSpoiled_3 : decode cX3_bitsOfSpoiled 3 = .ok (.istore_n 2, 1) := by decide +kernel
theorem dX3_bitsOfSpoiled_4 : decode cX3_bitsOfSpoiled 4 = .ok (.iload_n 2, 1) := by decide +kernel
theorem dX3_bitsOfSpoiled_5 : decode cX3_bitsOfSpoiled 5 = .ok (.aload_n 0, 1) := by decide +kernel
theorem dX3_bitsOfSpoiled_6 : decode cX3_bitsOfSpoiled 6 = .ok (.getfield 27, 3) := by decide +kernel
theorem dX3_bitsOfSpoiled_9 : decode cX3_bitsOfSpoiled 9 = .ok (.if_icmp .ge 27, 3) := by decide +kernel
theorem dX3_bitsOfSpoiled_12 : decode cX3_bitsOfSpoiled 12 = .ok (.aload_n 0, 1) := by decide +kernel
theorem dX3_bitsOfSpoiled_13 : decode cX3_bitsOfSpoiled 13 = .ok (.getfield 23, 3) := by decide +kernel
theorem dX3_bitsOfSpoiled_16 : decode cX3_bitsOfSpoiled 16 = .ok (.iload_n 2, 1) := by decide +kernel
theorem dX3_bitsOfSpoiled_17 : decode cX3_bitsOfSpoiled 17 = .ok (.aaload, 1) := by decide +kernel
theorem dX3_bitsOfSpoiled_18 : decode cX3_bitsOfSpoiled 18 = .ok (.invokevirtual 102, 3) := by decide +kernel
theorem dX3_bitsOfSpoiled_21 : decode cX3_bitsOfSpoiled 21 = .ok (.ifCond .eq 9, 3) := by decide +kernel
theorem dX3_bitsOfSpoiled_24 : decode cX3_bitsOfSpoiled 24 = .ok (.iload_n 1, 1) := by decide +kernel
theorem dX3_bitsOfSpoiled_25 : decode cX3_bitsOfSpoiled 25 = .ok (.iconst 1, 1) := by decide +kernel
theorem dX3_bitsOfSpoiled_26 : decode cX3_bitsOfSpoiled 26 = .ok (.iload_n 2, 1) := by decide +kernel
theorem dX3_bitsOfSpoiled_27 : decode cX3_bitsOfSpoiled 27 = .ok (.ishl, 1) := by decide +kernel
theorem dX3_bitsOfSpoiled_28 : decode cX3_bitsOfSpoiled 28 = .ok (.ior, 1) := by decide +kernel
theorem dX3_bitsOfSpoiled_29 : decode cX3_bitsOfSpoiled 29 = .ok (.istore_n 1, 1) := by decide +kernel
theorem dX3_bitsOfSpoiled_30 : decode cX3_bitsOfSpoiled 30 = .ok (.iinc 2 1, 3) := by decide +kernel
theorem dX3_bitsOfSpoiled_33 : decode cX3_bitsOfSpoiled 33 = .ok (.goto (-29), 3) := by decide +kernel
theorem dX3_bitsOfSpoiled_36 : decode cX3_bitsOfSpoiled 36 = .ok (.iload_n 1, 1) := by decide +kernel
theorem dX3_bitsOfSpoiled_37 : decode cX3_bitsOfSpoiled 37 = .ok (.ireturn, 1) := by decide +kernel
theorem dX3_isAllDone_0 : decode cX3_isAllDone 0 = .ok (.aload_n 0, 1) := by decide +kernel
theorem dX3_isAllDone_1 : decode cX3_isAllDone 1 = .ok (.invokevirtual 112, 3) := by decide +kernel
theorem dX3_isAllDone_4 : decode cX3_isAllDone 4 = .ok (.iconst 1, 1) := by decide +kernel
theorem dX3_isAllDone_5 : decode cX3_isAllDone 5 = .ok (.aload_n 0, 1) := by decide +kernel
theorem dX3_isAllDone_6 : decode cX3_isAllDone 6 = .ok (.getfield 27, 3) := by decide +kernel
theorem dX3_isAllDone_9 : decode cX3_isAllDone 9 = .ok (.ishl, 1) := by decide +kernel
theorem dX3_isAllDone_10 : decode cX3_isAllDone 10 = .ok (.iconst 1, 1) := by decide +kernel
theorem dX3_isAllDone_11 : decode cX3_isAllDone 11 = .ok (.isub, 1) := by decide +kernel
theorem dX3_isAllDone_12 : decode cX3_isAllDone 12 = .ok (.if_icmp .ne 7, 3) := by decide +kernel
theorem dX3_isAllDone_15 : decode cX3_isAllDone 15 = .ok (.iconst 1, 1) := by decide +kernel
theorem dX3_isAllDone_16 : decode cX3_isAllDone 16 = .ok (.goto 4, 3) := by decide +kernel
theorem dX3_isAllDone_19 : decode cX3_isAllDone 19 = .ok (.iconst 0, 1) := by decide +kernel
theorem dX3_isAllDone_20 : decode cX3_isAllDone 20 = .ok (.ireturn, 1) := by decide +kernel
theorem dX4_init_0 : decode cX4_init 0 = .ok (.aload_n 0, 1) := by decide +kernel
theorem dX4_init_1 : decode cX4_init 1 = .ok (.invokespecial 3, 3) := by decide +kernel
theorem dX4_init_4 : decode cX4_init 4 = .ok (.aload_n 0, 1) := by decide +kernel
theorem dX4_init_5 : decode cX4_init 5 = .ok (.iconst 0, 1) := by decide +kernel
theorem dX4_init_6 : decode cX4_init 6 = .ok (.putfield 11, 3) := by decide +kernel
theorem dX4_init_9 : decode cX4_init 9 = .ok (.aload_n 0, 1) := by decide +kernel
theorem dX4_init_10 : decode cX4_init 10 = .ok (.iconst 1, 1) := by decide +kernel
theorem dX4_init_11 : decode cX4_init 11 = .ok (.putfield 15, 3) := by decide +kernel
theorem dX4_init_14 : decode cX4_init 14 = .ok (.aload_n 0, 1) := by decide +kernel
theorem dX4_init_15 : decode cX4_init 15 = .ok (.iconst 0, 1) := by decide +kernel
theorem dX4_init_16 : decode cX4_init 16 = .ok (.putfield 18, 3) := by decide +kernel
theorem dX4_init_19 : decode cX4_init 19 = .ok (.aload_n 0, 1) := by decide +kernel
theorem dX4_init_20 : decode cX4_init 20 = .ok (.iconst 0, 1) := by decide +kernel
theorem dX4_init_21 : decode cX4_init 21 = .ok (.putfield 21, 3) := by decide +kernel
theorem dX4_init_24 : decode cX4_init 24 = .ok (.aload_n 0, 1) := by decide +kernel
theorem dX4_init_25 : decode cX4_init 25 = .ok (.iconst 0, 1) := by decide +kernel
theorem dX4_init_26 : decode cX4_init 26 = .ok (.putfield 24, 3) := by decide +kernel
theorem dX4_init_29 : decode cX4_init 29 = .ok (.aload_n 0, 1) := by decide +kernel
theorem dX4_init_30 : decode cX4_init 30 = .ok (.iconst 0, 1) := by decide +kernel
theorem dX4_init_31 : decode cX4_init 31 = .ok (.putfield 27, 3) := by decide +kernel
theorem dX4_init_34 : decode cX4_init 34 = .ok (.aload_n 0, 1) := by decide +kernel
theorem dX4_init_35 : decode cX4_init 35 = .ok (.iconst 0, 1) := by decide +kernel
theorem dX4_init_36 : decode cX4_init 36 = .ok (.putfield 30, 3) := by decide +kernel
theorem dX4_init_39 : decode cX4_init 39 = .ok (.aload_n 0, 1) := by decide +kernel
theorem dX4_init_40 : decode cX4_init 40 = .ok (.iconst 0, 1) := by decide +kernel
theorem dX4_init_41 : decode cX4_init 41 = .ok (.putfield 33, 3) := by decide +kernel
theorem dX4_init_44 : decode cX4_init 44 = .ok (.aload_n 0, 1) := by decide +kernel
theorem dX4_init_45 : decode cX4_init 45 = .ok (.iconst 0, 1) := by decide +kernel
theorem dX4_init_46 : decode cX4_init 46 = .ok (.putfield 36, 3) := by decide +kernel
theorem dX4_init_49 : decode cX4_init 49 = .ok (.aload_n 0, 1) := by decide +kernel
theorem dX4_init_50 : decode cX4_init 50 = .ok (.iconst 0, 1) := by decide +kernel
theorem dX4_init_51 : decode cX4_init 51 = .ok (.putfield 39, 3) := by decide +kernel
theorem dX4_init_54 : decode cX4_init 54 = .ok (.return_, 1) := by decide +kernel
theorem dX4_begin_0 : decode cX4_begin 0 = .ok (.aload_n 0, 1) := by decide +kernel
theorem dX4_begin_1 : decode cX4_begin 1 = .ok (.iload_n 1, 1) := by decide +kernel
theorem dX4_begin_2 : decode cX4_begin 2 = .ok (.putfield 11, 3) := by decide +kernel
theorem dX4_begin_5 : decode cX4_begin 5 = .ok (.aload_n 0, 1) := by decide +kernel
theorem dX4_begin_6 : decode cX4_begin 6 = .ok (.iload_n 2, 1) := by decide +kernel
theorem dX4_begin_7 : decode cX4_begin 7 = .ok (.putfield 15, 3) := by decide +kernel
theorem dX4_begin_10 : decode cX4_begin 10 = .ok (.aload_n 0, 1) := by decide +kernel
theorem dX4_begin_11 : decode cX4_begin 11 = .ok (.iload_n 3, 1) := by decide +kernel
theorem dX4_begin_12 : decode cX4_begin 12 = .ok (.putfield 18, 3) := by decide +kernel
theorem dX4_begin_15 : decode cX4_begin 15 = .ok (.aload_n 0, 1) := by decide +kernel
theorem dX4_begin_16 : decode cX4_begin 16 = .ok (.aload_n 0, 1) := by decide +kernel
theorem dX4_begin_17 : decode cX4_begin 17 = .ok (.getfield 11, 3) := by decide +kernel
theorem dX4_begin_20 : decode cX4_begin 20 = .ok (.invokestatic 42, 3) := by decide +kernel
theorem dX4_begin_23 : decode cX4_begin 23 = .ok (.putfield 27, 3) := by decide +kernel
theorem dX4_begin_26 : decode cX4_begin 26 = .ok (.aload_n 0, 1) := by decide +kernel
theorem dX4_begin_27 : decode cX4_begin 27 = .ok (.aload_n 0, 1) := by decide +kernel
theorem dX4_begin_28 : decode cX4_begin 28 = .ok (.getfield 11, 3) := by decide +kernel
theorem dX4_begin_31 : decode cX4_begin 31 = .ok (.invokestatic 46, 3) := by decide +kernel
theorem dX4_begin_34 : decode cX4_begin 34 = .ok (.putfield 30, 3) := by decide +kernel
theorem dX4_begin_37 : decode cX4_begin 37 = .ok (.aload_n 0, 1) := by decide +kernel
theorem dX4_begin_38 : decode cX4_begin 38 = .ok (.aload_n 0, 1) := by decide +kernel
theorem dX4_begin_39 : decode cX4_begin 39 = .ok (.getfield 11, 3) := by decide +kernel
theorem dX4_begin_42 : decode cX4_begin 42 = .ok (.aload_n 0, 1) := by decide +kernel
theorem dX4_begin_43 : decode cX4_begin 43 = .ok (.getfield 15, 3) := by decide +kernel
theorem dX4_begin_46 : decode cX4_begin 46 = .ok (.invokestatic 49, 3) := by decide +kernel
theorem dX4_begin_49 : decode cX4_begin 49 = .ok (.putfield 33, 3) := by decide +kernel
theorem dX4_begin_52 : decode cX4_begin 52 = .ok (.aload_n 0, 1) := by decide +kernel
theorem dX4_begin_53 : decode cX4_begin 53 = .ok (.aload_n 0, 1) := by decide +kernel
theorem dX4_begin_54 : decode cX4_begin 54 = .ok (.getfield 11, 3) := by decide +kernel
theorem dX4_begin_57 : decode cX4_begin 57 = .ok (.iconst 5, 1) := by decide +kernel
theorem dX4_begin_58 : decode cX4_begin 58 = .ok (.if_icmp .ne 18, 3) := by decide +kernel
theorem dX4_begin_61 : decode cX4_begin 61 = .ok (.aload_n 0, 1) := by decide +kernel
theorem dX4_begin_62 : decode cX4_begin 62 = .ok (.getfield 30, 3) := by decide +kernel
theorem dX4_begin_65 : decode cX4_begin 65 = .ok (.sipush 300, 3) := by decide +kernel
theorem dX4_begin_68 : decode cX4_begin 68 = .ok (.iadd, 1) := by decide +kernel
theorem dX4_begin_69 : decode cX4_begin 69 = .ok (.sipush 200, 3) := by decide +kernel
theorem dX4_begin_72 : decode cX4_begin 72 = .ok (.iadd, 1) := by decide +kernel
theorem dX4_begin_73 : decode cX4_begin 73 = .ok (.goto 11, 3) := by decide +kernel
theorem dX4_begin_76 : decode cX4_begin 76 = .ok (.aload_n 0, 1) := by decide +kernel
theorem dX4_begin_77 : decode cX4_begin 77 = .ok (.getfield 30, 3) := by decide +kernel
theorem dX4_begin_80 : decode cX4_begin 80 = .ok (.sipush 300, 3) := by decide +kernel
theorem dX4_begin_83 : decode cX4_begin 83 = .ok (.iadd, 1) := by decide +kernel
theorem dX4_begin_84 : decode cX4_begin 84 = .ok (.putfield 36, 3) := by decide +kernel
theorem dX4_begin_87 : decode cX4_begin 87 = .ok (.aload_n 0, 1) := by decide +kernel
theorem dX4_begin_88 : decode cX4_begin 88 = .ok (.aload_n 0, 1) := by decide +kernel
theorem dX4_begin_89 : decode cX4_begin 89 = .ok (.getfield 11, 3) := by decide +kernel
theorem dX4_begin_92 : decode cX4_begin 92 = .ok (.aload_n 0, 1) := by decide +kernel
theorem dX4_begin_93 : decode cX4_begin 93 = .ok (.getfield 15, 3) := by decide +kernel
theorem dX4_begin_96 : decode cX4_begin 96 = .ok (.invokestatic 53, 3) := by decide +kernel
theorem dX4_begin_99 : decode cX4_begin 99 = .ok (.putfield 39, 3) := by decide +kernel
theorem dX4_begin_102 : decode cX4_begin 102 = .ok (.aload_n 0, 1) := by decide +kernel
theorem dX4_begin_103 : decode cX4_begin 103 = .ok (.invokevirtual 56, 3) := by decide +kernel
theorem dX4_begin_106 : decode cX4_begin 106 = .ok (.return_, 1) := by decide +kernel
theorem dX4_become_0 : decode cX4_become 0 = .ok (.aload_n 0, 1) := by decide +kernel
theorem dX4_become_1 : decode cX4_become 1 = .ok (.aload_n 1, 1) := by decide +kernel
theorem dX4_become_2 : decode cX4_become 2 = .ok (.getfield 11, 3) := by decide +kernel
theorem dX4_become_5 : decode cX4_become 5 = .ok (.putfield 11, 3) := by decide +kernel
theorem dX4_become_8 : decode cX4_become 8 = .ok (.aload_n 0, 1) := by decide +kernel
theorem dX4_become_9 : decode cX4_become 9 = .ok (.aload_n 1, 1) := by decide +kernel
theorem dX4_become_10 : decode cX4_become 10 = .ok (.getfield 15, 3) := by decide +kernel
theorem dX4_become_13 : decode cX4_become 13 = .ok (.putfield 15, 3) := by decide +kernel
theorem dX4_become_16 : decode cX4_become 16 = .ok (.aload_n 0, 1) := by decide +kernel
theorem dX4_become_17 : decode cX4_become 17 = .ok (.aload_n 1, 1) := by decide +kernel
theorem dX4_become_18 : decode cX4_become 18 = .ok (.getfield 18, 3) := by decide +kernel
theorem dX4_become_21 : decode cX4_become 21 = .ok (.putfield 18, 3) := by decide +kernel
theorem dX4_become_24 : decode cX4_become 24 = .ok (.aload_n 0, 1) := by decide +kernel
theorem dX4_become_25 : decode cX4_become 25 = .ok (.aload_n 1, 1) := by decide +kernel
theorem dX4_become_26 : decode cX4_become 26 = .ok (.getfield 21, 3) := by decide +kernel
theorem dX4_become_29 : decode cX4_become 29 = .ok (.putfield 21, 3) := by decide +kernel
theorem dX4_become_32 : decode cX4_become 32 = .ok (.aload_n 0, 1) := by decide +kernel
theorem dX4_become_33 : decode cX4_become 33 = .ok (.aload_n 1, 1) := by decide +kernel
theorem dX4_become_34 : decode cX4_become 34 = .ok (.getfield 24, 3) := by decide +kernel
theorem dX4_become_37 : decode cX4_become 37 = .ok (.putfield 24, 3) := by decide +kernel
theorem dX4_become_40 : decode cX4_become 40 = .ok (.aload_n 0, 1) := by decide +kernel
theorem dX4_become_41 : decode cX4_become 41 = .ok (.aload_n 1, 1) := by decide +kernel
theorem dX4_become_42 : decode cX4_become 42 = .ok (.getfield 27, 3) := by decide +kernel
theorem dX4_become_45 : decode cX4_become 45 = .ok (.putfield 27, 3) := by decide +kernel
theorem dX4_become_48 : decode cX4_become 48 = .ok (.aload_n 0, 1) := by decide +kernel
theorem dX4_become_49 : decode cX4_become 49 = .ok (.aload_n 1, 1) := by decide +kernel
theorem dX4_become_50 : decode cX4_become 50 = .ok (.getfield 30, 3) := by decide +kernel
theorem dX4_become_53 : decode cX4_become 53 = .ok (.putfield 30, 3) := by decide +kernel
theorem dX4_become_56 : decode cX4_become 56 = .ok (.aload_n 0, 1) := by decide +kernel
theorem dX4_become_57 : decode cX4_become 57 = .ok (.aload_n 1, 1) := by decide +kernel
theorem dX4_become_58 : decode cX4_become 58 = .ok (.getfield 33, 3) := by decide +kernel
theorem dX4_become_61 : decode cX4_become 61 = .ok (.putfield 33, 3) := by decide +kernel
theorem dX4_become_64 : decode cX4_become 64 = .ok (.aload_n 0, 1) := by decide +kernel
theorem dX4_become_65 : decode cX4_become 65 = .ok (.aload_n 1, 1) := by decide +kernel
theorem dX4_become_66 : decode cX4_become 66 = .ok (.getfield 36, 3) := by decide +kernel
theorem dX4_become_69 : decode cX4_become 69 = .ok (.putfield 36, 3) := by decide +kernel
theorem dX4_become_72 : decode cX4_become 72 = .ok (.aload_n 0, 1) := by decide +kernel
theorem dX4_become_73 : decode cX4_become 73 = .ok (.aload_n 1, 1) := by decide +kernel
theorem dX4_become_74 : decode cX4_become 74 = .ok (.getfield 39, 3) := by decide +kernel
theorem dX4_become_77 : decode cX4_become 77 = .ok (.putfield 39, 3) := by decide +kernel
theorem dX4_become_80 : decode cX4_become 80 = .ok (.return_, 1) := by decide +kernel
theorem dX4_makeRaw_0 : decode cX4_makeRaw 0 = .ok (.aload_n 0, 1) := by decide +kernel
theorem dX4_makeRaw_1 : decode cX4_makeRaw 1 = .ok (.iconst 0, 1) := by decide +kernel
theorem dX4_makeRaw_2 : decode cX4_makeRaw 2 = .ok (.putfield 21, 3) := by decide +kernel
theorem dX4_makeRaw_5 : decode cX4_makeRaw 5 = .ok (.aload_n 0, 1) := by decide +kernel
theorem dX4_makeRaw_6 : decode cX4_makeRaw 6 = .ok (.iconst 0, 1) := by decide +kernel
theorem dX4_makeRaw_7 : decode cX4_makeRaw 7 = .ok (.putfield 24, 3) := by decide +kernel
theorem dX4_makeRaw_10 : decode cX4_makeRaw 10 = .ok (.return_, 1) := by decide +kernel
theorem dX4_isSpoiled_0 : decode cX4_isSpoiled 0 = .ok (.aload_n 0, 1) := by decide +kernel
theorem dX4_isSpoiled_1 : decode cX4_isSpoiled 1 = .ok (.getfield 24, 3) := by decide +kernel
theorem dX4_isSpoiled_4 : decode cX4_isSpoiled 4 = .ok (.iconst 2, 1) := by decide +kernel
theorem dX4_isSpoiled_5 : decode cX4_isSpoiled 5 = .ok (.if_icmp .eq 11, 3) := by decide +kernel
theorem dX4_isSpoiled_8 : decode cX4_isSpoiled 8 = .ok (.aload_n 0, 1) := by decide +kernel
theorem dX4_isSpoiled_9 : decode cX4_isSpoiled 9 = .ok (.getfield 24, 3) := by decide +kernel
theorem dX4_isSpoiled_12 : decode cX4_isSpoiled 12 = .ok (.iconst 3, 1) := by decide +kernel
theorem dX4_isSpoiled_13 : decode cX4_isSpoiled 13 = .ok (.if_icmp .ne 7, 3) := by decide +kernel
theorem dX4_isSpoiled_16 : decode cX4_isSpoiled 16 = .ok (.iconst 1, 1) := by decide +kernel
theorem dX4_isSpoiled_17 : decode cX4_isSpoiled 17 = .ok (.goto 4, 3) := by decide +kernel
theorem dX4_isSpoiled_20 : decode cX4_isSpoiled 20 = .ok (.iconst 0, 1) := by decide +kernel
theorem dX4_isSpoiled_21 : decode cX4_isSpoiled 21 = .ok (.ireturn, 1) := by decide +kernel
theorem dX4_isUnder_0 : decode cX4_isUnder 0 = .ok (.aload_n 0, 1) := by decide +kernel
theorem dX4_isUnder_1 : decode cX4_isUnder 1 = .ok (.getfield 11, 3) := by decide +kernel
theorem dX4_isUnder_4 : decode cX4_isUnder 4 = .ok (.istore_n 2, 1) := by decide +kernel
theorem dX4_isUnder_5 : decode cX4_isUnder 5 = .ok (.iconst 0, 1) := by decide +kernel
theorem dX4_isUnder_6 : decode cX4_isUnder 6 = .ok (.istore_n 3, 1) := by decide +kernel
theorem dX4_isUnder_7 : decode cX4_isUnder 7 = .ok (.iload_n 3, 1) := by decide +kernel
theorem dX4_isUnder_8 : decode cX4_isUnder 8 = .ok (.bipush 6, 2) := by decide +kernel
theorem dX4_isUnder_10 : decode cX4_isUnder 10 = .ok (.if_icmp .ge 32, 3) := by decide +kernel
theorem dX4_isUnder_13 : decode cX4_isUnder 13 = .ok (.iload_n 2, 1) := by decide +kernel
theorem dX4_isUnder_14 : decode cX4_isUnder 14 = .ok (.ifCond .lt 28, 3) := by decide +kernel
theorem dX4_isUnder_17 : decode cX4_isUnder 17 = .ok (.iload_n 2, 1) := by decide +kernel
theorem dX4_isUnder_18 : decode cX4_isUnder 18 = .ok (.bipush 6, 2) := by decide +kernel
theorem dX4_isUnder_20 : decode cX4_isUnder 20 = .ok (.if_icmp .ge 22, 3) := by decide +kernel
theorem dX4_isUnder_23 : decode cX4_isUnder 23 = .ok (.iload_n 2, 1) := by decide +kernel
theorem dX4_isUnder_24 : decode cX4_isUnder 24 = .ok (.iload_n 1, 1) := by decide +kernel
theorem dX4_isUnder_25 : decode cX4_isUnder 25 = .ok (.if_icmp .ne 5, 3) := by decide +kernel
theorem dX4_isUnder_28 : decode cX4_isUnder 28 = .ok (.iconst 1, 1) := by decide +kernel
theorem dX4_isUnder_29 : decode cX4_isUnder 29 = .ok (.ireturn, 1) := by decide +kernel
theorem dX4_isUnder_30 : decode cX4_isUnder 30 = .ok (.getstatic 59, 3) := by decide +kernel
theorem dX4_isUnder_33 : decode cX4_isUnder 33 = .ok (.iload_n 2, 1) := by decide +kernel
theorem dX4_isUnder_34 : decode cX4_isUnder 34 = .ok (.iaload, 1) := by decide +kernel
theorem dX4_isUnder_35 : decode cX4_isUnder 35 = .ok (.istore_n 2, 1) := by decide +kernel
theorem dX4_isUnder_36 : decode cX4_isUnder 36 = .ok (.iinc 3 1, 3) := by decide +kernel
theorem dX4_isUnder_39 : decode cX4_isUnder 39 = .ok (.goto (-32), 3) := by decide +kernel
theorem dX4_isUnder_42 : decode cX4_isUnder 42 = .ok (.iconst 0, 1) := by decide +kernel
theorem dX4_isUnder_43 : decode cX4_isUnder 43 = .ok (.ireturn, 1) := by decide +kernel
theorem dX4_riseFrom_0 : decode cX4_riseFrom 0 = .ok (.bipush 120, 2) := by decide +kernel
theorem dX4_riseFrom_2 : decode cX4_riseFrom 2 = .ok (.bipush 8, 2) := by decide +kernel
theorem dX4_riseFrom_4 : decode cX4_riseFrom 4 = .ok (.aload_n 0, 1) := by decide +kernel
theorem dX4_riseFrom_5 : decode cX4_riseFrom 5 = .ok (.getfield 15, 3) := by decide +kernel
theorem dX4_riseFrom_8 : decode cX4_riseFrom 8 = .ok (.imul, 1) := by decide +kernel
theorem dX4_riseFrom_9 : decode cX4_riseFrom 9 = .ok (.isub, 1) := by decide +kernel
theorem dX4_riseFrom_10 : decode cX4_riseFrom 10 = .ok (.istore_n 2, 1) := by decide +kernel
theorem dX4_riseFrom_11 : decode cX4_riseFrom 11 = .ok (.aload_n 0, 1) := by decide +kernel
theorem dX4_riseFrom_12 : decode cX4_riseFrom 12 = .ok (.getfield 11, 3) := by decide +kernel
theorem dX4_riseFrom_15 : decode cX4_riseFrom 15 = .ok (.tableswitch 66 1 5 #[33, 66, 35, 51, 35], 33) := by decide +kernel
theorem dX4_riseFrom_48 : decode cX4_riseFrom 48 = .ok (.iload_n 2, 1) := by decide +kernel
theorem dX4_riseFrom_49 : decode cX4_riseFrom 49 = .ok (.ireturn, 1) := by decide +kernel
theorem dX4_riseFrom_50 : decode cX4_riseFrom 50 = .ok (.iload_n 1, 1) := by decide +kernel
theorem dX4_riseFrom_51 : decode cX4_riseFrom 51 = .ok (.sipush 600, 3) := by decide +kernel
theorem dX4_riseFrom_54 : decode cX4_riseFrom 54 = .ok (.if_icmp .lt 10, 3) := by decide +kernel
theorem dX4_riseFrom_57 : decode cX4_riseFrom 57 = .ok (.iload_n 2, 1) := by decide +kernel
theorem dX4_riseFrom_58 : decode cX4_riseFrom 58 = .ok (.bipush 30, 2) := by decide +kernel
theorem dX4_riseFrom_60 : decode cX4_riseFrom 60 = .ok (.isub, 1) := by decide +kernel
theorem dX4_riseFrom_61 : decode cX4_riseFrom 61 = .ok (.goto 4, 3) := by decide +kernel
theorem dX4_riseFrom_64 : decode cX4_riseFrom 64 = .ok (.iload_n 2, 1) := by decide +kernel
theorem dX4_riseFrom_65 : decode cX4_riseFrom 65 = .ok (.ireturn, 1) := by decide +kernel
theorem dX4_riseFrom_66 : decode cX4_riseFrom 66 = .ok (.iload_n 1, 1) := by decide +kernel
theorem dX4_riseFrom_67 : decode cX4_riseFrom 67 = .ok (.sipush 200, 3) := by decide +kernel
theorem dX4_riseFrom_70 : decode cX4_riseFrom 70 = .ok (.if_icmp .ge 8, 3) := by decide +kernel
theorem dX4_riseFrom_73 : decode cX4_riseFrom 73 = .ok (.bipush 40, 2) := by decide +kernel
theorem dX4_riseFrom_75 : decode cX4_riseFrom 75 = .ok (.goto 5, 3) := by decide +kernel
theorem dX4_riseFrom_78 : decode cX4_riseFrom 78 = .ok (.bipush 120, 2) := by decide +kernel
theorem dX4_riseFrom_80 : decode cX4_riseFrom 80 = .ok (.ireturn, 1) := by decide +kernel
theorem dX4_riseFrom_81 : decode cX4_riseFrom 81 = .ok (.bipush 120, 2) := by decide +kernel
theorem dX4_riseFrom_83 : decode cX4_riseFrom 83 = .ok (.ireturn, 1) := by decide +kernel
theorem dX4_fallOf_0 : decode cX4_fallOf 0 = .ok (.iload_n 0, 1) := by decide +kernel
theorem dX4_fallOf_1 : decode cX4_fallOf 1 = .ok (.tableswitch 33 2 4 #[27, 30, 27], 27) := by decide +kernel
theorem dX4_fallOf_28 : decode cX4_fallOf 28 = .ok (.bipush 40, 2) := by decide +kernel
theorem dX4_fallOf_30 : decode cX4_fallOf 30 = .ok (.ireturn, 1) := by decide +kernel
theorem dX4_fallOf_31 : decode cX4_fallOf 31 = .ok (.bipush 60, 2) := by decide +kernel
theorem dX4_fallOf_33 : decode cX4_fallOf 33 = .ok (.ireturn, 1) := by decide +kernel
theorem dX4_fallOf_34 : decode cX4_fallOf 34 = .ok (.bipush 80, 2) := by decide +kernel
theorem dX4_fallOf_36 : decode cX4_fallOf 36 = .ok (.ireturn, 1) := by decide +kernel
theorem dX4_topOf_0 : decode cX4_topOf 0 = .ok (.iload_n 0, 1) := by decide +kernel
theorem dX4_topOf_1 : decode cX4_topOf 1 = .ok (.tableswitch 39 2 5 #[31, 35, 31, 35], 31) := by decide +kernel
theorem dX4_topOf_32 : decode cX4_topOf 32 = .ok (.sipush 900, 3) := by decide +kernel
theorem dX4_topOf_35 : decode cX4_topOf 35 = .ok (.ireturn, 1) := by decide +kernel
theorem dX4_topOf_36 : decode cX4_topOf 36 = .ok (.sipush 1000, 3) := by decide +kernel
theorem dX4_topOf_39 : decode cX4_topOf 39 = .ok (.ireturn, 1) := by decide +kernel
theorem dX4_topOf_40 : decode cX4_topOf 40 = .ok (.sipush 800, 3) := by decide +kernel
theorem dX4_topOf_43 : decode cX4_topOf 43 = .ok (.ireturn, 1) := by decide +kernel
theorem dX4_needOf_0 : decode cX4_needOf 0 = .ok (.iload_n 0, 1) := by decide +kernel
theorem dX4_needOf_1 : decode cX4_needOf 1 = .ok (.lookupswitch 41 #[(2, 27), (4, 33)], 27) := by decide +kernel
theorem dX4_needOf_28 : decode cX4_needOf 28 = .ok (.iconst 2, 1) := by decide +kernel
theorem dX4_needOf_29 : decode cX4_needOf 29 = .ok (.iload_n 1, 1) := by decide +kernel
theorem dX4_needOf_30 : decode cX4_needOf 30 = .ok (.iconst 2, 1) := by decide +kernel
theorem dX4_needOf_31 : decode cX4_needOf 31 = .ok (.idiv, 1) := by decide +kernel
theorem dX4_needOf_32 : decode cX4_needOf 32 = .ok (.iadd, 1) := by decide +kernel
theorem dX4_needOf_33 : decode cX4_needOf 33 = .ok (.ireturn, 1) := by decide +kernel
theorem dX4_needOf_34 : decode cX4_needOf 34 = .ok (.iconst 2, 1) := by decide +kernel
theorem dX4_needOf_35 : decode cX4_needOf 35 = .ok (.iload_n 1, 1) := by decide +kernel
theorem dX4_needOf_36 : decode cX4_needOf 36 = .ok (.iconst 2, 1) := by decide +kernel
theorem dX4_needOf_37 : decode cX4_needOf 37 = .ok (.idiv, 1) := by decide +kernel
theorem dX4_needOf_38 : decode cX4_needOf 38 = .ok (.iadd, 1) := by decide +kernel
theorem dX4_needOf_39 : decode cX4_needOf 39 = .ok (.iconst 1, 1) := by decide +kernel
theorem dX4_needOf_40 : decode cX4_needOf 40 = .ok (.isub, 1) := by decide +kernel
theorem dX4_needOf_41 : decode cX4_needOf 41 = .ok (.ireturn, 1) := by decide +kernel
theorem dX4_needOf_42 : decode cX4_needOf 42 = .ok (.iconst 2, 1) := by decide +kernel
theorem dX4_needOf_43 : decode cX4_needOf 43 = .ok (.ireturn, 1) := by decide +kernel
theorem dX4_massOf_0 : decode cX4_massOf 0 = .ok (.iload_n 0, 1) := by decide +kernel
theorem dX4_massOf_1 : decode cX4_massOf 1 = .ok (.tableswitch 43 1 5 #[35, 39, 35, 39, 35], 35) := by decide +kernel
theorem dX4_massOf_36 : decode cX4_massOf 36 = .ok (.iload_n 1, 1) := by decide +kernel
theorem dX4_massOf_37 : decode cX4_massOf 37 = .ok (.iconst 2, 1) := by decide +kernel
theorem dX4_massOf_38 : decode cX4_massOf 38 = .ok (.idiv, 1) := by decide +kernel
theorem dX4_massOf_39 : decode cX4_massOf 39 = .ok (.ireturn, 1) := by decide +kernel
theorem dX4_massOf_40 : decode cX4_massOf 40 = .ok (.iconst 2, 1) := by decide +kernel
theorem dX4_massOf_41 : decode cX4_massOf 41 = .ok (.iload_n 1, 1) := by decide +kernel
theorem dX4_massOf_42 : decode cX4_massOf 42 = .ok (.imul, 1) := by decide +kernel
theorem dX4_massOf_43 : decode cX4_massOf 43 = .ok (.ireturn, 1) := by decide +kernel
theorem dX4_massOf_44 : decode cX4_massOf 44 = .ok (.iload_n 1, 1) := by decide +kernel
theorem dX4_massOf_45 : decode cX4_massOf 45 = .ok (.ireturn, 1) := by decide +kernel
theorem dX4_harm_0 : decode cX4_harm 0 = .ok (.iload_n 2, 1) := by decide +kernel
theorem dX4_harm_1 : decode cX4_harm 1 = .ok (.iload_n 1, 1) := by decide +kernel
theorem dX4_harm_2 : decode cX4_harm 2 = .ok (.isub, 1) := by decide +kernel
theorem dX4_harm_3 : decode cX4_harm 3 = .ok (.aload_n 0, 1) := by decide +kernel
theorem dX4_harm_4 : decode cX4_harm 4 = .ok (.iload_n 1, 1) := by decide +kernel
theorem dX4_harm_5 : decode cX4_harm 5 = .ok (.invokevirtual 63, 3) := by decide +kernel
theorem dX4_harm_8 : decode cX4_harm 8 = .ok (.if_icmp .gt 13, 3) := by decide +kernel
theorem dX4_harm_11 : decode cX4_harm 11 = .ok (.iload_n 1, 1) := by decide +kernel
theorem dX4_harm_12 : decode cX4_harm 12 = .ok (.iload_n 2, 1) := by decide +kernel
theorem dX4_harm_13 : decode cX4_harm 13 = .ok (.isub, 1) := by decide +kernel
theorem dX4_harm_14 : decode cX4_harm 14 = .ok (.aload_n 0, 1) := by decide +kernel
theorem dX4_harm_15 : decode cX4_harm 15 = .ok (.getfield 27, 3) := by decide +kernel
theorem dX4_harm_18 : decode cX4_harm 18 = .ok (.if_icmp .le 5, 3) := by decide +kernel
theorem dX4_harm_21 : decode cX4_harm 21 = .ok (.iconst 2, 1) := by decide +kernel
theorem dX4_harm_22 : decode cX4_harm 22 = .ok (.ireturn, 1) := by decide +kernel
theorem dX4_harm_23 : decode cX4_harm 23 = .ok (.iload_n 2, 1) := by decide +kernel
theorem dX4_harm_24 : decode cX4_harm 24 = .ok (.aload_n 0, 1) := by decide +kernel
theorem dX4_harm_25 : decode cX4_harm 25 = .ok (.getfield 36, 3) := by decide +kernel
theorem dX4_harm_28 : decode cX4_harm 28 = .ok (.if_icmp .le 7, 3) := by decide +kernel
theorem dX4_harm_31 : decode cX4_harm 31 = .ok (.iconst 3, 1) := by decide +kernel
theorem dX4_harm_32 : decode cX4_harm 32 = .ok (.goto 4, 3) := by decide +kernel
theorem dX4_harm_35 : decode cX4_harm 35 = .ok (.iconst 0, 1) := by decide +kernel
theorem dX4_harm_36 : decode cX4_harm 36 = .ok (.ireturn, 1) := by decide +kernel
theorem dX4_undergo_0 : decode cX4_undergo 0 = .ok (.aload_n 0, 1) := by decide +kernel
theorem dX4_undergo_1 : decode cX4_undergo 1 = .ok (.invokevirtual 66, 3) := by decide +kernel
theorem dX4_undergo_4 : decode cX4_undergo 4 = .ok (.ifCond .eq 5, 3) := by decide +kernel
theorem dX4_undergo_7 : decode cX4_undergo 7 = .ok (.iconst 0, 1) := by decide +kernel
theorem dX4_undergo_8 : decode cX4_undergo 8 = .ok (.ireturn, 1) := by decide +kernel
theorem dX4_undergo_9 : decode cX4_undergo 9 = .ok (.aload_n 0, 1) := by decide +kernel
theorem dX4_undergo_10 : decode cX4_undergo 10 = .ok (.iload_n 1, 1) := by decide +kernel
theorem dX4_undergo_11 : decode cX4_undergo 11 = .ok (.iload_n 2, 1) := by decide +kernel
theorem dX4_undergo_12 : decode cX4_undergo 12 = .ok (.invokevirtual 70, 3) := by decide +kernel
theorem dX4_undergo_15 : decode cX4_undergo 15 = .ok (.istore_n 3, 1) := by decide +kernel
theorem dX4_undergo_16 : decode cX4_undergo 16 = .ok (.iload_n 3, 1) := by decide +kernel
theorem dX4_undergo_17 : decode cX4_undergo 17 = .ok (.ifCond .eq 10, 3) := by decide +kernel
theorem dX4_undergo_20 : decode cX4_undergo 20 = .ok (.aload_n 0, 1) := by decide +kernel
theorem dX4_undergo_21 : decode cX4_undergo 21 = .ok (.iload_n 3, 1) := by decide +kernel
theorem dX4_undergo_22 : decode cX4_undergo 22 = .ok (.putfield 24, 3) := by decide +kernel
theorem dX4_undergo_25 : decode cX4_undergo 25 = .ok (.iconst 1, 1) := by decide +kernel
theorem dX4_undergo_26 : decode cX4_undergo 26 = .ok (.ireturn, 1) := by decide +kernel
theorem dX4_undergo_27 : decode cX4_undergo 27 = .ok (.iload_n 2, 1) := by decide +kernel
theorem dX4_undergo_28 : decode cX4_undergo 28 = .ok (.aload_n 0, 1) := by decide +kernel
theorem dX4_undergo_29 : decode cX4_undergo 29 = .ok (.getfield 30, 3) := by decide +kernel
theorem dX4_undergo_32 : decode cX4_undergo 32 = .ok (.if_icmp .lt 34, 3) := by decide +kernel
theorem dX4_undergo_35 : decode cX4_undergo 35 = .ok (.aload_n 0, 1) := by decide +kernel
theorem dX4_undergo_36 : decode cX4_undergo 36 = .ok (.bipush 99, 2) := by decide +kernel
theorem dX4_undergo_38 : decode cX4_undergo 38 = .ok (.aload_n 0, 1) := by decide +kernel
theorem dX4_undergo_39 : decode cX4_undergo 39 = .ok (.getfield 21, 3) := by decide +kernel
theorem dX4_undergo_42 : decode cX4_undergo 42 = .ok (.iconst 1, 1) := by decide +kernel
theorem dX4_undergo_43 : decode cX4_undergo 43 = .ok (.iadd, 1) := by decide +kernel
theorem dX4_undergo_44 : decode cX4_undergo 44 = .ok (.invokestatic 73, 3) := by decide +kernel
theorem dX4_undergo_47 : decode cX4_undergo 47 = .ok (.putfield 21, 3) := by decide +kernel
theorem dX4_undergo_50 : decode cX4_undergo 50 = .ok (.aload_n 0, 1) := by decide +kernel
theorem dX4_undergo_51 : decode cX4_undergo 51 = .ok (.getfield 21, 3) := by decide +kernel
theorem dX4_undergo_54 : decode cX4_undergo 54 = .ok (.aload_n 0, 1) := by decide +kernel
theorem dX4_undergo_55 : decode cX4_undergo 55 = .ok (.getfield 33, 3) := by decide +kernel
theorem dX4_undergo_58 : decode cX4_undergo 58 = .ok (.if_icmp .lt 8, 3) := by decide +kernel
theorem dX4_undergo_61 : decode cX4_undergo 61 = .ok (.aload_n 0, 1) := by decide +kernel
theorem dX4_undergo_62 : decode cX4_undergo 62 = .ok (.iconst 1, 1) := by decide +kernel
theorem dX4_undergo_63 : decode cX4_undergo 63 = .ok (.putfield 24, 3) := by decide +kernel
theorem dX4_undergo_66 : decode cX4_undergo 66 = .ok (.iconst 0, 1) := by decide +kernel
theorem dX4_undergo_67 : decode cX4_undergo 67 = .ok (.ireturn, 1) := by decide +kernel
theorem dX5_init_0 : decode cX5_init 0 = .ok (.aload_n 0, 1) := by decide +kernel
theorem dX5_init_1 : decode cX5_init 1 = .ok (.invokespecial 3, 3) := by decide +kernel
theorem dX5_init_4 : decode cX5_init 4 = .ok (.aload_n 0, 1) := by decide +kernel
theorem dX5_init_5 : decode cX5_init 5 = .ok (.iconst 5, 1) := by decide +kernel
theorem dX5_init_6 : decode cX5_init 6 = .ok (.anewarray 9, 3) := by decide +kernel
theorem dX5_init_9 : decode cX5_init 9 = .ok (.putfield 11, 3) := by decide +kernel
theorem dX5_init_12 : decode cX5_init 12 = .ok (.aload_n 0, 1) := by decide +kernel
theorem dX5_init_13 : decode cX5_init 13 = .ok (.iconst 4, 1) := by decide +kernel
theorem dX5_init_14 : decode cX5_init 14 = .ok (.newarray .int, 2) := by decide +kernel
theorem dX5_init_16 : decode cX5_init 16 = .ok (.putfield 17, 3) := by decide +kernel
theorem dX5_init_19 : decode cX5_init 19 = .ok (.aload_n 0, 1) := by decide +kernel
theorem dX5_init_20 : decode cX5_init 20 = .ok (.iconst 4, 1) := by decide +kernel
theorem dX5_init_21 : decode cX5_init 21 = .ok (.newarray .int, 2) := by decide +kernel
theorem dX5_init_23 : decode cX5_init 23 = .ok (.putfield 21, 3) := by decide +kernel
theorem dX5_init_26 : decode cX5_init 26 = .ok (.aload_n 0, 1) := by decide +kernel
theorem dX5_init_27 : decode cX5_init 27 = .ok (.iconst (-1), 1) := by decide +kernel
theorem dX5_init_28 : decode cX5_init 28 = .ok (.putfield 24, 3) := by decide +kernel
theorem dX5_init_31 : decode cX5_init 31 = .ok (.aload_n 0, 1) := by decide +kernel
theorem dX5_init_32 : decode cX5_init 32 = .ok (.iconst 0, 1) := by decide +kernel
theorem dX5_init_33 : decode cX5_init 33 = .ok (.putfield 28, 3) := by decide +kernel
theorem dX5_init_36 : decode cX5_init 36 = .ok (.aload_n 0, 1) := by decide +kernel
theorem dX5_init_37 : decode cX5_init 37 = .ok (.iconst 0, 1) := by decide +kernel
theorem dX5_init_38 : decode cX5_init 38 = .ok (.putfield 31, 3) := by decide +kernel
theorem dX5_init_41 : decode cX5_init 41 = .ok (.iconst 0, 1) := by decide +kernel
theorem dX5_init_42 : decode cX5_init 42 = .ok (.istore_n 1, 1) := by decide +kernel
theorem dX5_init_43 : decode cX5_init 43 = .ok (.iload_n 1, 1) := by decide +kernel
theorem dX5_init_44 : decode cX5_init 44 = .ok (.iconst 4, 1) := by decide +kernel
theorem dX5_init_45 : decode cX5_init 45 = .ok (.if_icmp .gt 22, 3) := by decide +kernel
theorem dX5_init_48 : decode cX5_init 48 = .ok (.aload_n 0, 1) := by decide +kernel
theorem dX5_init_49 : decode cX5_init 49 = .ok (.getfield 11, 3) := by decide +kernel
theorem dX5_init_52 : decode cX5_init 52 = .ok (.iload_n 1, 1) := by decide +kernel
theorem dX5_init_53 : decode cX5_init 53 = .ok (.new 9, 3) := by decide +kernel
theorem dX5_init_56 : decode cX5_init 56 = .ok (.dup, 1) := by decide +kernel
theorem dX5_init_57 : decode cX5_init 57 = .ok (.invokespecial 34, 3) := by decide +kernel
theorem dX5_init_60 : decode cX5_init 60 = .ok (.aastore, 1) := by decide +kernel
theorem dX5_init_61 : decode cX5_init 61 = .ok (.iinc 1 1, 3) := by decide +kernel
theorem dX5_init_64 : decode cX5_init 64 = .ok (.goto (-21), 3) := by decide +kernel
theorem dX5_init_67 : decode cX5_init 67 = .ok (.return_, 1) := by decide +kernel
theorem dX5_seek_0 : decode cX5_seek 0 = .ok (.aload_n 0, 1) := by decide +kernel
theorem dX5_seek_1 : decode cX5_seek 1 = .ok (.iconst (-1), 1) := by decide +kernel
theorem dX5_seek_2 : decode cX5_seek 2 = .ok (.putfield 24, 3) := by decide +kernel
theorem dX5_seek_5 : decode cX5_seek 5 = .ok (.aload_n 0, 1) := by decide +kernel
theorem dX5_seek_6 : decode cX5_seek 6 = .ok (.iload_n 2, 1) := by decide +kernel
theorem dX5_seek_7 : decode cX5_seek 7 = .ok (.iconst 4, 1) := by decide +kernel
theorem dX5_seek_8 : decode cX5_seek 8 = .ok (.invokestatic 35, 3) := by decide +kernel
theorem dX5_seek_11 : decode cX5_seek 11 = .ok (.putfield 28, 3) := by decide +kernel
theorem dX5_seek_14 : decode cX5_seek 14 = .ok (.aload_n 0, 1) := by decide +kernel
theorem dX5_seek_15 : decode cX5_seek 15 = .ok (.iload_n 3, 1) := by decide +kernel
theorem dX5_seek_16 : decode cX5_seek 16 = .ok (.putfield 31, 3) := by decide +kernel
theorem dX5_seek_19 : decode cX5_seek 19 = .ok (.aload_n 1, 1) := by decide +kernel
theorem dX5_seek_20 : decode cX5_seek 20 = .ok (.invokevirtual 41, 3) := by decide +kernel
theorem dX5_seek_23 : decode cX5_seek 23 = .ok (.ifCond .ne 28, 3) := by decide +kernel
theorem dX5_seek_26 : decode cX5_seek 26 = .ok (.aload_n 0, 1) := by decide +kernel
theorem dX5_seek_27 : decode cX5_seek 27 = .ok (.getfield 11, 3) := by decide +kernel
theorem dX5_seek_30 : decode cX5_seek 30 = .ok (.iconst 0, 1) := by decide +kernel
theorem dX5_seek_31 : decode cX5_seek 31 = .ok (.aaload, 1) := by decide +kernel
theorem dX5_seek_32 : decode cX5_seek 32 = .ok (.aload_n 1, 1) := by decide +kernel
theorem dX5_seek_33 : decode cX5_seek 33 = .ok (.invokevirtual 45, 3) := by decide +kernel
theorem dX5_seek_36 : decode cX5_seek 36 = .ok (.aload_n 0, 1) := by decide +kernel
theorem dX5_seek_37 : decode cX5_seek 37 = .ok (.getfield 11, 3) := by decide +kernel
theorem dX5_seek_40 : decode cX5_seek 40 = .ok (.iconst 0, 1) := by decide +kernel
theorem dX5_seek_41 : decode cX5_seek 41 = .ok (.aaload, 1) := by decide +kernel
theorem dX5_seek_42 : decode cX5_seek 42 = .ok (.iconst 0, 1) := by decide +kernel
theorem dX5_seek_43 : decode cX5_seek 43 = .ok (.putfield 49, 3) := by decide +kernel
theorem dX5_seek_46 : decode cX5_seek 46 = .ok (.aload_n 0, 1) := by decide +kernel
theorem dX5_seek_47 : decode cX5_seek 47 = .ok (.iconst 0, 1) := by decide +kernel
theorem dX5_seek_48 : decode cX5_seek 48 = .ok (.invokevirtual 52, 3) := by decide +kernel
theorem dX5_seek_51 : decode cX5_seek 51 = .ok (.return_, 1) := by decide +kernel
theorem dX5_addLegBehind_0 : decode cX5_addLegBehind 0 = .ok (.iload_n 1, 1) := by decide +kernel
theorem dX5_addLegBehind_1 : decode cX5_addLegBehind 1 = .ok (.aload_n 0, 1) := by decide +kernel
theorem dX5_addLegBehind_2 : decode cX5_addLegBehind 2 = .ok (.getfield 28, 3) := by decide +kernel
theorem dX5_addLegBehind_5 : decode cX5_addLegBehind 5 = .ok (.if_icmp .lt 29, 3) := by decide +kernel
theorem dX5_addLegBehind_8 : decode cX5_addLegBehind 8 = .ok (.aload_n 0, 1) := by decide +kernel
theorem dX5_addLegBehind_9 : decode cX5_addLegBehind 9 = .ok (.getfield 11, 3) := by decide +kernel
theorem dX5_addLegBehind_12 : decode cX5_addLegBehind 12 = .ok (.iload_n 1, 1) := by decide +kernel
theorem dX5_addLegBehind_13 : decode cX5_addLegBehind 13 = .ok (.aaload, 1) := by decide +kernel
theorem dX5_addLegBehind_14 : decode cX5_addLegBehind 14 = .ok (.invokevirtual 56, 3) := by decide +kernel
theorem dX5_addLegBehind_17 : decode cX5_addLegBehind 17 = .ok (.ifCond .eq 16, 3) := by decide +kernel
theorem dX5_addLegBehind_20 : decode cX5_addLegBehind 20 = .ok (.aload_n 0, 1) := by decide +kernel
theorem dX5_addLegBehind_21 : decode cX5_addLegBehind 21 = .ok (.aload_n 0, 1) := by decide +kernel
theorem dX5_addLegBehind_22 : decode cX5_addLegBehind 22 = .ok (.getfield 11, 3) := by decide +kernel
theorem dX5_addLegBehind_25 : decode cX5_addLegBehind 25 = .ok (.iload_n 1, 1) := by decide +kernel
theorem dX5_addLegBehind_26 : decode cX5_addLegBehind 26 = .ok (.aaload, 1) := by decide +kernel
theorem dX5_addLegBehind_27 : decode cX5_addLegBehind 27 = .ok (.getfield 49, 3) := by decide +kernel
theorem dX5_addLegBehind_30 : decode cX5_addLegBehind 30 = .ok (.invokevirtual 60, 3) := by decide +kernel
theorem dX5_addLegBehind_33 : decode cX5_addLegBehind 33 = .ok (.return_, 1) := by decide +kernel
theorem dX5_addLegBehind_34 : decode cX5_addLegBehind 34 = .ok (.iconst 0, 1) := by decide +kernel
theorem dX5_addLegBehind_35 : decode cX5_addLegBehind 35 = .ok (.istore_n 2, 1) := by decide +kernel
theorem dX5_addLegBehind_36 : decode cX5_addLegBehind 36 = .ok (.iload_n 2, 1) := by decide +kernel
theorem dX5_addLegBehind_37 : decode cX5_addLegBehind 37 = .ok (.iconst 4, 1) := by decide +kernel
theorem dX5_addLegBehind_38 : decode cX5_addLegBehind 38 = .ok (.if_icmp .ge 71, 3) := by decide +kernel
theorem dX5_addLegBehind_41 : decode cX5_addLegBehind 41 = .ok (.aload_n 0, 1) := by decide +kernel
theorem dX5_addLegBehind_42 : decode cX5_addLegBehind 42 = .ok (.getfield 11, 3) := by decide +kernel
theorem dX5_addLegBehind_45 : decode cX5_addLegBehind 45 = .ok (.iload_n 1, 1) := by decide +kernel
theorem dX5_addLegBehind_46 : decode cX5_addLegBehind 46 = .ok (.aaload, 1) := by decide +kernel
theorem dX5_addLegBehind_47 : decode cX5_addLegBehind 47 = .ok (.getfield 49, 3) := by decide +kernel
theorem dX5_addLegBehind_50 : decode cX5_addLegBehind 50 = .ok (.iconst 3, 1) := by decide +kernel
theorem dX5_addLegBehind_51 : decode cX5_addLegBehind 51 = .ok (.iload_n 2, 1) := by decide +kernel
theorem dX5_addLegBehind_52 : decode cX5_addLegBehind 52 = .ok (.invokestatic 63, 3) := by decide +kernel
theorem dX5_addLegBehind_55 : decode cX5_addLegBehind 55 = .ok (.imul, 1) := by decide +kernel
theorem dX5_addLegBehind_56 : decode cX5_addLegBehind 56 = .ok (.aload_n 0, 1) := by decide +kernel
theorem dX5_addLegBehind_57 : decode cX5_addLegBehind 57 = .ok (.getfield 31, 3) := by decide +kernel
theorem dX5_addLegBehind_60 : decode cX5_addLegBehind 60 = .ok (.imul, 1) := by decide +kernel
theorem dX5_addLegBehind_61 : decode cX5_addLegBehind 61 = .ok (.iadd, 1) := by decide +kernel
theorem dX5_addLegBehind_62 : decode cX5_addLegBehind 62 = .ok (.istore_n 3, 1) := by decide +kernel
theorem dX5_addLegBehind_63 : decode cX5_addLegBehind 63 = .ok (.aload_n 0, 1) := by decide +kernel
theorem dX5_addLegBehind_64 : decode cX5_addLegBehind 64 = .ok (.getfield 24, 3) := by decide +kernel
theorem dX5_addLegBehind_67 : decode cX5_addLegBehind 67 = .ok (.iconst (-1), 1) := by decide +kernel
theorem dX5_addLegBehind_68 : decode cX5_addLegBehind 68 = .ok (.if_icmp .eq 12, 3) := by decide +kernel
theorem dX5_addLegBehind_71 : decode cX5_addLegBehind 71 = .ok (.iload_n 3, 1) := by decide +kernel
theorem dX5_addLegBehind_72 : decode cX5_addLegBehind 72 = .ok (.aload_n 0, 1) := by decide +kernel
theorem dX5_addLegBehind_73 : decode cX5_addLegBehind 73 = .ok (.getfield 24, 3) := by decide +kernel
theorem dX5_addLegBehind_76 : decode cX5_addLegBehind 76 = .ok (.if_icmp .lt 4, 3) := by decide +kernel
theorem dX5_addLegBehind_79 : decode cX5_addLegBehind 79 = .ok (.return_, 1) := by decide +kernel
theorem dX5_addLegBehind_80 : decode cX5_addLegBehind 80 = .ok (.aload_n 0, 1) := by decide +kernel
theorem dX5_addLegBehind_81 : decode cX5_addLegBehind 81 = .ok (.getfield 17, 3) := by decide +kernel
theorem dX5_addLegBehind_84 : decode cX5_addLegBehind 84 = .ok (.iload_n 1, 1) := by decide +kernel
theorem dX5_addLegBehind_85 : decode cX5_addLegBehind 85 = .ok (.iload_n 2, 1) := by decide +kernel
theorem dX5_addLegBehind_86 : decode cX5_addLegBehind 86 = .ok (.iastore, 1) := by decide +kernel
theorem dX5_addLegBehind_87 : decode cX5_addLegBehind 87 = .ok (.aload_n 0, 1) := by decide +kernel
theorem dX5_addLegBehind_88 : decode cX5_addLegBehind 88 = .ok (.iload_n 1, 1) := by decide +kernel
theorem dX5_addLegBehind_89 : decode cX5_addLegBehind 89 = .ok (.iload_n 2, 1) := by decide +kernel
theorem dX5_addLegBehind_90 : decode cX5_addLegBehind 90 = .ok (.invokevirtual 69, 3) := by decide +kernel
theorem dX5_addLegBehind_93 : decode cX5_addLegBehind 93 = .ok (.ifCond .eq 10, 3) := by decide +kernel
theorem dX5_addLegBehind_96 : decode cX5_addLegBehind 96 = .ok (.aload_n 0, 1) := by decide +kernel
theorem dX5_addLegBehind_97 : decode cX5_addLegBehind 97 = .ok (.iload_n 1, 1) := by decide +kernel
theorem dX5_addLegBehind_98 : decode cX5_addLegBehind 98 = .ok (.iconst 1, 1) := by decide +kernel
theorem dX5_addLegBehind_99 : decode cX5_addLegBehind 99 = .ok (.iadd, 1) := by decide +kernel
theorem dX5_addLegBehind_100 : decode cX5_addLegBehind 100 = .ok (.invokevirtual 52, 3) := by decide +kernel
theorem dX5_addLegBehind_103 : decode cX5_addLegBehind 103 = .ok (.iinc 2 1, 3) := by decide +kernel
theorem dX5_addLegBehind_106 : decode cX5_addLegBehind 106 = .ok (.goto (-70), 3) := by decide +kernel
theorem dX5_addLegBehind_109 : decode cX5_addLegBehind 109 = .ok (.return_, 1) := by decide +kernel
theorem dX5_goLeg_0 : decode cX5_goLeg 0 = .ok (.aload_n 0, 1) := by decide +kernel
theorem dX5_goLeg_1 : decode cX5_goLeg 1 = .ok (.getfield 11, 3) := by decide +kernel
theorem dX5_goLeg_4 : decode cX5_goLeg 4 = .ok (.iload_n 1, 1) := by decide +kernel
theorem dX5_goLeg_5 : decode cX5_goLeg 5 = .ok (.iconst 1, 1) := by decide +kernel
theorem dX5_goLeg_6 : decode cX5_goLeg 6 = .ok (.iadd, 1) := by decide +kernel
theorem dX5_goLeg_7 : decode cX5_goLeg 7 = .ok (.aaload, 1) := by decide +kernel
theorem dX5_goLeg_8 : decode cX5_goLeg 8 = .ok (.astore_n 3, 1) := by decide +kernel
theorem dX5_goLeg_9 : decode cX5_goLeg 9 = .ok (.aload_n 3, 1) := by decide +kernel
theorem dX5_goLeg_10 : decode cX5_goLeg 10 = .ok (.aload_n 0, 1) := by decide +kernel
theorem dX5_goLeg_11 : decode cX5_goLeg 11 = .ok (.getfield 11, 3) := by decide +kernel
theorem dX5_goLeg_14 : decode cX5_goLeg 14 = .ok (.iload_n 1, 1) := by decide +kernel
theorem dX5_goLeg_15 : decode cX5_goLeg 15 = .ok (.aaload, 1) := by decide +kernel
theorem dX5_goLeg_16 : decode cX5_goLeg 16 = .ok (.invokevirtual 45, 3) := by decide +kernel
theorem dX5_goLeg_19 : decode cX5_goLeg 19 = .ok (.iconst 0, 1) := by decide +kernel
theorem dX5_goLeg_20 : decode cX5_goLeg 20 = .ok (.istore 4, 2) := by decide +kernel
theorem dX5_goLeg_22 : decode cX5_goLeg 22 = .ok (.iload 4, 2) := by decide +kernel
theorem dX5_goLeg_24 : decode cX5_goLeg 24 = .ok (.iconst 3, 1) := by decide +kernel
theorem dX5_goLeg_25 : decode cX5_goLeg 25 = .ok (.if_icmp .ge 17, 3) := by decide +kernel
theorem dX5_goLeg_28 : decode cX5_goLeg 28 = .ok (.aload_n 3, 1) := by decide +kernel
theorem dX5_goLeg_29 : decode cX5_goLeg 29 = .ok (.getfield 73, 3) := by decide +kernel
theorem dX5_goLeg_32 : decode cX5_goLeg 32 = .ok (.iload 4, 2) := by decide +kernel
theorem dX5_goLeg_34 : decode cX5_goLeg 34 = .ok (.iload_n 2, 1) := by decide +kernel
theorem dX5_goLeg_35 : decode cX5_goLeg 35 = .ok (.iastore, 1) := by decide +kernel
theorem dX5_goLeg_36 : decode cX5_goLeg 36 = .ok (.iinc 4 1, 3) := by decide +kernel
theorem dX5_goLeg_39 : decode cX5_goLeg 39 = .ok (.goto (-17), 3) := by decide +kernel
theorem dX5_goLeg_42 : decode cX5_goLeg 42 = .ok (.iconst 0, 1) := by decide +kernel
theorem dX5_goLeg_43 : decode cX5_goLeg 43 = .ok (.istore 4, 2) := by decide +kernel
theorem dX5_goLeg_45 : decode cX5_goLeg 45 = .ok (.iload 4, 2) := by decide +kernel
theorem dX5_goLeg_47 : decode cX5_goLeg 47 = .ok (.aload_n 0, 1) := by decide +kernel
theorem dX5_goLeg_48 : decode cX5_goLeg 48 = .ok (.getfield 31, 3) := by decide +kernel
theorem dX5_goLeg_51 : decode cX5_goLeg 51 = .ok (.if_icmp .ge 18, 3) := by decide +kernel
theorem dX5_goLeg_54 : decode cX5_goLeg 54 = .ok (.aload_n 3, 1) := by decide +kernel
theorem dX5_goLeg_55 : decode cX5_goLeg 55 = .ok (.invokevirtual 76, 3) := by decide +kernel
theorem dX5_goLeg_58 : decode cX5_goLeg 58 = .ok (.ifCond .eq 5, 3) := by decide +kernel
theorem dX5_goLeg_61 : decode cX5_goLeg 61 = .ok (.iconst 0, 1) := by decide +kernel
theorem dX5_goLeg_62 : decode cX5_goLeg 62 = .ok (.ireturn, 1) := by decide +kernel
theorem dX5_goLeg_63 : decode cX5_goLeg 63 = .ok (.iinc 4 1, 3) := by decide +kernel
theorem dX5_goLeg_66 : decode cX5_goLeg 66 = .ok (.goto (-21), 3) := by decide +kernel
theorem dX5_goLeg_69 : decode cX5_goLeg 69 = .ok (.iconst 1, 1) := by decide +kernel
theorem dX5_goLeg_70 : decode cX5_goLeg 70 = .ok (.ireturn, 1) := by decide +kernel
theorem dX5_keepRow_0 : decode cX5_keepRow 0 = .ok (.aload_n 0, 1) := by decide +kernel
theorem dX5_keepRow_1 : decode cX5_keepRow 1 = .ok (.iload_n 1, 1) := by decide +kernel
theorem dX5_keepRow_2 : decode cX5_keepRow 2 = .ok (.putfield 24, 3) := by decide +kernel
theorem dX5_keepRow_5 : decode cX5_keepRow 5 = .ok (.iconst 0, 1) := by decide +kernel
theorem dX5_keepRow_6 : decode cX5_keepRow 6 = .ok (.istore_n 2, 1) := by decide +kernel
theorem dX5_keepRow_7 : decode cX5_keepRow 7 = .ok (.iload_n 2, 1) := by decide +kernel
theorem dX5_keepRow_8 : decode cX5_keepRow 8 = .ok (.aload_n 0, 1) := by decide +kernel
theorem dX5_keepRow_9 : decode cX5_keepRow 9 = .ok (.getfield 28, 3) := by decide +kernel
theorem dX5_keepRow_12 : decode cX5_keepRow 12 = .ok (.if_icmp .ge 21, 3) := by decide +kernel
theorem dX5_keepRow_15 : decode cX5_keepRow 15 = .ok (.aload_n 0, 1) := by decide +kernel
theorem dX5_keepRow_16 : decode cX5_keepRow 16 = .ok (.getfield 21, 3) := by decide +kernel
theorem dX5_keepRow_19 : decode cX5_keepRow 19 = .ok (.iload_n 2, 1) := by decide +kernel
theorem dX5_keepRow_20 : decode cX5_keepRow 20 = .ok (.aload_n 0, 1) := by decide +kernel
theorem dX5_keepRow_21 : decode cX5_keepRow 21 = .ok (.getfield 17, 3) := by decide +kernel
theorem dX5_keepRow_24 : decode cX5_keepRow 24 = .ok (.iload_n 2, 1) := by decide +kernel
theorem dX5_keepRow_25 : decode cX5_keepRow 25 = .ok (.iaload, 1) := by decide +kernel
theorem dX5_keepRow_26 : decode cX5_keepRow 26 = .ok (.iastore, 1) := by decide +kernel
theorem dX5_keepRow_27 : decode cX5_keepRow 27 = .ok (.iinc 2 1, 3) := by decide +kernel
theorem dX5_keepRow_30 : decode cX5_keepRow 30 = .ok (.goto (-23), 3) := by decide +kernel
theorem dX5_keepRow_33 : decode cX5_keepRow 33 = .ok (.return_, 1) := by decide +kernel
theorem dX5_digits_0 : decode cX5_digits 0 = .ok (.iconst 0, 1) := by decide +kernel
theorem dX5_digits_1 : decode cX5_digits 1 = .ok (.istore_n 1, 1) := by decide +kernel
theorem dX5_digits_2 : decode cX5_digits 2 = .ok (.iconst 0, 1) := by decide +kernel
theorem dX5_digits_3 : decode cX5_digits 3 = .ok (.istore_n 2, 1) := by decide +kernel
theorem dX5_digits_4 : decode cX5_digits 4 = .ok (.iload_n 2, 1) := by decide +kernel
theorem dX5_digits_5 : decode cX5_digits 5 = .ok (.aload_n 0, 1) := by decide +kernel
theorem dX5_digits_6 : decode cX5_digits 6 = .ok (.getfield 28, 3) := by decide +kernel
theorem dX5_digits_9 : decode cX5_digits 9 = .ok (.if_icmp .ge 21, 3) := by decide +kernel
theorem dX5_digits_12 : decode cX5_digits 12 = .ok (.iload_n 1, 1) := by decide +kernel
theorem dX5_digits_13 : decode cX5_digits 13 = .ok (.bipush 10, 2) := by decide +kernel
theorem dX5_digits_15 : decode cX5_digits 15 = .ok (.imul, 1) := by decide +kernel
theorem dX5_digits_16 : decode cX5_digits 16 = .ok (.aload_n 0, 1) := by decide +kernel
theorem dX5_digits_17 : decode cX5_digits 17 = .ok (.getfield 21, 3) := by decide +kernel
theorem dX5_digits_20 : decode cX5_digits 20 = .ok (.iload_n 2, 1) := by decide +kernel
theorem dX5_digits_21 : decode cX5_digits 21 = .ok (.iaload, 1) := by decide +kernel
theorem dX5_digits_22 : decode cX5_digits 22 = .ok (.iadd, 1) := by decide +kernel
theorem dX5_digits_23 : decode cX5_digits 23 = .ok (.istore_n 1, 1) := by decide +kernel
theorem dX5_digits_24 : decode cX5_digits 24 = .ok (.iinc 2 1, 3) := by decide +kernel
theorem dX5_digits_27 : decode cX5_digits 27 = .ok (.goto (-23), 3) := by decide +kernel
theorem dX5_digits_30 : decode cX5_digits 30 = .ok (.iload_n 1, 1) := by decide +kernel
theorem dX5_digits_31 : decode cX5_digits 31 = .ok (.ireturn, 1) := by decide +kernel
theorem dX6_init_0 : decode cX6_init 0 = .ok (.aload_n 0, 1) := by decide +kernel
theorem dX6_init_1 : decode cX6_init 1 = .ok (.invokespecial 3, 3) := by decide +kernel
theorem dX6_init_4 : decode cX6_init 4 = .ok (.aload_n 0, 1) := by decide +kernel
theorem dX6_init_5 : decode cX6_init 5 = .ok (.bipush 120, 2) := by decide +kernel
theorem dX6_init_7 : decode cX6_init 7 = .ok (.newarray .byte, 2) := by decide +kernel
theorem dX6_init_9 : decode cX6_init 9 = .ok (.putfield 9, 3) := by decide +kernel
theorem dX6_init_12 : decode cX6_init 12 = .ok (.aload_n 0, 1) := by decide +kernel
theorem dX6_init_13 : decode cX6_init 13 = .ok (.iconst 0, 1) := by decide +kernel
theorem dX6_init_14 : decode cX6_init 14 = .ok (.putfield 15, 3) := by decide +kernel
theorem dX6_init_17 : decode cX6_init 17 = .ok (.return_, 1) := by decide +kernel
theorem dX6_show_0 : decode cX6_show 0 = .ok (.aload_n 0, 1) := by decide +kernel
theorem dX6_show_1 : decode cX6_show 1 = .ok (.iconst 0, 1) := by decide +kernel
theorem dX6_show_2 : decode cX6_show 2 = .ok (.putfield 15, 3) := by decide +kernel
theorem dX6_show_5 : decode cX6_show 5 = .ok (.iconst 0, 1) := by decide +kernel
theorem dX6_show_6 : decode cX6_show 6 = .ok (.istore_n 2, 1) := by decide +kernel
theorem dX6_show_7 : decode cX6_show 7 = .ok (.iload_n 2, 1) := by decide +kernel
theorem dX6_show_8 : decode cX6_show 8 = .ok (.aload_n 1, 1) := by decide +kernel
theorem dX6_show_9 : decode cX6_show 9 = .ok (.getfield 19, 3) := by decide +kernel
theorem dX6_show_12 : decode cX6_show 12 = .ok (.if_icmp .ge 25, 3) := by decide +kernel
theorem dX6_show_15 : decode cX6_show 15 = .ok (.iload_n 2, 1) := by decide +kernel
theorem dX6_show_16 : decode cX6_show 16 = .ok (.ifCond .le 9, 3) := by decide +kernel
theorem dX6_show_19 : decode cX6_show 19 = .ok (.aload_n 0, 1) := by decide +kernel
theorem dX6_show_20 : decode cX6_show 20 = .ok (.bipush 59, 2) := by decide +kernel
theorem dX6_show_22 : decode cX6_show 22 = .ok (.invokevirtual 24, 3) := by decide +kernel
theorem dX6_show_25 : decode cX6_show 25 = .ok (.aload_n 0, 1) := by decide +kernel
theorem dX6_show_26 : decode cX6_show 26 = .ok (.aload_n 1, 1) := by decide +kernel
theorem dX6_show_27 : decode cX6_show 27 = .ok (.iload_n 2, 1) := by decide +kernel
theorem dX6_show_28 : decode cX6_show 28 = .ok (.invokevirtual 28, 3) := by decide +kernel
theorem dX6_show_31 : decode cX6_show 31 = .ok (.iinc 2 1, 3) := by decide +kernel
theorem dX6_show_34 : decode cX6_show 34 = .ok (.goto (-27), 3) := by decide +kernel
theorem dX6_show_37 : decode cX6_show 37 = .ok (.return_, 1) := by decide +kernel
theorem dX6_showLeg_0 : decode cX6_showLeg 0 = .ok (.aload_n 0, 1) := by decide +kernel
theorem dX6_showLeg_1 : decode cX6_showLeg 1 = .ok (.aload_n 1, 1) := by decide +kernel
theorem dX6_showLeg_2 : decode cX6_showLeg 2 = .ok (.iload_n 2, 1) := by decide +kernel
theorem dX6_showLeg_3 : decode cX6_showLeg 3 = .ok (.iconst 0, 1) := by decide +kernel
theorem dX6_showLeg_4 : decode cX6_showLeg 4 = .ok (.invokevirtual 32, 3) := by decide +kernel
theorem dX6_showLeg_7 : decode cX6_showLeg 7 = .ok (.invokestatic 36, 3) := by decide +kernel
theorem dX6_showLeg_10 : decode cX6_showLeg 10 = .ok (.invokevirtual 42, 3) := by decide +kernel
theorem dX6_showLeg_13 : decode cX6_showLeg 13 = .ok (.aload_n 1, 1) := by decide +kernel
theorem dX6_showLeg_14 : decode cX6_showLeg 14 = .ok (.iload_n 2, 1) := by decide +kernel
theorem dX6_showLeg_15 : decode cX6_showLeg 15 = .ok (.invokevirtual 46, 3) := by decide +kernel
theorem dX6_showLeg_18 : decode cX6_showLeg 18 = .ok (.ifCond .ne 41, 3) := by decide +kernel
theorem dX6_showLeg_21 : decode cX6_showLeg 21 = .ok (.aload_n 0, 1) := by decide +kernel
theorem dX6_showLeg_22 : decode cX6_showLeg 22 = .ok (.bipush 47, 2) := by decide +kernel
theorem dX6_showLeg_24 : decode cX6_showLeg 24 = .ok (.invokevirtual 24, 3) := by decide +kernel
theorem dX6_showLeg_27 : decode cX6_showLeg 27 = .ok (.aload_n 0, 1) := by decide +kernel
theorem dX6_showLeg_28 : decode cX6_showLeg 28 = .ok (.aload_n 1, 1) := by decide +kernel
theorem dX6_showLeg_29 : decode cX6_showLeg 29 = .ok (.iload_n 2, 1) := by decide +kernel
theorem dX6_showLeg_30 : decode cX6_showLeg 30 = .ok (.iconst 1, 1) := by decide +kernel
theorem dX6_showLeg_31 : decode cX6_showLeg 31 = .ok (.invokevirtual 32, 3) := by decide +kernel
theorem dX6_showLeg_34 : decode cX6_showLeg 34 = .ok (.invokestatic 36, 3) := by decide +kernel
theorem dX6_showLeg_37 : decode cX6_showLeg 37 = .ok (.invokevirtual 42, 3) := by decide +kernel
theorem dX6_showLeg_40 : decode cX6_showLeg 40 = .ok (.aload_n 0, 1) := by decide +kernel
theorem dX6_showLeg_41 : decode cX6_showLeg 41 = .ok (.bipush 47, 2) := by decide +kernel
theorem dX6_showLeg_43 : decode cX6_showLeg 43 = .ok (.invokevirtual 24, 3) := by decide +kernel
theorem dX6_showLeg_46 : decode cX6_showLeg 46 = .ok (.aload_n 0, 1) := by decide +kernel
theorem dX6_showLeg_47 : decode cX6_showLeg 47 = .ok (.aload_n 1, 1) := by decide +kernel
theorem dX6_showLeg_48 : decode cX6_showLeg 48 = .ok (.iload_n 2, 1) := by decide +kernel
theorem dX6_showLeg_49 : decode cX6_showLeg 49 = .ok (.iconst 2, 1) := by decide +kernel
theorem dX6_showLeg_50 : decode cX6_showLeg 50 = .ok (.invokevirtual 32, 3) := by decide +kernel
theorem dX6_showLeg_53 : decode cX6_showLeg 53 = .ok (.invokestatic 36, 3) := by decide +kernel
theorem dX6_showLeg_56 : decode cX6_showLeg 56 = .ok (.invokevirtual 42, 3) := by decide +kernel
theorem dX6_showLeg_59 : decode cX6_showLeg 59 = .ok (.aload_n 1, 1) := by decide +kernel
theorem dX6_showLeg_60 : decode cX6_showLeg 60 = .ok (.getfield 50, 3) := by decide +kernel
