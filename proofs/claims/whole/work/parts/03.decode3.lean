theorem dX10_doneBits_31 : decode cX10_doneBits 31 = .ok (.istore_n 1, 1) := by decide +kernel
theorem dX10_doneBits_32 : decode cX10_doneBits 32 = .ok (.iinc 2 1, 3) := by decide +kernel
theorem dX10_doneBits_35 : decode cX10_doneBits 35 = .ok (.goto (-31), 3) := by decide +kernel
theorem dX10_doneBits_38 : decode cX10_doneBits 38 = .ok (.iload_n 1, 1) := by decide +kernel
theorem dX10_doneBits_39 : decode cX10_doneBits 39 = .ok (.ireturn, 1) := by decide +kernel
theorem dX10_spoiledBits_0 : decode cX10_spoiledBits 0 = .ok (.iconst 0, 1) := by decide +kernel
theorem dX10_spoiledBits_1 : decode cX10_spoiledBits 1 = .ok (.istore_n 1, 1) := by decide +kernel
theorem dX10_spoiledBits_2 : decode cX10_spoiledBits 2 = .ok (.iconst 0, 1) := by decide +kernel
theorem dX10_spoiledBits_3 : decode cX10_spoiledBits 3 = .ok (.istore_n 2, 1) := by decide +kernel
theorem dX10_spoiledBits_4 : decode cX10_spoiledBits 4 = .ok (.iload_n 2, 1) := by decide +kernel
theorem dX10_spoiledBits_5 : decode cX10_spoiledBits 5 = .ok (.aload_n 0, 1) := by decide +kernel
theorem dX10_spoiledBits_6 : decode cX10_spoiledBits 6 = .ok (.getfield 86, 3) := by decide +kernel
theorem dX10_spoiledBits_9 : decode cX10_spoiledBits 9 = .ok (.if_icmp .ge 27, 3) := by decide +kernel
theorem dX10_spoiledBits_12 : decode cX10_spoiledBits 12 = .ok (.iload_n 1, 1) := by decide +kernel
theorem dX10_spoiledBits_13 : decode cX10_spoiledBits 13 = .ok (.aload_n 0, 1) := by decide +kernel
theorem dX10_spoiledBits_14 : decode cX10_spoiledBits 14 = .ok (.iload_n 2, 1) := by decide +kernel
theorem dX10_spoiledBits_15 : decode cX10_spoiledBits 15 = .ok (.invokevirtual 127, 3) := by decide +kernel
theorem dX10_spoiledBits_18 : decode cX10_spoiledBits 18 = .ok (.ifCond .eq 9, 3) := by decide +kernel
theorem dX10_spoiledBits_21 : decode cX10_spoiledBits 21 = .ok (.iconst 1, 1) := by decide +kernel
theorem dX10_spoiledBits_22 : decode cX10_spoiledBits 22 = .ok (.iload_n 2, 1) := by decide +kernel
theorem dX10_spoiledBits_23 : decode cX10_spoiledBits 23 = .ok (.ishl, 1) := by decide +kernel
theorem dX10_spoiledBits_24 : decode cX10_spoiledBits 24 = .ok (.goto 4, 3) := by decide +kernel
theorem dX10_spoiledBits_27 : decode cX10_spoiledBits 27 = .ok (.iconst 0, 1) := by decide +kernel
theorem dX10_spoiledBits_28 : decode cX10_spoiledBits 28 = .ok (.ior, 1) := by decide +kernel
theorem dX10_spoiledBits_29 : decode cX10_spoiledBits 29 = .ok (.istore_n 1, 1) := by decide +kernel
theorem dX10_spoiledBits_30 : decode cX10_spoiledBits 30 = .ok (.iinc 2 1, 3) := by decide +kernel
theorem dX10_spoiledBits_33 : decode cX10_spoiledBits 33 = .ok (.goto (-29), 3) := by decide +kernel
theorem dX10_spoiledBits_36 : decode cX10_spoiledBits 36 = .ok (.iload_n 1, 1) := by decide +kernel
theorem dX10_spoiledBits_37 : decode cX10_spoiledBits 37 = .ok (.ireturn, 1) := by decide +kernel
theorem dX10_areDone_0 : decode cX10_areDone 0 = .ok (.aload_n 0, 1) := by decide +kernel
theorem dX10_areDone_1 : decode cX10_areDone 1 = .ok (.invokevirtual 147, 3) := by decide +kernel
theorem dX10_areDone_4 : decode cX10_areDone 4 = .ok (.iconst 1, 1) := by decide +kernel
theorem dX10_areDone_5 : decode cX10_areDone 5 = .ok (.aload_n 0, 1) := by decide +kernel
theorem dX10_areDone_6 : decode cX10_areDone 6 = .ok (.getfield 86, 3) := by decide +kernel
theorem dX10_areDone_9 : decode cX10_areDone 9 = .ok (.ishl, 1) := by decide +kernel
theorem dX10_areDone_10 : decode cX10_areDone 10 = .ok (.iconst 1, 1) := by decide +kernel
theorem dX10_areDone_11 : decode cX10_areDone 11 = .ok (.isub, 1) := by decide +kernel
theorem dX10_areDone_12 : decode cX10_areDone 12 = .ok (.if_icmp .ne 7, 3) := by decide +kernel
theorem dX10_areDone_15 : decode cX10_areDone 15 = .ok (.iconst 1, 1) := by decide +kernel
theorem dX10_areDone_16 : decode cX10_areDone 16 = .ok (.goto 4, 3) := by decide +kernel
theorem dX10_areDone_19 : decode cX10_areDone 19 = .ok (.iconst 0, 1) := by decide +kernel
theorem dX10_areDone_20 : decode cX10_areDone 20 = .ok (.ireturn, 1) := by decide +kernel
theorem dX10_keepsNow_0 : decode cX10_keepsNow 0 = .ok (.iconst 0, 1) := by decide +kernel
theorem dX10_keepsNow_1 : decode cX10_keepsNow 1 = .ok (.istore_n 1, 1) := by decide +kernel
theorem dX10_keepsNow_2 : decode cX10_keepsNow 2 = .ok (.iload_n 1, 1) := by decide +kernel
theorem dX10_keepsNow_3 : decode cX10_keepsNow 3 = .ok (.iconst 3, 1) := by decide +kernel
theorem dX10_keepsNow_4 : decode cX10_keepsNow 4 = .ok (.if_icmp .ge 33, 3) := by decide +kernel
theorem dX10_keepsNow_7 : decode cX10_keepsNow 7 = .ok (.aload_n 0, 1) := by decide +kernel
theorem dX10_keepsNow_8 : decode cX10_keepsNow 8 = .ok (.getfield 58, 3) := by decide +kernel
theorem dX10_keepsNow_11 : decode cX10_keepsNow 11 = .ok (.iload_n 1, 1) := by decide +kernel
theorem dX10_keepsNow_12 : decode cX10_keepsNow 12 = .ok (.aload_n 0, 1) := by decide +kernel
theorem dX10_keepsNow_13 : decode cX10_keepsNow 13 = .ok (.getfield 7, 3) := by decide +kernel
theorem dX10_keepsNow_16 : decode cX10_keepsNow 16 = .ok (.iload_n 1, 1) := by decide +kernel
theorem dX10_keepsNow_17 : decode cX10_keepsNow 17 = .ok (.iaload, 1) := by decide +kernel
theorem dX10_keepsNow_18 : decode cX10_keepsNow 18 = .ok (.iastore, 1) := by decide +kernel
theorem dX10_keepsNow_19 : decode cX10_keepsNow 19 = .ok (.aload_n 0, 1) := by decide +kernel
theorem dX10_keepsNow_20 : decode cX10_keepsNow 20 = .ok (.getfield 61, 3) := by decide +kernel
theorem dX10_keepsNow_23 : decode cX10_keepsNow 23 = .ok (.iload_n 1, 1) := by decide +kernel
theorem dX10_keepsNow_24 : decode cX10_keepsNow 24 = .ok (.aload_n 0, 1) := by decide +kernel
theorem dX10_keepsNow_25 : decode cX10_keepsNow 25 = .ok (.getfield 13, 3) := by decide +kernel
theorem dX10_keepsNow_28 : decode cX10_keepsNow 28 = .ok (.iload_n 1, 1) := by decide +kernel
theorem dX10_keepsNow_29 : decode cX10_keepsNow 29 = .ok (.iaload, 1) := by decide +kernel
theorem dX10_keepsNow_30 : decode cX10_keepsNow 30 = .ok (.iastore, 1) := by decide +kernel
theorem dX10_keepsNow_31 : decode cX10_keepsNow 31 = .ok (.iinc 1 1, 3) := by decide +kernel
theorem dX10_keepsNow_34 : decode cX10_keepsNow 34 = .ok (.goto (-32), 3) := by decide +kernel
theorem dX10_keepsNow_37 : decode cX10_keepsNow 37 = .ok (.iconst 0, 1) := by decide +kernel
theorem dX10_keepsNow_38 : decode cX10_keepsNow 38 = .ok (.istore_n 1, 1) := by decide +kernel
theorem dX10_keepsNow_39 : decode cX10_keepsNow 39 = .ok (.iload_n 1, 1) := by decide +kernel
theorem dX10_keepsNow_40 : decode cX10_keepsNow 40 = .ok (.bipush 8, 2) := by decide +kernel
theorem dX10_keepsNow_42 : decode cX10_keepsNow 42 = .ok (.if_icmp .ge 33, 3) := by decide +kernel
theorem dX10_keepsNow_45 : decode cX10_keepsNow 45 = .ok (.aload_n 0, 1) := by decide +kernel
theorem dX10_keepsNow_46 : decode cX10_keepsNow 46 = .ok (.getfield 64, 3) := by decide +kernel
theorem dX10_keepsNow_49 : decode cX10_keepsNow 49 = .ok (.iload_n 1, 1) := by decide +kernel
theorem dX10_keepsNow_50 : decode cX10_keepsNow 50 = .ok (.aload_n 0, 1) := by decide +kernel
theorem dX10_keepsNow_51 : decode cX10_keepsNow 51 = .ok (.getfield 25, 3) := by decide +kernel
theorem dX10_keepsNow_54 : decode cX10_keepsNow 54 = .ok (.iload_n 1, 1) := by decide +kernel
theorem dX10_keepsNow_55 : decode cX10_keepsNow 55 = .ok (.iaload, 1) := by decide +kernel
theorem dX10_keepsNow_56 : decode cX10_keepsNow 56 = .ok (.iastore, 1) := by decide +kernel
theorem dX10_keepsNow_57 : decode cX10_keepsNow 57 = .ok (.aload_n 0, 1) := by decide +kernel
theorem dX10_keepsNow_58 : decode cX10_keepsNow 58 = .ok (.getfield 67, 3) := by decide +kernel
theorem dX10_keepsNow_61 : decode cX10_keepsNow 61 = .ok (.iload_n 1, 1) := by decide +kernel
theorem dX10_keepsNow_62 : decode cX10_keepsNow 62 = .ok (.aload_n 0, 1) := by decide +kernel
theorem dX10_keepsNow_63 : decode cX10_keepsNow 63 = .ok (.getfield 28, 3) := by decide +kernel
theorem dX10_keepsNow_66 : decode cX10_keepsNow 66 = .ok (.iload_n 1, 1) := by decide +kernel
theorem dX10_keepsNow_67 : decode cX10_keepsNow 67 = .ok (.iaload, 1) := by decide +kernel
theorem dX10_keepsNow_68 : decode cX10_keepsNow 68 = .ok (.iastore, 1) := by decide +kernel
theorem dX10_keepsNow_69 : decode cX10_keepsNow 69 = .ok (.iinc 1 1, 3) := by decide +kernel
theorem dX10_keepsNow_72 : decode cX10_keepsNow 72 = .ok (.goto (-33), 3) := by decide +kernel
theorem dX10_keepsNow_75 : decode cX10_keepsNow 75 = .ok (.aload_n 0, 1) := by decide +kernel
theorem dX10_keepsNow_76 : decode cX10_keepsNow 76 = .ok (.aload_n 0, 1) := by decide +kernel
theorem dX10_keepsNow_77 : decode cX10_keepsNow 77 = .ok (.getfield 137, 3) := by decide +kernel
theorem dX10_keepsNow_80 : decode cX10_keepsNow 80 = .ok (.putfield 150, 3) := by decide +kernel
theorem dX10_keepsNow_83 : decode cX10_keepsNow 83 = .ok (.aload_n 0, 1) := by decide +kernel
theorem dX10_keepsNow_84 : decode cX10_keepsNow 84 = .ok (.aload_n 0, 1) := by decide +kernel
theorem dX10_keepsNow_85 : decode cX10_keepsNow 85 = .ok (.getfield 144, 3) := by decide +kernel
theorem dX10_keepsNow_88 : decode cX10_keepsNow 88 = .ok (.putfield 153, 3) := by decide +kernel
theorem dX10_keepsNow_91 : decode cX10_keepsNow 91 = .ok (.return_, 1) := by decide +kernel
theorem dX10_laysBack_0 : decode cX10_laysBack 0 = .ok (.iconst 0, 1) := by decide +kernel
theorem dX10_laysBack_1 : decode cX10_laysBack 1 = .ok (.istore_n 1, 1) := by decide +kernel
theorem dX10_laysBack_2 : decode cX10_laysBack 2 = .ok (.iload_n 1, 1) := by decide +kernel
theorem dX10_laysBack_3 : decode cX10_laysBack 3 = .ok (.iconst 3, 1) := by decide +kernel
theorem dX10_laysBack_4 : decode cX10_laysBack 4 = .ok (.if_icmp .ge 33, 3) := by decide +kernel
theorem dX10_laysBack_7 : decode cX10_laysBack 7 = .ok (.aload_n 0, 1) := by decide +kernel
theorem dX10_laysBack_8 : decode cX10_laysBack 8 = .ok (.getfield 7, 3) := by decide +kernel
theorem dX10_laysBack_11 : decode cX10_laysBack 11 = .ok (.iload_n 1, 1) := by decide +kernel
theorem dX10_laysBack_12 : decode cX10_laysBack 12 = .ok (.aload_n 0, 1) := by decide +kernel
theorem dX10_laysBack_13 : decode cX10_laysBack 13 = .ok (.getfield 58, 3) := by decide +kernel
theorem dX10_laysBack_16 : decode cX10_laysBack 16 = .ok (.iload_n 1, 1) := by decide +kernel
theorem dX10_laysBack_17 : decode cX10_laysBack 17 = .ok (.iaload, 1) := by decide +kernel
theorem dX10_laysBack_18 : decode cX10_laysBack 18 = .ok (.iastore, 1) := by decide +kernel
theorem dX10_laysBack_19 : decode cX10_laysBack 19 = .ok (.aload_n 0, 1) := by decide +kernel
theorem dX10_laysBack_20 : decode cX10_laysBack 20 = .ok (.getfield 13, 3) := by decide +kernel
theorem dX10_laysBack_23 : decode cX10_laysBack 23 = .ok (.iload_n 1, 1) := by decide +kernel
theorem dX10_laysBack_24 : decode cX10_laysBack 24 = .ok (.aload_n 0, 1) := by decide +kernel
theorem dX10_laysBack_25 : decode cX10_laysBack 25 = .ok (.getfield 61, 3) := by decide +kernel
theorem dX10_laysBack_28 : decode cX10_laysBack 28 = .ok (.iload_n 1, 1) := by decide +kernel
theorem dX10_laysBack_29 : decode cX10_laysBack 29 = .ok (.iaload, 1) := by decide +kernel
theorem dX10_laysBack_30 : decode cX10_laysBack 30 = .ok (.iastore, 1) := by decide +kernel
theorem dX10_laysBack_31 : decode cX10_laysBack 31 = .ok (.iinc 1 1, 3) := by decide +kernel
theorem dX10_laysBack_34 : decode cX10_laysBack 34 = .ok (.goto (-32), 3) := by decide +kernel
theorem dX10_laysBack_37 : decode cX10_laysBack 37 = .ok (.iconst 0, 1) := by decide +kernel
theorem dX10_laysBack_38 : decode cX10_laysBack 38 = .ok (.istore_n 1, 1) := by decide +kernel
theorem dX10_laysBack_39 : decode cX10_laysBack 39 = .ok (.iload_n 1, 1) := by decide +kernel
theorem dX10_laysBack_40 : decode cX10_laysBack 40 = .ok (.bipush 8, 2) := by decide +kernel
theorem dX10_laysBack_42 : decode cX10_laysBack 42 = .ok (.if_icmp .ge 33, 3) := by decide +kernel
theorem dX10_laysBack_45 : decode cX10_laysBack 45 = .ok (.aload_n 0, 1) := by decide +kernel
theorem dX10_laysBack_46 : decode cX10_laysBack 46 = .ok (.getfield 25, 3) := by decide +kernel
theorem dX10_laysBack_49 : decode cX10_laysBack 49 = .ok (.iload_n 1, 1) := by decide +kernel
theorem dX10_laysBack_50 : decode cX10_laysBack 50 = .ok (.aload_n 0, 1) := by decide +kernel
theorem dX10_laysBack_51 : decode cX10_laysBack 51 = .ok (.getfield 64, 3) := by decide +kernel
theorem dX10_laysBack_54 : decode cX10_laysBack 54 = .ok (.iload_n 1, 1) := by decide +kernel
theorem dX10_laysBack_55 : decode cX10_laysBack 55 = .ok (.iaload, 1) := by decide +kernel
theorem dX10_laysBack_56 : decode cX10_laysBack 56 = .ok (.iastore, 1) := by decide +kernel
theorem dX10_laysBack_57 : decode cX10_laysBack 57 = .ok (.aload_n 0, 1) := by decide +kernel
theorem dX10_laysBack_58 : decode cX10_laysBack 58 = .ok (.getfield 28, 3) := by decide +kernel
theorem dX10_laysBack_61 : decode cX10_laysBack 61 = .ok (.iload_n 1, 1) := by decide +kernel
theorem dX10_laysBack_62 : decode cX10_laysBack 62 = .ok (.aload_n 0, 1) := by decide +kernel
theorem dX10_laysBack_63 : decode cX10_laysBack 63 = .ok (.getfield 67, 3) := by decide +kernel
theorem dX10_laysBack_66 : decode cX10_laysBack 66 = .ok (.iload_n 1, 1) := by decide +kernel
theorem dX10_laysBack_67 : decode cX10_laysBack 67 = .ok (.iaload, 1) := by decide +kernel
theorem dX10_laysBack_68 : decode cX10_laysBack 68 = .ok (.iastore, 1) := by decide +kernel
theorem dX10_laysBack_69 : decode cX10_laysBack 69 = .ok (.iinc 1 1, 3) := by decide +kernel
theorem dX10_laysBack_72 : decode cX10_laysBack 72 = .ok (.goto (-33), 3) := by decide +kernel
theorem dX10_laysBack_75 : decode cX10_laysBack 75 = .ok (.aload_n 0, 1) := by decide +kernel
theorem dX10_laysBack_76 : decode cX10_laysBack 76 = .ok (.aload_n 0, 1) := by decide +kernel
theorem dX10_laysBack_77 : decode cX10_laysBack 77 = .ok (.getfield 150, 3) := by decide +kernel
theorem dX10_laysBack_80 : decode cX10_laysBack 80 = .ok (.putfield 137, 3) := by decide +kernel
theorem dX10_laysBack_83 : decode cX10_laysBack 83 = .ok (.aload_n 0, 1) := by decide +kernel
theorem dX10_laysBack_84 : decode cX10_laysBack 84 = .ok (.aload_n 0, 1) := by decide +kernel
theorem dX10_laysBack_85 : decode cX10_laysBack 85 = .ok (.getfield 153, 3) := by decide +kernel
theorem dX10_laysBack_88 : decode cX10_laysBack 88 = .ok (.putfield 144, 3) := by decide +kernel
theorem dX10_laysBack_91 : decode cX10_laysBack 91 = .ok (.return_, 1) := by decide +kernel
theorem dX10_heat_0 : decode cX10_heat 0 = .ok (.iload_n 1, 1) := by decide +kernel
theorem dX10_heat_1 : decode cX10_heat 1 = .ok (.invokestatic 156, 3) := by decide +kernel
theorem dX10_heat_4 : decode cX10_heat 4 = .ok (.ifCond .eq 10, 3) := by decide +kernel
theorem dX10_heat_7 : decode cX10_heat 7 = .ok (.iload_n 2, 1) := by decide +kernel
theorem dX10_heat_8 : decode cX10_heat 8 = .ok (.invokestatic 159, 3) := by decide +kernel
theorem dX10_heat_11 : decode cX10_heat 11 = .ok (.ifCond .ne 6, 3) := by decide +kernel
theorem dX10_heat_14 : decode cX10_heat 14 = .ok (.bipush (-2), 2) := by decide +kernel
theorem dX10_heat_16 : decode cX10_heat 16 = .ok (.ireturn, 1) := by decide +kernel
theorem dX10_heat_17 : decode cX10_heat 17 = .ok (.aload_n 0, 1) := by decide +kernel
theorem dX10_heat_18 : decode cX10_heat 18 = .ok (.getfield 7, 3) := by decide +kernel
theorem dX10_heat_21 : decode cX10_heat 21 = .ok (.iload_n 1, 1) := by decide +kernel
theorem dX10_heat_22 : decode cX10_heat 22 = .ok (.iaload, 1) := by decide +kernel
theorem dX10_heat_23 : decode cX10_heat 23 = .ok (.istore_n 3, 1) := by decide +kernel
theorem dX10_heat_24 : decode cX10_heat 24 = .ok (.aload_n 0, 1) := by decide +kernel
theorem dX10_heat_25 : decode cX10_heat 25 = .ok (.getfield 7, 3) := by decide +kernel
theorem dX10_heat_28 : decode cX10_heat 28 = .ok (.iload_n 1, 1) := by decide +kernel
theorem dX10_heat_29 : decode cX10_heat 29 = .ok (.iload_n 2, 1) := by decide +kernel
theorem dX10_heat_30 : decode cX10_heat 30 = .ok (.iastore, 1) := by decide +kernel
theorem dX10_heat_31 : decode cX10_heat 31 = .ok (.iload_n 3, 1) := by decide +kernel
theorem dX10_heat_32 : decode cX10_heat 32 = .ok (.ireturn, 1) := by decide +kernel
theorem dX10_setting_0 : decode cX10_setting 0 = .ok (.iload_n 1, 1) := by decide +kernel
theorem dX10_setting_1 : decode cX10_setting 1 = .ok (.invokestatic 156, 3) := by decide +kernel
theorem dX10_setting_4 : decode cX10_setting 4 = .ok (.ifCond .eq 10, 3) := by decide +kernel
theorem dX10_setting_7 : decode cX10_setting 7 = .ok (.iload_n 2, 1) := by decide +kernel
theorem dX10_setting_8 : decode cX10_setting 8 = .ok (.invokestatic 162, 3) := by decide +kernel
theorem dX10_setting_11 : decode cX10_setting 11 = .ok (.ifCond .ne 6, 3) := by decide +kernel
theorem dX10_setting_14 : decode cX10_setting 14 = .ok (.bipush (-2), 2) := by decide +kernel
theorem dX10_setting_16 : decode cX10_setting 16 = .ok (.ireturn, 1) := by decide +kernel
theorem dX10_setting_17 : decode cX10_setting 17 = .ok (.aload_n 0, 1) := by decide +kernel
theorem dX10_setting_18 : decode cX10_setting 18 = .ok (.getfield 13, 3) := by decide +kernel
theorem dX10_setting_21 : decode cX10_setting 21 = .ok (.iload_n 1, 1) := by decide +kernel
theorem dX10_setting_22 : decode cX10_setting 22 = .ok (.iaload, 1) := by decide +kernel
theorem dX10_setting_23 : decode cX10_setting 23 = .ok (.istore_n 3, 1) := by decide +kernel
theorem dX10_setting_24 : decode cX10_setting 24 = .ok (.aload_n 0, 1) := by decide +kernel
theorem dX10_setting_25 : decode cX10_setting 25 = .ok (.getfield 13, 3) := by decide +kernel
theorem dX10_setting_28 : decode cX10_setting 28 = .ok (.iload_n 1, 1) := by decide +kernel
theorem dX10_setting_29 : decode cX10_setting 29 = .ok (.iload_n 2, 1) := by decide +kernel
theorem dX10_setting_30 : decode cX10_setting 30 = .ok (.iastore, 1) := by decide +kernel
theorem dX10_setting_31 : decode cX10_setting 31 = .ok (.iload_n 3, 1) := by decide +kernel
theorem dX10_setting_32 : decode cX10_setting 32 = .ok (.ireturn, 1) := by decide +kernel
theorem dX10_zone_0 : decode cX10_zone 0 = .ok (.iload_n 1, 1) := by decide +kernel
theorem dX10_zone_1 : decode cX10_zone 1 = .ok (.invokestatic 156, 3) := by decide +kernel
theorem dX10_zone_4 : decode cX10_zone 4 = .ok (.ifCond .ne 6, 3) := by decide +kernel
theorem dX10_zone_7 : decode cX10_zone 7 = .ok (.bipush (-2), 2) := by decide +kernel
theorem dX10_zone_9 : decode cX10_zone 9 = .ok (.ireturn, 1) := by decide +kernel
theorem dX10_zone_10 : decode cX10_zone 10 = .ok (.iload_n 2, 1) := by decide +kernel
theorem dX10_zone_11 : decode cX10_zone 11 = .ok (.tableswitch 113 0 4 #[33, 40, 47, 53, 69], 33) := by decide +kernel
theorem dX10_zone_44 : decode cX10_zone 44 = .ok (.aload_n 0, 1) := by decide +kernel
theorem dX10_zone_45 : decode cX10_zone 45 = .ok (.getfield 7, 3) := by decide +kernel
theorem dX10_zone_48 : decode cX10_zone 48 = .ok (.iload_n 1, 1) := by decide +kernel
theorem dX10_zone_49 : decode cX10_zone 49 = .ok (.iaload, 1) := by decide +kernel
theorem dX10_zone_50 : decode cX10_zone 50 = .ok (.ireturn, 1) := by decide +kernel
theorem dX10_zone_51 : decode cX10_zone 51 = .ok (.aload_n 0, 1) := by decide +kernel
theorem dX10_zone_52 : decode cX10_zone 52 = .ok (.getfield 13, 3) := by decide +kernel
theorem dX10_zone_55 : decode cX10_zone 55 = .ok (.iload_n 1, 1) := by decide +kernel
theorem dX10_zone_56 : decode cX10_zone 56 = .ok (.iaload, 1) := by decide +kernel
theorem dX10_zone_57 : decode cX10_zone 57 = .ok (.ireturn, 1) := by decide +kernel
theorem dX10_zone_58 : decode cX10_zone 58 = .ok (.aload_n 0, 1) := by decide +kernel
theorem dX10_zone_59 : decode cX10_zone 59 = .ok (.iload_n 1, 1) := by decide +kernel
theorem dX10_zone_60 : decode cX10_zone 60 = .ok (.invokevirtual 109, 3) := by decide +kernel
theorem dX10_zone_63 : decode cX10_zone 63 = .ok (.ireturn, 1) := by decide +kernel
theorem dX10_zone_64 : decode cX10_zone 64 = .ok (.aload_n 0, 1) := by decide +kernel
theorem dX10_zone_65 : decode cX10_zone 65 = .ok (.getfield 13, 3) := by decide +kernel
theorem dX10_zone_68 : decode cX10_zone 68 = .ok (.iload_n 1, 1) := by decide +kernel
theorem dX10_zone_69 : decode cX10_zone 69 = .ok (.iaload, 1) := by decide +kernel
theorem dX10_zone_70 : decode cX10_zone 70 = .ok (.aload_n 0, 1) := by decide +kernel
theorem dX10_zone_71 : decode cX10_zone 71 = .ok (.getfield 7, 3) := by decide +kernel
theorem dX10_zone_74 : decode cX10_zone 74 = .ok (.iload_n 1, 1) := by decide +kernel
theorem dX10_zone_75 : decode cX10_zone 75 = .ok (.iaload, 1) := by decide +kernel
theorem dX10_zone_76 : decode cX10_zone 76 = .ok (.invokestatic 106, 3) := by decide +kernel
theorem dX10_zone_79 : decode cX10_zone 79 = .ok (.ireturn, 1) := by decide +kernel
theorem dX10_zone_80 : decode cX10_zone 80 = .ok (.iconst 0, 1) := by decide +kernel
theorem dX10_zone_81 : decode cX10_zone 81 = .ok (.istore_n 3, 1) := by decide +kernel
theorem dX10_zone_82 : decode cX10_zone 82 = .ok (.iconst 0, 1) := by decide +kernel
theorem dX10_zone_83 : decode cX10_zone 83 = .ok (.istore 4, 2) := by decide +kernel
theorem dX10_zone_85 : decode cX10_zone 85 = .ok (.iload 4, 2) := by decide +kernel
theorem dX10_zone_87 : decode cX10_zone 87 = .ok (.aload_n 0, 1) := by decide +kernel
theorem dX10_zone_88 : decode cX10_zone 88 = .ok (.getfield 86, 3) := by decide +kernel
theorem dX10_zone_91 : decode cX10_zone 91 = .ok (.if_icmp .ge 31, 3) := by decide +kernel
theorem dX10_zone_94 : decode cX10_zone 94 = .ok (.iload_n 3, 1) := by decide +kernel
theorem dX10_zone_95 : decode cX10_zone 95 = .ok (.aload_n 0, 1) := by decide +kernel
theorem dX10_zone_96 : decode cX10_zone 96 = .ok (.getfield 22, 3) := by decide +kernel
theorem dX10_zone_99 : decode cX10_zone 99 = .ok (.iload 4, 2) := by decide +kernel
theorem dX10_zone_101 : decode cX10_zone 101 = .ok (.iaload, 1) := by decide +kernel
theorem dX10_zone_102 : decode cX10_zone 102 = .ok (.iload_n 1, 1) := by decide +kernel
theorem dX10_zone_103 : decode cX10_zone 103 = .ok (.if_icmp .ne 10, 3) := by decide +kernel
theorem dX10_zone_106 : decode cX10_zone 106 = .ok (.iconst 1, 1) := by decide +kernel
theorem dX10_zone_107 : decode cX10_zone 107 = .ok (.iload 4, 2) := by decide +kernel
theorem dX10_zone_109 : decode cX10_zone 109 = .ok (.ishl, 1) := by decide +kernel
theorem dX10_zone_110 : decode cX10_zone 110 = .ok (.goto 4, 3) := by decide +kernel
theorem dX10_zone_113 : decode cX10_zone 113 = .ok (.iconst 0, 1) := by decide +kernel
theorem dX10_zone_114 : decode cX10_zone 114 = .ok (.ior, 1) := by decide +kernel
theorem dX10_zone_115 : decode cX10_zone 115 = .ok (.istore_n 3, 1) := by decide +kernel
theorem dX10_zone_116 : decode cX10_zone 116 = .ok (.iinc 4 1, 3) := by decide +kernel
theorem dX10_zone_119 : decode cX10_zone 119 = .ok (.goto (-34), 3) := by decide +kernel
theorem dX10_zone_122 : decode cX10_zone 122 = .ok (.iload_n 3, 1) := by decide +kernel
theorem dX10_zone_123 : decode cX10_zone 123 = .ok (.ireturn, 1) := by decide +kernel
theorem dX10_zone_124 : decode cX10_zone 124 = .ok (.bipush (-2), 2) := by decide +kernel
theorem dX10_zone_126 : decode cX10_zone 126 = .ok (.ireturn, 1) := by decide +kernel
theorem dX10_gives_0 : decode cX10_gives 0 = .ok (.iload_n 1, 1) := by decide +kernel
theorem dX10_gives_1 : decode cX10_gives 1 = .ok (.invokestatic 162, 3) := by decide +kernel
theorem dX10_gives_4 : decode cX10_gives 4 = .ok (.ifCond .eq 18, 3) := by decide +kernel
theorem dX10_gives_7 : decode cX10_gives 7 = .ok (.iload_n 2, 1) := by decide +kernel
theorem dX10_gives_8 : decode cX10_gives 8 = .ok (.invokestatic 159, 3) := by decide +kernel
theorem dX10_gives_11 : decode cX10_gives 11 = .ok (.ifCond .eq 11, 3) := by decide +kernel
theorem dX10_gives_14 : decode cX10_gives 14 = .ok (.iload_n 1, 1) := by decide +kernel
theorem dX10_gives_15 : decode cX10_gives 15 = .ok (.iload_n 2, 1) := by decide +kernel
theorem dX10_gives_16 : decode cX10_gives 16 = .ok (.invokestatic 106, 3) := by decide +kernel
theorem dX10_gives_19 : decode cX10_gives 19 = .ok (.goto 5, 3) := by decide +kernel
theorem dX10_gives_22 : decode cX10_gives 22 = .ok (.bipush (-2), 2) := by decide +kernel
theorem dX10_gives_24 : decode cX10_gives 24 = .ok (.ireturn, 1) := by decide +kernel
theorem dX10_load_0 : decode cX10_load 0 = .ok (.iload_n 1, 1) := by decide +kernel
theorem dX10_load_1 : decode cX10_load 1 = .ok (.iconst 0, 1) := by decide +kernel
theorem dX10_load_2 : decode cX10_load 2 = .ok (.iconst 5, 1) := by decide +kernel
theorem dX10_load_3 : decode cX10_load 3 = .ok (.invokestatic 82, 3) := by decide +kernel
theorem dX10_load_6 : decode cX10_load 6 = .ok (.ifCond .eq 20, 3) := by decide +kernel
theorem dX10_load_9 : decode cX10_load 9 = .ok (.iload_n 2, 1) := by decide +kernel
theorem dX10_load_10 : decode cX10_load 10 = .ok (.iconst 1, 1) := by decide +kernel
theorem dX10_load_11 : decode cX10_load 11 = .ok (.bipush 9, 2) := by decide +kernel
theorem dX10_load_13 : decode cX10_load 13 = .ok (.invokestatic 82, 3) := by decide +kernel
theorem dX10_load_16 : decode cX10_load 16 = .ok (.ifCond .eq 10, 3) := by decide +kernel
theorem dX10_load_19 : decode cX10_load 19 = .ok (.iload_n 3, 1) := by decide +kernel
theorem dX10_load_20 : decode cX10_load 20 = .ok (.invokestatic 156, 3) := by decide +kernel
theorem dX10_load_23 : decode cX10_load 23 = .ok (.ifCond .ne 6, 3) := by decide +kernel
theorem dX10_load_26 : decode cX10_load 26 = .ok (.bipush (-2), 2) := by decide +kernel
theorem dX10_load_28 : decode cX10_load 28 = .ok (.ireturn, 1) := by decide +kernel
theorem dX10_load_29 : decode cX10_load 29 = .ok (.aload_n 0, 1) := by decide +kernel
theorem dX10_load_30 : decode cX10_load 30 = .ok (.getfield 86, 3) := by decide +kernel
theorem dX10_load_33 : decode cX10_load 33 = .ok (.bipush 8, 2) := by decide +kernel
theorem dX10_load_35 : decode cX10_load 35 = .ok (.if_icmp .ne 6, 3) := by decide +kernel
theorem dX10_load_38 : decode cX10_load 38 = .ok (.bipush (-4), 2) := by decide +kernel
theorem dX10_load_40 : decode cX10_load 40 = .ok (.ireturn, 1) := by decide +kernel
theorem dX10_load_41 : decode cX10_load 41 = .ok (.aload_n 0, 1) := by decide +kernel
theorem dX10_load_42 : decode cX10_load 42 = .ok (.getfield 16, 3) := by decide +kernel
theorem dX10_load_45 : decode cX10_load 45 = .ok (.aload_n 0, 1) := by decide +kernel
theorem dX10_load_46 : decode cX10_load 46 = .ok (.getfield 86, 3) := by decide +kernel
theorem dX10_load_49 : decode cX10_load 49 = .ok (.iload_n 1, 1) := by decide +kernel
theorem dX10_load_50 : decode cX10_load 50 = .ok (.iastore, 1) := by decide +kernel
theorem dX10_load_51 : decode cX10_load 51 = .ok (.aload_n 0, 1) := by decide +kernel
theorem dX10_load_52 : decode cX10_load 52 = .ok (.getfield 19, 3) := by decide +kernel
theorem dX10_load_55 : decode cX10_load 55 = .ok (.aload_n 0, 1) := by decide +kernel
theorem dX10_load_56 : decode cX10_load 56 = .ok (.getfield 86, 3) := by decide +kernel
theorem dX10_load_59 : decode cX10_load 59 = .ok (.iload_n 2, 1) := by decide +kernel
theorem dX10_load_60 : decode cX10_load 60 = .ok (.iastore, 1) := by decide +kernel
theorem dX10_load_61 : decode cX10_load 61 = .ok (.aload_n 0, 1) := by decide +kernel
theorem dX10_load_62 : decode cX10_load 62 = .ok (.getfield 22, 3) := by decide +kernel
theorem dX10_load_65 : decode cX10_load 65 = .ok (.aload_n 0, 1) := by decide +kernel
theorem dX10_load_66 : decode cX10_load 66 = .ok (.getfield 86, 3) := by decide +kernel
theorem dX10_load_69 : decode cX10_load 69 = .ok (.iload_n 3, 1) := by decide +kernel
theorem dX10_load_70 : decode cX10_load 70 = .ok (.iastore, 1) := by decide +kernel
theorem dX10_load_71 : decode cX10_load 71 = .ok (.aload_n 0, 1) := by decide +kernel
theorem dX10_load_72 : decode cX10_load 72 = .ok (.getfield 25, 3) := by decide +kernel
theorem dX10_load_75 : decode cX10_load 75 = .ok (.aload_n 0, 1) := by decide +kernel
theorem dX10_load_76 : decode cX10_load 76 = .ok (.getfield 86, 3) := by decide +kernel
theorem dX10_load_79 : decode cX10_load 79 = .ok (.iconst 0, 1) := by decide +kernel
theorem dX10_load_80 : decode cX10_load 80 = .ok (.iastore, 1) := by decide +kernel
theorem dX10_load_81 : decode cX10_load 81 = .ok (.aload_n 0, 1) := by decide +kernel
theorem dX10_load_82 : decode cX10_load 82 = .ok (.getfield 28, 3) := by decide +kernel
theorem dX10_load_85 : decode cX10_load 85 = .ok (.aload_n 0, 1) := by decide +kernel
theorem dX10_load_86 : decode cX10_load 86 = .ok (.getfield 86, 3) := by decide +kernel
theorem dX10_load_89 : decode cX10_load 89 = .ok (.iconst 0, 1) := by decide +kernel
theorem dX10_load_90 : decode cX10_load 90 = .ok (.iastore, 1) := by decide +kernel
theorem dX10_load_91 : decode cX10_load 91 = .ok (.aload_n 0, 1) := by decide +kernel
theorem dX10_load_92 : decode cX10_load 92 = .ok (.dup, 1) := by decide +kernel
theorem dX10_load_93 : decode cX10_load 93 = .ok (.getfield 86, 3) := by decide +kernel
theorem dX10_load_96 : decode cX10_load 96 = .ok (.iconst 1, 1) := by decide +kernel
theorem dX10_load_97 : decode cX10_load 97 = .ok (.iadd, 1) := by decide +kernel
theorem dX10_load_98 : decode cX10_load 98 = .ok (.putfield 86, 3) := by decide +kernel
theorem dX10_load_101 : decode cX10_load 101 = .ok (.aload_n 0, 1) := by decide +kernel
theorem dX10_load_102 : decode cX10_load 102 = .ok (.getfield 86, 3) := by decide +kernel
theorem dX10_load_105 : decode cX10_load 105 = .ok (.iconst 1, 1) := by decide +kernel
theorem dX10_load_106 : decode cX10_load 106 = .ok (.isub, 1) := by decide +kernel
theorem dX10_load_107 : decode cX10_load 107 = .ok (.ireturn, 1) := by decide +kernel
theorem dX10_of_0 : decode cX10_of 0 = .ok (.aload_n 0, 1) := by decide +kernel
theorem dX10_of_1 : decode cX10_of 1 = .ok (.iload_n 1, 1) := by decide +kernel
theorem dX10_of_2 : decode cX10_of 2 = .ok (.invokevirtual 165, 3) := by decide +kernel
theorem dX10_of_5 : decode cX10_of 5 = .ok (.ifCond .ne 6, 3) := by decide +kernel
theorem dX10_of_8 : decode cX10_of 8 = .ok (.bipush (-2), 2) := by decide +kernel
theorem dX10_of_10 : decode cX10_of 10 = .ok (.ireturn, 1) := by decide +kernel
theorem dX10_of_11 : decode cX10_of 11 = .ok (.iload_n 2, 1) := by decide +kernel
theorem dX10_of_12 : decode cX10_of 12 = .ok (.tableswitch 142 0 10 #[60, 67, 74, 81, 88, 95, 112, 118, 124, 130, 136], 60) := by decide +kernel
theorem dX10_of_72 : decode cX10_of 72 = .ok (.aload_n 0, 1) := by decide +kernel
theorem dX10_of_73 : decode cX10_of 73 = .ok (.getfield 16, 3) := by decide +kernel
theorem dX10_of_76 : decode cX10_of 76 = .ok (.iload_n 1, 1) := by decide +kernel
theorem dX10_of_77 : decode cX10_of 77 = .ok (.iaload, 1) := by decide +kernel
theorem dX10_of_78 : decode cX10_of 78 = .ok (.ireturn, 1) := by decide +kernel
theorem dX10_of_79 : decode cX10_of 79 = .ok (.aload_n 0, 1) := by decide +kernel
theorem dX10_of_80 : decode cX10_of 80 = .ok (.getfield 19, 3) := by decide +kernel
theorem dX10_of_83 : decode cX10_of 83 = .ok (.iload_n 1, 1) := by decide +kernel
theorem dX10_of_84 : decode cX10_of 84 = .ok (.iaload, 1) := by decide +kernel
theorem dX10_of_85 : decode cX10_of 85 = .ok (.ireturn, 1) := by decide +kernel
theorem dX10_of_86 : decode cX10_of 86 = .ok (.aload_n 0, 1) := by decide +kernel
theorem dX10_of_87 : decode cX10_of 87 = .ok (.getfield 22, 3) := by decide +kernel
theorem dX10_of_90 : decode cX10_of 90 = .ok (.iload_n 1, 1) := by decide +kernel
theorem dX10_of_91 : decode cX10_of 91 = .ok (.iaload, 1) := by decide +kernel
theorem dX10_of_92 : decode cX10_of 92 = .ok (.ireturn, 1) := by decide +kernel
theorem dX10_of_93 : decode cX10_of 93 = .ok (.aload_n 0, 1) := by decide +kernel
theorem dX10_of_94 : decode cX10_of 94 = .ok (.getfield 25, 3) := by decide +kernel
theorem dX10_of_97 : decode cX10_of 97 = .ok (.iload_n 1, 1) := by decide +kernel
theorem dX10_of_98 : decode cX10_of 98 = .ok (.iaload, 1) := by decide +kernel
theorem dX10_of_99 : decode cX10_of 99 = .ok (.ireturn, 1) := by decide +kernel
theorem dX10_of_100 : decode cX10_of 100 = .ok (.aload_n 0, 1) := by decide +kernel
theorem dX10_of_101 : decode cX10_of 101 = .ok (.getfield 28, 3) := by decide +kernel
theorem dX10_of_104 : decode cX10_of 104 = .ok (.iload_n 1, 1) := by decide +kernel
theorem dX10_of_105 : decode cX10_of 105 = .ok (.iaload, 1) := by decide +kernel
theorem dX10_of_106 : decode cX10_of 106 = .ok (.ireturn, 1) := by decide +kernel
theorem dX10_of_107 : decode cX10_of 107 = .ok (.aload_n 0, 1) := by decide +kernel
theorem dX10_of_108 : decode cX10_of 108 = .ok (.iload_n 1, 1) := by decide +kernel
theorem dX10_of_109 : decode cX10_of 109 = .ok (.aload_n 0, 1) := by decide +kernel
theorem dX10_of_110 : decode cX10_of 110 = .ok (.getfield 7, 3) := by decide +kernel
theorem dX10_of_113 : decode cX10_of 113 = .ok (.aload_n 0, 1) := by decide +kernel
theorem dX10_of_114 : decode cX10_of 114 = .ok (.getfield 22, 3) := by decide +kernel
theorem dX10_of_117 : decode cX10_of 117 = .ok (.iload_n 1, 1) := by decide +kernel
theorem dX10_of_118 : decode cX10_of 118 = .ok (.iaload, 1) := by decide +kernel
theorem dX10_of_119 : decode cX10_of 119 = .ok (.iaload, 1) := by decide +kernel
theorem dX10_of_120 : decode cX10_of 120 = .ok (.invokevirtual 115, 3) := by decide +kernel
theorem dX10_of_123 : decode cX10_of 123 = .ok (.ireturn, 1) := by decide +kernel
theorem dX10_of_124 : decode cX10_of 124 = .ok (.aload_n 0, 1) := by decide +kernel
theorem dX10_of_125 : decode cX10_of 125 = .ok (.iload_n 1, 1) := by decide +kernel
theorem dX10_of_126 : decode cX10_of 126 = .ok (.invokevirtual 118, 3) := by decide +kernel
theorem dX10_of_129 : decode cX10_of 129 = .ok (.ireturn, 1) := by decide +kernel
theorem dX10_of_130 : decode cX10_of 130 = .ok (.aload_n 0, 1) := by decide +kernel
theorem dX10_of_131 : decode cX10_of 131 = .ok (.iload_n 1, 1) := by decide +kernel
theorem dX10_of_132 : decode cX10_of 132 = .ok (.invokevirtual 100, 3) := by decide +kernel
theorem dX10_of_135 : decode cX10_of 135 = .ok (.ireturn, 1) := by decide +kernel
theorem dX10_of_136 : decode cX10_of 136 = .ok (.aload_n 0, 1) := by decide +kernel
theorem dX10_of_137 : decode cX10_of 137 = .ok (.iload_n 1, 1) := by decide +kernel
theorem dX10_of_138 : decode cX10_of 138 = .ok (.invokevirtual 134, 3) := by decide +kernel
theorem dX10_of_141 : decode cX10_of 141 = .ok (.ireturn, 1) := by decide +kernel
theorem dX10_of_142 : decode cX10_of 142 = .ok (.aload_n 0, 1) := by decide +kernel
theorem dX10_of_143 : decode cX10_of 143 = .ok (.iload_n 1, 1) := by decide +kernel
theorem dX10_of_144 : decode cX10_of 144 = .ok (.invokevirtual 121, 3) := by decide +kernel
theorem dX10_of_147 : decode cX10_of 147 = .ok (.ireturn, 1) := by decide +kernel
theorem dX10_of_148 : decode cX10_of 148 = .ok (.aload_n 0, 1) := by decide +kernel
theorem dX10_of_149 : decode cX10_of 149 = .ok (.iload_n 1, 1) := by decide +kernel
theorem dX10_of_150 : decode cX10_of 150 = .ok (.invokevirtual 103, 3) := by decide +kernel
theorem dX10_of_153 : decode cX10_of 153 = .ok (.ireturn, 1) := by decide +kernel
theorem dX10_of_154 : decode cX10_of 154 = .ok (.bipush (-2), 2) := by decide +kernel
theorem dX10_of_156 : decode cX10_of 156 = .ok (.ireturn, 1) := by decide +kernel
theorem dX10_rises_0 : decode cX10_rises 0 = .ok (.aload_n 0, 1) := by decide +kernel
theorem dX10_rises_1 : decode cX10_rises 1 = .ok (.iload_n 1, 1) := by decide +kernel
theorem dX10_rises_2 : decode cX10_rises 2 = .ok (.invokevirtual 165, 3) := by decide +kernel
theorem dX10_rises_5 : decode cX10_rises 5 = .ok (.ifCond .eq 19, 3) := by decide +kernel
theorem dX10_rises_8 : decode cX10_rises 8 = .ok (.iload_n 2, 1) := by decide +kernel
theorem dX10_rises_9 : decode cX10_rises 9 = .ok (.invokestatic 159, 3) := by decide +kernel
theorem dX10_rises_12 : decode cX10_rises 12 = .ok (.ifCond .eq 12, 3) := by decide +kernel
theorem dX10_rises_15 : decode cX10_rises 15 = .ok (.aload_n 0, 1) := by decide +kernel
theorem dX10_rises_16 : decode cX10_rises 16 = .ok (.iload_n 1, 1) := by decide +kernel
theorem dX10_rises_17 : decode cX10_rises 17 = .ok (.iload_n 2, 1) := by decide +kernel
theorem dX10_rises_18 : decode cX10_rises 18 = .ok (.invokevirtual 115, 3) := by decide +kernel
theorem dX10_rises_21 : decode cX10_rises 21 = .ok (.goto 5, 3) := by decide +kernel
theorem dX10_rises_24 : decode cX10_rises 24 = .ok (.bipush (-2), 2) := by decide +kernel
theorem dX10_rises_26 : decode cX10_rises 26 = .ok (.ireturn, 1) := by decide +kernel
theorem dX10_move_0 : decode cX10_move 0 = .ok (.aload_n 0, 1) := by decide +kernel
theorem dX10_move_1 : decode cX10_move 1 = .ok (.iload_n 1, 1) := by decide +kernel
theorem dX10_move_2 : decode cX10_move 2 = .ok (.invokevirtual 165, 3) := by decide +kernel
theorem dX10_move_5 : decode cX10_move 5 = .ok (.ifCond .eq 10, 3) := by decide +kernel
theorem dX10_move_8 : decode cX10_move 8 = .ok (.iload_n 2, 1) := by decide +kernel
theorem dX10_move_9 : decode cX10_move 9 = .ok (.invokestatic 156, 3) := by decide +kernel
theorem dX10_move_12 : decode cX10_move 12 = .ok (.ifCond .ne 6, 3) := by decide +kernel
theorem dX10_move_15 : decode cX10_move 15 = .ok (.bipush (-2), 2) := by decide +kernel
theorem dX10_move_17 : decode cX10_move 17 = .ok (.ireturn, 1) := by decide +kernel
theorem dX10_move_18 : decode cX10_move 18 = .ok (.aload_n 0, 1) := by decide +kernel
theorem dX10_move_19 : decode cX10_move 19 = .ok (.getfield 22, 3) := by decide +kernel
theorem dX10_move_22 : decode cX10_move 22 = .ok (.iload_n 1, 1) := by decide +kernel
theorem dX10_move_23 : decode cX10_move 23 = .ok (.iaload, 1) := by decide +kernel
theorem dX10_move_24 : decode cX10_move 24 = .ok (.istore_n 3, 1) := by decide +kernel
theorem dX10_move_25 : decode cX10_move 25 = .ok (.aload_n 0, 1) := by decide +kernel
theorem dX10_move_26 : decode cX10_move 26 = .ok (.getfield 22, 3) := by decide +kernel
theorem dX10_move_29 : decode cX10_move 29 = .ok (.iload_n 1, 1) := by decide +kernel
theorem dX10_move_30 : decode cX10_move 30 = .ok (.iload_n 2, 1) := by decide +kernel
theorem dX10_move_31 : decode cX10_move 31 = .ok (.iastore, 1) := by decide +kernel
theorem dX10_move_32 : decode cX10_move 32 = .ok (.iload_n 3, 1) := by decide +kernel
theorem dX10_move_33 : decode cX10_move 33 = .ok (.ireturn, 1) := by decide +kernel
theorem dX10_anew_0 : decode cX10_anew 0 = .ok (.aload_n 0, 1) := by decide +kernel
theorem dX10_anew_1 : decode cX10_anew 1 = .ok (.iload_n 1, 1) := by decide +kernel
theorem dX10_anew_2 : decode cX10_anew 2 = .ok (.invokevirtual 165, 3) := by decide +kernel
theorem dX10_anew_5 : decode cX10_anew 5 = .ok (.ifCond .ne 6, 3) := by decide +kernel
theorem dX10_anew_8 : decode cX10_anew 8 = .ok (.bipush (-2), 2) := by decide +kernel
theorem dX10_anew_10 : decode cX10_anew 10 = .ok (.ireturn, 1) := by decide +kernel
theorem dX10_anew_11 : decode cX10_anew 11 = .ok (.aload_n 0, 1) := by decide +kernel
theorem dX10_anew_12 : decode cX10_anew 12 = .ok (.getfield 28, 3) := by decide +kernel
theorem dX10_anew_15 : decode cX10_anew 15 = .ok (.iload_n 1, 1) := by decide +kernel
theorem dX10_anew_16 : decode cX10_anew 16 = .ok (.iaload, 1) := by decide +kernel
theorem dX10_anew_17 : decode cX10_anew 17 = .ok (.istore_n 2, 1) := by decide +kernel
theorem dX10_anew_18 : decode cX10_anew 18 = .ok (.aload_n 0, 1) := by decide +kernel
theorem dX10_anew_19 : decode cX10_anew 19 = .ok (.getfield 28, 3) := by decide +kernel
theorem dX10_anew_22 : decode cX10_anew 22 = .ok (.iload_n 1, 1) := by decide +kernel
theorem dX10_anew_23 : decode cX10_anew 23 = .ok (.iconst 0, 1) := by decide +kernel
theorem dX10_anew_24 : decode cX10_anew 24 = .ok (.iastore, 1) := by decide +kernel
theorem dX10_anew_25 : decode cX10_anew 25 = .ok (.aload_n 0, 1) := by decide +kernel
theorem dX10_anew_26 : decode cX10_anew 26 = .ok (.getfield 25, 3) := by decide +kernel
theorem dX10_anew_29 : decode cX10_anew 29 = .ok (.iload_n 1, 1) := by decide +kernel
theorem dX10_anew_30 : decode cX10_anew 30 = .ok (.iconst 0, 1) := by decide +kernel
theorem dX10_anew_31 : decode cX10_anew 31 = .ok (.iastore, 1) := by decide +kernel
theorem dX10_anew_32 : decode cX10_anew 32 = .ok (.iload_n 2, 1) := by decide +kernel
theorem dX10_anew_33 : decode cX10_anew 33 = .ok (.ireturn, 1) := by decide +kernel
theorem dX10_take_0 : decode cX10_take 0 = .ok (.aload_n 0, 1) := by decide +kernel
theorem dX10_take_1 : decode cX10_take 1 = .ok (.getfield 86, 3) := by decide +kernel
theorem dX10_take_4 : decode cX10_take 4 = .ok (.ifCond .ne 6, 3) := by decide +kernel
theorem dX10_take_7 : decode cX10_take 7 = .ok (.bipush (-3), 2) := by decide +kernel
theorem dX10_take_9 : decode cX10_take 9 = .ok (.ireturn, 1) := by decide +kernel
theorem dX10_take_10 : decode cX10_take 10 = .ok (.aload_n 0, 1) := by decide +kernel
theorem dX10_take_11 : decode cX10_take 11 = .ok (.dup, 1) := by decide +kernel
theorem dX10_take_12 : decode cX10_take 12 = .ok (.getfield 86, 3) := by decide +kernel
theorem dX10_take_15 : decode cX10_take 15 = .ok (.iconst 1, 1) := by decide +kernel
theorem dX10_take_16 : decode cX10_take 16 = .ok (.isub, 1) := by decide +kernel
theorem dX10_take_17 : decode cX10_take 17 = .ok (.putfield 86, 3) := by decide +kernel
theorem dX10_take_20 : decode cX10_take 20 = .ok (.aload_n 0, 1) := by decide +kernel
theorem dX10_take_21 : decode cX10_take 21 = .ok (.getfield 86, 3) := by decide +kernel
theorem dX10_take_24 : decode cX10_take 24 = .ok (.ireturn, 1) := by decide +kernel
theorem dX10_taken_0 : decode cX10_taken 0 = .ok (.aload_n 0, 1) := by decide +kernel
theorem dX10_taken_1 : decode cX10_taken 1 = .ok (.iload_n 1, 1) := by decide +kernel
theorem dX10_taken_2 : decode cX10_taken 2 = .ok (.invokevirtual 165, 3) := by decide +kernel
theorem dX10_taken_5 : decode cX10_taken 5 = .ok (.ifCond .eq 12, 3) := by decide +kernel
theorem dX10_taken_8 : decode cX10_taken 8 = .ok (.iload_n 2, 1) := by decide +kernel
theorem dX10_taken_9 : decode cX10_taken 9 = .ok (.iconst 0, 1) := by decide +kernel
theorem dX10_taken_10 : decode cX10_taken 10 = .ok (.iconst 5, 1) := by decide +kernel
theorem dX10_taken_11 : decode cX10_taken 11 = .ok (.invokestatic 82, 3) := by decide +kernel
theorem dX10_taken_14 : decode cX10_taken 14 = .ok (.ifCond .ne 6, 3) := by decide +kernel
theorem dX10_taken_17 : decode cX10_taken 17 = .ok (.bipush (-2), 2) := by decide +kernel
theorem dX10_taken_19 : decode cX10_taken 19 = .ok (.ireturn, 1) := by decide +kernel
theorem dX10_taken_20 : decode cX10_taken 20 = .ok (.aload_n 0, 1) := by decide +kernel
theorem dX10_taken_21 : decode cX10_taken 21 = .ok (.getfield 16, 3) := by decide +kernel
theorem dX10_taken_24 : decode cX10_taken 24 = .ok (.iload_n 1, 1) := by decide +kernel
theorem dX10_taken_25 : decode cX10_taken 25 = .ok (.iaload, 1) := by decide +kernel
theorem dX10_taken_26 : decode cX10_taken 26 = .ok (.istore_n 3, 1) := by decide +kernel
theorem dX10_taken_27 : decode cX10_taken 27 = .ok (.iload_n 2, 1) := by decide +kernel
theorem dX10_taken_28 : decode cX10_taken 28 = .ok (.ifCond .eq 43, 3) := by decide +kernel
theorem dX10_taken_31 : decode cX10_taken 31 = .ok (.iload_n 3, 1) := by decide +kernel
theorem dX10_taken_32 : decode cX10_taken 32 = .ok (.iload_n 2, 1) := by decide +kernel
theorem dX10_taken_33 : decode cX10_taken 33 = .ok (.if_icmp .eq 38, 3) := by decide +kernel
theorem dX10_taken_36 : decode cX10_taken 36 = .ok (.iload_n 2, 1) := by decide +kernel
theorem dX10_taken_37 : decode cX10_taken 37 = .ok (.iconst 1, 1) := by decide +kernel
theorem dX10_taken_38 : decode cX10_taken 38 = .ok (.if_icmp .ne 13, 3) := by decide +kernel
theorem dX10_taken_41 : decode cX10_taken 41 = .ok (.iload_n 3, 1) := by decide +kernel
theorem dX10_taken_42 : decode cX10_taken 42 = .ok (.iconst 3, 1) := by decide +kernel
theorem dX10_taken_43 : decode cX10_taken 43 = .ok (.if_icmp .eq 28, 3) := by decide +kernel
theorem dX10_taken_46 : decode cX10_taken 46 = .ok (.iload_n 3, 1) := by decide +kernel
theorem dX10_taken_47 : decode cX10_taken 47 = .ok (.iconst 5, 1) := by decide +kernel
theorem dX10_taken_48 : decode cX10_taken 48 = .ok (.if_icmp .eq 23, 3) := by decide +kernel
theorem dX10_taken_51 : decode cX10_taken 51 = .ok (.iload_n 2, 1) := by decide +kernel
theorem dX10_taken_52 : decode cX10_taken 52 = .ok (.iconst 2, 1) := by decide +kernel
theorem dX10_taken_53 : decode cX10_taken 53 = .ok (.if_icmp .ne 8, 3) := by decide +kernel
theorem dX10_taken_56 : decode cX10_taken 56 = .ok (.iload_n 3, 1) := by decide +kernel
theorem dX10_taken_57 : decode cX10_taken 57 = .ok (.iconst 4, 1) := by decide +kernel
theorem dX10_taken_58 : decode cX10_taken 58 = .ok (.if_icmp .eq 13, 3) := by decide +kernel
theorem dX10_taken_61 : decode cX10_taken 61 = .ok (.iload_n 2, 1) := by decide +kernel
theorem dX10_taken_62 : decode cX10_taken 62 = .ok (.iconst 3, 1) := by decide +kernel
theorem dX10_taken_63 : decode cX10_taken 63 = .ok (.if_icmp .ne 12, 3) := by decide +kernel
theorem dX10_taken_66 : decode cX10_taken 66 = .ok (.iload_n 3, 1) := by decide +kernel
theorem dX10_taken_67 : decode cX10_taken 67 = .ok (.iconst 5, 1) := by decide +kernel
theorem dX10_taken_68 : decode cX10_taken 68 = .ok (.if_icmp .ne 7, 3) := by decide +kernel
theorem dX10_taken_71 : decode cX10_taken 71 = .ok (.iconst 1, 1) := by decide +kernel
theorem dX10_taken_72 : decode cX10_taken 72 = .ok (.goto 4, 3) := by decide +kernel
theorem dX10_taken_75 : decode cX10_taken 75 = .ok (.iconst 0, 1) := by decide +kernel
theorem dX10_taken_76 : decode cX10_taken 76 = .ok (.istore 4, 2) := by decide +kernel
theorem dX10_taken_78 : decode cX10_taken 78 = .ok (.iload 4, 2) := by decide +kernel
theorem dX10_taken_80 : decode cX10_taken 80 = .ok (.ifCond .eq 12, 3) := by decide +kernel
theorem dX10_taken_83 : decode cX10_taken 83 = .ok (.aload_n 0, 1) := by decide +kernel
theorem dX10_taken_84 : decode cX10_taken 84 = .ok (.getfield 19, 3) := by decide +kernel
theorem dX10_taken_87 : decode cX10_taken 87 = .ok (.iload_n 1, 1) := by decide +kernel
theorem dX10_taken_88 : decode cX10_taken 88 = .ok (.iaload, 1) := by decide +kernel
theorem dX10_taken_89 : decode cX10_taken 89 = .ok (.goto 5, 3) := by decide +kernel
theorem dX10_taken_92 : decode cX10_taken 92 = .ok (.bipush (-13), 2) := by decide +kernel
theorem dX10_taken_94 : decode cX10_taken 94 = .ok (.ireturn, 1) := by decide +kernel
theorem dX10_step_0 : decode cX10_step 0 = .ok (.iload_n 1, 1) := by decide +kernel
theorem dX10_step_1 : decode cX10_step 1 = .ok (.iconst 1, 1) := by decide +kernel
theorem dX10_step_2 : decode cX10_step 2 = .ok (.bipush 60, 2) := by decide +kernel
theorem dX10_step_4 : decode cX10_step 4 = .ok (.invokestatic 82, 3) := by decide +kernel
theorem dX10_step_7 : decode cX10_step 7 = .ok (.ifCond .ne 6, 3) := by decide +kernel
theorem dX10_step_10 : decode cX10_step 10 = .ok (.bipush (-2), 2) := by decide +kernel
theorem dX10_step_12 : decode cX10_step 12 = .ok (.ireturn, 1) := by decide +kernel
theorem dX10_step_13 : decode cX10_step 13 = .ok (.aload_n 0, 1) := by decide +kernel
theorem dX10_step_14 : decode cX10_step 14 = .ok (.getfield 144, 3) := by decide +kernel
theorem dX10_step_17 : decode cX10_step 17 = .ok (.iload_n 1, 1) := by decide +kernel
theorem dX10_step_18 : decode cX10_step 18 = .ok (.iadd, 1) := by decide +kernel
theorem dX10_step_19 : decode cX10_step 19 = .ok (.sipush 9999, 3) := by decide +kernel
theorem dX10_step_22 : decode cX10_step 22 = .ok (.if_icmp .le 6, 3) := by decide +kernel
theorem dX10_step_25 : decode cX10_step 25 = .ok (.bipush (-3), 2) := by decide +kernel
theorem dX10_step_27 : decode cX10_step 27 = .ok (.ireturn, 1) := by decide +kernel
theorem dX10_step_28 : decode cX10_step 28 = .ok (.iconst 0, 1) := by decide +kernel
theorem dX10_step_29 : decode cX10_step 29 = .ok (.istore_n 2, 1) := by decide +kernel
theorem dX10_step_30 : decode cX10_step 30 = .ok (.iconst 0, 1) := by decide +kernel
theorem dX10_step_31 : decode cX10_step 31 = .ok (.istore_n 3, 1) := by decide +kernel
theorem dX10_step_32 : decode cX10_step 32 = .ok (.iload_n 3, 1) := by decide +kernel
theorem dX10_step_33 : decode cX10_step 33 = .ok (.iload_n 1, 1) := by decide +kernel
theorem dX10_step_34 : decode cX10_step 34 = .ok (.if_icmp .ge 16, 3) := by decide +kernel
theorem dX10_step_37 : decode cX10_step 37 = .ok (.iload_n 2, 1) := by decide +kernel
theorem dX10_step_38 : decode cX10_step 38 = .ok (.aload_n 0, 1) := by decide +kernel
theorem dX10_step_39 : decode cX10_step 39 = .ok (.invokevirtual 168, 3) := by decide +kernel
theorem dX10_step_42 : decode cX10_step 42 = .ok (.ior, 1) := by decide +kernel
theorem dX10_step_43 : decode cX10_step 43 = .ok (.istore_n 2, 1) := by decide +kernel
theorem dX10_step_44 : decode cX10_step 44 = .ok (.iinc 3 1, 3) := by decide +kernel
theorem dX10_step_47 : decode cX10_step 47 = .ok (.goto (-15), 3) := by decide +kernel
theorem dX10_step_50 : decode cX10_step 50 = .ok (.iload_n 2, 1) := by decide +kernel
theorem dX10_step_51 : decode cX10_step 51 = .ok (.ireturn, 1) := by decide +kernel
theorem dX10_next_0 : decode cX10_next 0 = .ok (.iload_n 1, 1) := by decide +kernel
theorem dX10_next_1 : decode cX10_next 1 = .ok (.iconst 0, 1) := by decide +kernel
theorem dX10_next_2 : decode cX10_next 2 = .ok (.iconst 4, 1) := by decide +kernel
theorem dX10_next_3 : decode cX10_next 3 = .ok (.invokestatic 82, 3) := by decide +kernel
theorem dX10_next_6 : decode cX10_next 6 = .ok (.ifCond .ne 6, 3) := by decide +kernel
theorem dX10_next_9 : decode cX10_next 9 = .ok (.bipush (-2), 2) := by decide +kernel
theorem dX10_next_11 : decode cX10_next 11 = .ok (.ireturn, 1) := by decide +kernel
theorem dX10_next_12 : decode cX10_next 12 = .ok (.aload_n 0, 1) := by decide +kernel
theorem dX10_next_13 : decode cX10_next 13 = .ok (.invokevirtual 171, 3) := by decide +kernel
theorem dX10_next_16 : decode cX10_next 16 = .ok (.aload_n 0, 1) := by decide +kernel
theorem dX10_next_17 : decode cX10_next 17 = .ok (.invokevirtual 168, 3) := by decide +kernel
theorem dX10_next_20 : decode cX10_next 20 = .ok (.istore_n 2, 1) := by decide +kernel
theorem dX10_next_21 : decode cX10_next 21 = .ok (.iload_n 1, 1) := by decide +kernel
theorem dX10_next_22 : decode cX10_next 22 = .ok (.iconst 3, 1) := by decide +kernel
theorem dX10_next_23 : decode cX10_next 23 = .ok (.if_icmp .ge 12, 3) := by decide +kernel
theorem dX10_next_26 : decode cX10_next 26 = .ok (.aload_n 0, 1) := by decide +kernel
theorem dX10_next_27 : decode cX10_next 27 = .ok (.getfield 7, 3) := by decide +kernel
theorem dX10_next_30 : decode cX10_next 30 = .ok (.iload_n 1, 1) := by decide +kernel
theorem dX10_next_31 : decode cX10_next 31 = .ok (.iaload, 1) := by decide +kernel
theorem dX10_next_32 : decode cX10_next 32 = .ok (.goto 16, 3) := by decide +kernel
theorem dX10_next_35 : decode cX10_next 35 = .ok (.iload_n 1, 1) := by decide +kernel
theorem dX10_next_36 : decode cX10_next 36 = .ok (.iconst 3, 1) := by decide +kernel
theorem dX10_next_37 : decode cX10_next 37 = .ok (.if_icmp .ne 7, 3) := by decide +kernel
theorem dX10_next_40 : decode cX10_next 40 = .ok (.iload_n 2, 1) := by decide +kernel
theorem dX10_next_41 : decode cX10_next 41 = .ok (.goto 7, 3) := by decide +kernel
theorem dX10_next_44 : decode cX10_next 44 = .ok (.aload_n 0, 1) := by decide +kernel
theorem dX10_next_45 : decode cX10_next 45 = .ok (.invokevirtual 147, 3) := by decide +kernel
theorem dX10_next_48 : decode cX10_next 48 = .ok (.istore_n 3, 1) := by decide +kernel
theorem dX10_next_49 : decode cX10_next 49 = .ok (.aload_n 0, 1) := by decide +kernel
theorem dX10_next_50 : decode cX10_next 50 = .ok (.invokevirtual 174, 3) := by decide +kernel
theorem dX10_next_53 : decode cX10_next 53 = .ok (.iload_n 3, 1) := by decide +kernel
theorem dX10_next_54 : decode cX10_next 54 = .ok (.ireturn, 1) := by decide +kernel
theorem dX10_may_0 : decode cX10_may 0 = .ok (.iload_n 1, 1) := by decide +kernel
theorem dX10_may_1 : decode cX10_may 1 = .ok (.invokestatic 156, 3) := by decide +kernel
theorem dX10_may_4 : decode cX10_may 4 = .ok (.ifCond .ne 6, 3) := by decide +kernel
theorem dX10_may_7 : decode cX10_may 7 = .ok (.bipush (-2), 2) := by decide +kernel
theorem dX10_may_9 : decode cX10_may 9 = .ok (.ireturn, 1) := by decide +kernel
theorem dX10_may_10 : decode cX10_may 10 = .ok (.aload_n 0, 1) := by decide +kernel
theorem dX10_may_11 : decode cX10_may 11 = .ok (.getfield 13, 3) := by decide +kernel
theorem dX10_may_14 : decode cX10_may 14 = .ok (.iload_n 1, 1) := by decide +kernel
theorem dX10_may_15 : decode cX10_may 15 = .ok (.iaload, 1) := by decide +kernel
theorem dX10_may_16 : decode cX10_may 16 = .ok (.istore_n 2, 1) := by decide +kernel
theorem dX10_may_17 : decode cX10_may 17 = .ok (.iconst 0, 1) := by decide +kernel
theorem dX10_may_18 : decode cX10_may 18 = .ok (.istore_n 3, 1) := by decide +kernel
theorem dX10_may_19 : decode cX10_may 19 = .ok (.iconst 0, 1) := by decide +kernel
theorem dX10_may_20 : decode cX10_may 20 = .ok (.istore 4, 2) := by decide +kernel
theorem dX10_may_22 : decode cX10_may 22 = .ok (.iload 4, 2) := by decide +kernel
theorem dX10_may_24 : decode cX10_may 24 = .ok (.iconst 4, 1) := by decide +kernel
theorem dX10_may_25 : decode cX10_may 25 = .ok (.if_icmp .ge 35, 3) := by decide +kernel
theorem dX10_may_28 : decode cX10_may 28 = .ok (.aload_n 0, 1) := by decide +kernel
theorem dX10_may_29 : decode cX10_may 29 = .ok (.getfield 13, 3) := by decide +kernel
theorem dX10_may_32 : decode cX10_may 32 = .ok (.iload_n 1, 1) := by decide +kernel
theorem dX10_may_33 : decode cX10_may 33 = .ok (.iload 4, 2) := by decide +kernel
theorem dX10_may_35 : decode cX10_may 35 = .ok (.iastore, 1) := by decide +kernel
theorem dX10_may_36 : decode cX10_may 36 = .ok (.iload_n 3, 1) := by decide +kernel
theorem dX10_may_37 : decode cX10_may 37 = .ok (.aload_n 0, 1) := by decide +kernel
theorem dX10_may_38 : decode cX10_may 38 = .ok (.invokevirtual 177, 3) := by decide +kernel
theorem dX10_may_41 : decode cX10_may 41 = .ok (.ifCond .ne 10, 3) := by decide +kernel
theorem dX10_may_44 : decode cX10_may 44 = .ok (.iconst 1, 1) := by decide +kernel
theorem dX10_may_45 : decode cX10_may 45 = .ok (.iload 4, 2) := by decide +kernel
theorem dX10_may_47 : decode cX10_may 47 = .ok (.ishl, 1) := by decide +kernel
theorem dX10_may_48 : decode cX10_may 48 = .ok (.goto 4, 3) := by decide +kernel
theorem dX10_may_51 : decode cX10_may 51 = .ok (.iconst 0, 1) := by decide +kernel
theorem dX10_may_52 : decode cX10_may 52 = .ok (.ior, 1) := by decide +kernel
theorem dX10_may_53 : decode cX10_may 53 = .ok (.istore_n 3, 1) := by decide +kernel
theorem dX10_may_54 : decode cX10_may 54 = .ok (.iinc 4 1, 3) := by decide +kernel
theorem dX10_may_57 : decode cX10_may 57 = .ok (.goto (-35), 3) := by decide +kernel
theorem dX10_may_60 : decode cX10_may 60 = .ok (.aload_n 0, 1) := by decide +kernel
theorem dX10_may_61 : decode cX10_may 61 = .ok (.getfield 13, 3) := by decide +kernel
theorem dX10_may_64 : decode cX10_may 64 = .ok (.iload_n 1, 1) := by decide +kernel
theorem dX10_may_65 : decode cX10_may 65 = .ok (.iload_n 2, 1) := by decide +kernel
theorem dX10_may_66 : decode cX10_may 66 = .ok (.iastore, 1) := by decide +kernel
theorem dX10_may_67 : decode cX10_may 67 = .ok (.iload_n 3, 1) := by decide +kernel
theorem dX10_may_68 : decode cX10_may 68 = .ok (.ireturn, 1) := by decide +kernel
theorem dX10_weakest_0 : decode cX10_weakest 0 = .ok (.iload_n 1, 1) := by decide +kernel
theorem dX10_weakest_1 : decode cX10_weakest 1 = .ok (.invokestatic 156, 3) := by decide +kernel
theorem dX10_weakest_4 : decode cX10_weakest 4 = .ok (.ifCond .ne 6, 3) := by decide +kernel
theorem dX10_weakest_7 : decode cX10_weakest 7 = .ok (.bipush (-2), 2) := by decide +kernel
theorem dX10_weakest_9 : decode cX10_weakest 9 = .ok (.ireturn, 1) := by decide +kernel
theorem dX10_weakest_10 : decode cX10_weakest 10 = .ok (.iconst (-1), 1) := by decide +kernel
theorem dX10_weakest_11 : decode cX10_weakest 11 = .ok (.istore_n 2, 1) := by decide +kernel
theorem dX10_weakest_12 : decode cX10_weakest 12 = .ok (.iconst 0, 1) := by decide +kernel
theorem dX10_weakest_13 : decode cX10_weakest 13 = .ok (.istore_n 3, 1) := by decide +kernel
theorem dX10_weakest_14 : decode cX10_weakest 14 = .ok (.iload_n 3, 1) := by decide +kernel
theorem dX10_weakest_15 : decode cX10_weakest 15 = .ok (.aload_n 0, 1) := by decide +kernel
theorem dX10_weakest_16 : decode cX10_weakest 16 = .ok (.getfield 86, 3) := by decide +kernel
theorem dX10_weakest_19 : decode cX10_weakest 19 = .ok (.if_icmp .ge 58, 3) := by decide +kernel
theorem dX10_weakest_22 : decode cX10_weakest 22 = .ok (.aload_n 0, 1) := by decide +kernel
theorem dX10_weakest_23 : decode cX10_weakest 23 = .ok (.getfield 22, 3) := by decide +kernel
theorem dX10_weakest_26 : decode cX10_weakest 26 = .ok (.iload_n 3, 1) := by decide +kernel
theorem dX10_weakest_27 : decode cX10_weakest 27 = .ok (.iaload, 1) := by decide +kernel
theorem dX10_weakest_28 : decode cX10_weakest 28 = .ok (.iload_n 1, 1) := by decide +kernel
theorem dX10_weakest_29 : decode cX10_weakest 29 = .ok (.if_icmp .ne 42, 3) := by decide +kernel
theorem dX10_weakest_32 : decode cX10_weakest 32 = .ok (.aload_n 0, 1) := by decide +kernel
theorem dX10_weakest_33 : decode cX10_weakest 33 = .ok (.iload_n 3, 1) := by decide +kernel
theorem dX10_weakest_34 : decode cX10_weakest 34 = .ok (.invokevirtual 127, 3) := by decide +kernel
theorem dX10_weakest_37 : decode cX10_weakest 37 = .ok (.ifCond .ne 34, 3) := by decide +kernel
theorem dX10_weakest_40 : decode cX10_weakest 40 = .ok (.iload_n 2, 1) := by decide +kernel
theorem dX10_weakest_41 : decode cX10_weakest 41 = .ok (.ifCond .lt 28, 3) := by decide +kernel
theorem dX10_weakest_44 : decode cX10_weakest 44 = .ok (.aload_n 0, 1) := by decide +kernel
theorem dX10_weakest_45 : decode cX10_weakest 45 = .ok (.iload_n 3, 1) := by decide +kernel
theorem dX10_weakest_46 : decode cX10_weakest 46 = .ok (.aload_n 0, 1) := by decide +kernel
theorem dX10_weakest_47 : decode cX10_weakest 47 = .ok (.getfield 7, 3) := by decide +kernel
theorem dX10_weakest_50 : decode cX10_weakest 50 = .ok (.iload_n 1, 1) := by decide +kernel
theorem dX10_weakest_51 : decode cX10_weakest 51 = .ok (.iaload, 1) := by decide +kernel
theorem dX10_weakest_52 : decode cX10_weakest 52 = .ok (.invokevirtual 115, 3) := by decide +kernel
theorem dX10_weakest_55 : decode cX10_weakest 55 = .ok (.aload_n 0, 1) := by decide +kernel
theorem dX10_weakest_56 : decode cX10_weakest 56 = .ok (.iload_n 2, 1) := by decide +kernel
theorem dX10_weakest_57 : decode cX10_weakest 57 = .ok (.aload_n 0, 1) := by decide +kernel
theorem dX10_weakest_58 : decode cX10_weakest 58 = .ok (.getfield 7, 3) := by decide +kernel
theorem dX10_weakest_61 : decode cX10_weakest 61 = .ok (.iload_n 1, 1) := by decide +kernel
theorem dX10_weakest_62 : decode cX10_weakest 62 = .ok (.iaload, 1) := by decide +kernel
theorem dX10_weakest_63 : decode cX10_weakest 63 = .ok (.invokevirtual 115, 3) := by decide +kernel
theorem dX10_weakest_66 : decode cX10_weakest 66 = .ok (.if_icmp .ge 5, 3) := by decide +kernel
theorem dX10_weakest_69 : decode cX10_weakest 69 = .ok (.iload_n 3, 1) := by decide +kernel
theorem dX10_weakest_70 : decode cX10_weakest 70 = .ok (.istore_n 2, 1) := by decide +kernel
theorem dX10_weakest_71 : decode cX10_weakest 71 = .ok (.iinc 3 1, 3) := by decide +kernel
theorem dX10_weakest_74 : decode cX10_weakest 74 = .ok (.goto (-60), 3) := by decide +kernel
theorem dX10_weakest_77 : decode cX10_weakest 77 = .ok (.iload_n 2, 1) := by decide +kernel
theorem dX10_weakest_78 : decode cX10_weakest 78 = .ok (.ireturn, 1) := by decide +kernel
theorem dX10_until_0 : decode cX10_until 0 = .ok (.iload_n 1, 1) := by decide +kernel
theorem dX10_until_1 : decode cX10_until 1 = .ok (.invokestatic 156, 3) := by decide +kernel
theorem dX10_until_4 : decode cX10_until 4 = .ok (.ifCond .eq 10, 3) := by decide +kernel
theorem dX10_until_7 : decode cX10_until 7 = .ok (.iload_n 2, 1) := by decide +kernel
theorem dX10_until_8 : decode cX10_until 8 = .ok (.invokestatic 159, 3) := by decide +kernel
theorem dX10_until_11 : decode cX10_until 11 = .ok (.ifCond .ne 6, 3) := by decide +kernel
theorem dX10_until_14 : decode cX10_until 14 = .ok (.bipush (-2), 2) := by decide +kernel
theorem dX10_until_16 : decode cX10_until 16 = .ok (.ireturn, 1) := by decide +kernel
theorem dX10_until_17 : decode cX10_until 17 = .ok (.aload_n 0, 1) := by decide +kernel
theorem dX10_until_18 : decode cX10_until 18 = .ok (.invokevirtual 171, 3) := by decide +kernel
theorem dX10_until_21 : decode cX10_until 21 = .ok (.iconst 0, 1) := by decide +kernel
theorem dX10_until_22 : decode cX10_until 22 = .ok (.istore_n 3, 1) := by decide +kernel
theorem dX10_until_23 : decode cX10_until 23 = .ok (.iload_n 3, 1) := by decide +kernel
theorem dX10_until_24 : decode cX10_until 24 = .ok (.bipush 60, 2) := by decide +kernel
theorem dX10_until_26 : decode cX10_until 26 = .ok (.if_icmp .gt 25, 3) := by decide +kernel
theorem dX10_until_29 : decode cX10_until 29 = .ok (.aload_n 0, 1) := by decide +kernel
theorem dX10_until_30 : decode cX10_until 30 = .ok (.getfield 7, 3) := by decide +kernel
theorem dX10_until_33 : decode cX10_until 33 = .ok (.iload_n 1, 1) := by decide +kernel
theorem dX10_until_34 : decode cX10_until 34 = .ok (.iaload, 1) := by decide +kernel
theorem dX10_until_35 : decode cX10_until 35 = .ok (.iload_n 2, 1) := by decide +kernel
theorem dX10_until_36 : decode cX10_until 36 = .ok (.if_icmp .ge 15, 3) := by decide +kernel
theorem dX10_until_39 : decode cX10_until 39 = .ok (.aload_n 0, 1) := by decide +kernel
theorem dX10_until_40 : decode cX10_until 40 = .ok (.invokevirtual 168, 3) := by decide +kernel
theorem dX10_until_43 : decode cX10_until 43 = .ok (.istore 4, 2) := by decide +kernel
theorem dX10_until_45 : decode cX10_until 45 = .ok (.iinc 3 1, 3) := by decide +kernel
theorem dX10_until_48 : decode cX10_until 48 = .ok (.goto (-25), 3) := by decide +kernel
theorem dX10_until_51 : decode cX10_until 51 = .ok (.aload_n 0, 1) := by decide +kernel
theorem dX10_until_52 : decode cX10_until 52 = .ok (.invokevirtual 174, 3) := by decide +kernel
theorem dX10_until_55 : decode cX10_until 55 = .ok (.iload_n 3, 1) := by decide +kernel
theorem dX10_until_56 : decode cX10_until 56 = .ok (.bipush 60, 2) := by decide +kernel
theorem dX10_until_58 : decode cX10_until 58 = .ok (.if_icmp .le 7, 3) := by decide +kernel
theorem dX10_until_61 : decode cX10_until 61 = .ok (.iconst (-1), 1) := by decide +kernel
theorem dX10_until_62 : decode cX10_until 62 = .ok (.goto 4, 3) := by decide +kernel
theorem dX10_until_65 : decode cX10_until 65 = .ok (.iload_n 3, 1) := by decide +kernel
theorem dX10_until_66 : decode cX10_until 66 = .ok (.ireturn, 1) := by decide +kernel
theorem dX10_hottest_0 : decode cX10_hottest 0 = .ok (.aload_n 0, 1) := by decide +kernel
theorem dX10_hottest_1 : decode cX10_hottest 1 = .ok (.getfield 7, 3) := by decide +kernel
theorem dX10_hottest_4 : decode cX10_hottest 4 = .ok (.iconst 0, 1) := by decide +kernel
theorem dX10_hottest_5 : decode cX10_hottest 5 = .ok (.iaload, 1) := by decide +kernel
theorem dX10_hottest_6 : decode cX10_hottest 6 = .ok (.aload_n 0, 1) := by decide +kernel
theorem dX10_hottest_7 : decode cX10_hottest 7 = .ok (.getfield 7, 3) := by decide +kernel
theorem dX10_hottest_10 : decode cX10_hottest 10 = .ok (.iconst 1, 1) := by decide +kernel
theorem dX10_hottest_11 : decode cX10_hottest 11 = .ok (.iaload, 1) := by decide +kernel
theorem dX10_hottest_12 : decode cX10_hottest 12 = .ok (.aload_n 0, 1) := by decide +kernel
theorem dX10_hottest_13 : decode cX10_hottest 13 = .ok (.getfield 7, 3) := by decide +kernel
theorem dX10_hottest_16 : decode cX10_hottest 16 = .ok (.iconst 2, 1) := by decide +kernel
theorem dX10_hottest_17 : decode cX10_hottest 17 = .ok (.iaload, 1) := by decide +kernel
theorem dX10_hottest_18 : decode cX10_hottest 18 = .ok (.invokestatic 90, 3) := by decide +kernel
theorem dX10_hottest_21 : decode cX10_hottest 21 = .ok (.invokestatic 90, 3) := by decide +kernel
theorem dX10_hottest_24 : decode cX10_hottest 24 = .ok (.ireturn, 1) := by decide +kernel
theorem dX10_cool_0 : decode cX10_cool 0 = .ok (.iload_n 1, 1) := by decide +kernel
theorem dX10_cool_1 : decode cX10_cool 1 = .ok (.invokestatic 159, 3) := by decide +kernel
theorem dX10_cool_4 : decode cX10_cool 4 = .ok (.ifCond .ne 6, 3) := by decide +kernel
theorem dX10_cool_7 : decode cX10_cool 7 = .ok (.bipush (-2), 2) := by decide +kernel
theorem dX10_cool_9 : decode cX10_cool 9 = .ok (.ireturn, 1) := by decide +kernel
theorem dX10_cool_10 : decode cX10_cool 10 = .ok (.aload_n 0, 1) := by decide +kernel
theorem dX10_cool_11 : decode cX10_cool 11 = .ok (.invokevirtual 171, 3) := by decide +kernel
theorem dX10_cool_14 : decode cX10_cool 14 = .ok (.aload_n 0, 1) := by decide +kernel
theorem dX10_cool_15 : decode cX10_cool 15 = .ok (.iconst 0, 1) := by decide +kernel
theorem dX10_cool_16 : decode cX10_cool 16 = .ok (.invokevirtual 180, 3) := by decide +kernel
theorem dX10_cool_19 : decode cX10_cool 19 = .ok (.iconst 0, 1) := by decide +kernel
theorem dX10_cool_20 : decode cX10_cool 20 = .ok (.istore_n 2, 1) := by decide +kernel
theorem dX10_cool_21 : decode cX10_cool 21 = .ok (.iload_n 2, 1) := by decide +kernel
theorem dX10_cool_22 : decode cX10_cool 22 = .ok (.bipush 60, 2) := by decide +kernel
theorem dX10_cool_24 : decode cX10_cool 24 = .ok (.if_icmp .gt 22, 3) := by decide +kernel
theorem dX10_cool_27 : decode cX10_cool 27 = .ok (.aload_n 0, 1) := by decide +kernel
theorem dX10_cool_28 : decode cX10_cool 28 = .ok (.invokevirtual 184, 3) := by decide +kernel
theorem dX10_cool_31 : decode cX10_cool 31 = .ok (.iload_n 1, 1) := by decide +kernel
theorem dX10_cool_32 : decode cX10_cool 32 = .ok (.if_icmp .le 14, 3) := by decide +kernel
theorem dX10_cool_35 : decode cX10_cool 35 = .ok (.aload_n 0, 1) := by decide +kernel
theorem dX10_cool_36 : decode cX10_cool 36 = .ok (.invokevirtual 168, 3) := by decide +kernel
theorem dX10_cool_39 : decode cX10_cool 39 = .ok (.istore_n 3, 1) := by decide +kernel
theorem dX10_cool_40 : decode cX10_cool 40 = .ok (.iinc 2 1, 3) := by decide +kernel
theorem dX10_cool_43 : decode cX10_cool 43 = .ok (.goto (-22), 3) := by decide +kernel
theorem dX10_cool_46 : decode cX10_cool 46 = .ok (.aload_n 0, 1) := by decide +kernel
theorem dX10_cool_47 : decode cX10_cool 47 = .ok (.invokevirtual 174, 3) := by decide +kernel
theorem dX10_cool_50 : decode cX10_cool 50 = .ok (.iload_n 2, 1) := by decide +kernel
theorem dX10_cool_51 : decode cX10_cool 51 = .ok (.bipush 60, 2) := by decide +kernel
theorem dX10_cool_53 : decode cX10_cool 53 = .ok (.if_icmp .le 7, 3) := by decide +kernel
theorem dX10_cool_56 : decode cX10_cool 56 = .ok (.iconst (-1), 1) := by decide +kernel
theorem dX10_cool_57 : decode cX10_cool 57 = .ok (.goto 4, 3) := by decide +kernel
theorem dX10_cool_60 : decode cX10_cool 60 = .ok (.iload_n 2, 1) := by decide +kernel
theorem dX10_cool_61 : decode cX10_cool 61 = .ok (.ireturn, 1) := by decide +kernel
theorem dX10_setAll_0 : decode cX10_setAll 0 = .ok (.iconst 0, 1) := by decide +kernel
theorem dX10_setAll_1 : decode cX10_setAll 1 = .ok (.istore_n 2, 1) := by decide +kernel
theorem dX10_setAll_2 : decode cX10_setAll 2 = .ok (.iload_n 2, 1) := by decide +kernel
theorem dX10_setAll_3 : decode cX10_setAll 3 = .ok (.iconst 3, 1) := by decide +kernel
theorem dX10_setAll_4 : decode cX10_setAll 4 = .ok (.if_icmp .ge 16, 3) := by decide +kernel
theorem dX10_setAll_7 : decode cX10_setAll 7 = .ok (.aload_n 0, 1) := by decide +kernel
theorem dX10_setAll_8 : decode cX10_setAll 8 = .ok (.getfield 13, 3) := by decide +kernel
theorem dX10_setAll_11 : decode cX10_setAll 11 = .ok (.iload_n 2, 1) := by decide +kernel
theorem dX10_setAll_12 : decode cX10_setAll 12 = .ok (.iload_n 1, 1) := by decide +kernel
theorem dX10_setAll_13 : decode cX10_setAll 13 = .ok (.iastore, 1) := by decide +kernel
theorem dX10_setAll_14 : decode cX10_setAll 14 = .ok (.iinc 2 1, 3) := by decide +kernel
theorem dX10_setAll_17 : decode cX10_setAll 17 = .ok (.goto (-15), 3) := by decide +kernel
theorem dX10_setAll_20 : decode cX10_setAll 20 = .ok (.return_, 1) := by decide +kernel
theorem dX10_feed_0 : decode cX10_feed 0 = .ok (.iload_n 1, 1) := by decide +kernel
theorem dX10_feed_1 : decode cX10_feed 1 = .ok (.iconst 1, 1) := by decide +kernel
theorem dX10_feed_2 : decode cX10_feed 2 = .ok (.bipush 8, 2) := by decide +kernel
theorem dX10_feed_4 : decode cX10_feed 4 = .ok (.invokestatic 82, 3) := by decide +kernel
theorem dX10_feed_7 : decode cX10_feed 7 = .ok (.ifCond .ne 6, 3) := by decide +kernel
theorem dX10_feed_10 : decode cX10_feed 10 = .ok (.bipush (-2), 2) := by decide +kernel
theorem dX10_feed_12 : decode cX10_feed 12 = .ok (.ireturn, 1) := by decide +kernel
theorem dX10_feed_13 : decode cX10_feed 13 = .ok (.iconst 0, 1) := by decide +kernel
theorem dX10_feed_14 : decode cX10_feed 14 = .ok (.istore 4, 2) := by decide +kernel
theorem dX10_feed_16 : decode cX10_feed 16 = .ok (.iload 4, 2) := by decide +kernel
theorem dX10_feed_18 : decode cX10_feed 18 = .ok (.iload_n 1, 1) := by decide +kernel
theorem dX10_feed_19 : decode cX10_feed 19 = .ok (.if_icmp .ge 30, 3) := by decide +kernel
theorem dX10_feed_22 : decode cX10_feed 22 = .ok (.lload_n 2, 1) := by decide +kernel
theorem dX10_feed_23 : decode cX10_feed 23 = .ok (.bipush 8, 2) := by decide +kernel
theorem dX10_feed_25 : decode cX10_feed 25 = .ok (.iload 4, 2) := by decide +kernel
theorem dX10_feed_27 : decode cX10_feed 27 = .ok (.imul, 1) := by decide +kernel
theorem dX10_feed_28 : decode cX10_feed 28 = .ok (.lushr, 1) := by decide +kernel
theorem dX10_feed_29 : decode cX10_feed 29 = .ok (.ldc2_w 187, 3) := by decide +kernel
theorem dX10_feed_32 : decode cX10_feed 32 = .ok (.land, 1) := by decide +kernel
theorem dX10_feed_33 : decode cX10_feed 33 = .ok (.ldc2_w 189, 3) := by decide +kernel
theorem dX10_feed_36 : decode cX10_feed 36 = .ok (.lcmp, 1) := by decide +kernel
theorem dX10_feed_37 : decode cX10_feed 37 = .ok (.ifCond .le 6, 3) := by decide +kernel
theorem dX10_feed_40 : decode cX10_feed 40 = .ok (.bipush (-2), 2) := by decide +kernel
theorem dX10_feed_42 : decode cX10_feed 42 = .ok (.ireturn, 1) := by decide +kernel
theorem dX10_feed_43 : decode cX10_feed 43 = .ok (.iinc 4 1, 3) := by decide +kernel
theorem dX10_feed_46 : decode cX10_feed 46 = .ok (.goto (-30), 3) := by decide +kernel
theorem dX10_feed_49 : decode cX10_feed 49 = .ok (.aload_n 0, 1) := by decide +kernel
theorem dX10_feed_50 : decode cX10_feed 50 = .ok (.getfield 191, 3) := by decide +kernel
theorem dX10_feed_53 : decode cX10_feed 53 = .ok (.iload_n 1, 1) := by decide +kernel
theorem dX10_feed_54 : decode cX10_feed 54 = .ok (.iadd, 1) := by decide +kernel
theorem dX10_feed_55 : decode cX10_feed 55 = .ok (.bipush 120, 2) := by decide +kernel
theorem dX10_feed_57 : decode cX10_feed 57 = .ok (.if_icmp .le 6, 3) := by decide +kernel
theorem dX10_feed_60 : decode cX10_feed 60 = .ok (.bipush (-4), 2) := by decide +kernel
theorem dX10_feed_62 : decode cX10_feed 62 = .ok (.ireturn, 1) := by decide +kernel
theorem dX10_feed_63 : decode cX10_feed 63 = .ok (.iconst 0, 1) := by decide +kernel
theorem dX10_feed_64 : decode cX10_feed 64 = .ok (.istore 4, 2) := by decide +kernel
theorem dX10_feed_66 : decode cX10_feed 66 = .ok (.iload 4, 2) := by decide +kernel
theorem dX10_feed_68 : decode cX10_feed 68 = .ok (.iload_n 1, 1) := by decide +kernel
theorem dX10_feed_69 : decode cX10_feed 69 = .ok (.if_icmp .ge 40, 3) := by decide +kernel
theorem dX10_feed_72 : decode cX10_feed 72 = .ok (.aload_n 0, 1) := by decide +kernel
theorem dX10_feed_73 : decode cX10_feed 73 = .ok (.getfield 40, 3) := by decide +kernel
theorem dX10_feed_76 : decode cX10_feed 76 = .ok (.aload_n 0, 1) := by decide +kernel
theorem dX10_feed_77 : decode cX10_feed 77 = .ok (.getfield 191, 3) := by decide +kernel
theorem dX10_feed_80 : decode cX10_feed 80 = .ok (.lload_n 2, 1) := by decide +kernel
theorem dX10_feed_81 : decode cX10_feed 81 = .ok (.bipush 8, 2) := by decide +kernel
theorem dX10_feed_83 : decode cX10_feed 83 = .ok (.iload 4, 2) := by decide +kernel
theorem dX10_feed_85 : decode cX10_feed 85 = .ok (.imul, 1) := by decide +kernel
theorem dX10_feed_86 : decode cX10_feed 86 = .ok (.lushr, 1) := by decide +kernel
theorem dX10_feed_87 : decode cX10_feed 87 = .ok (.ldc2_w 187, 3) := by decide +kernel
theorem dX10_feed_90 : decode cX10_feed 90 = .ok (.land, 1) := by decide +kernel
theorem dX10_feed_91 : decode cX10_feed 91 = .ok (.l2i, 1) := by decide +kernel
theorem dX10_feed_92 : decode cX10_feed 92 = .ok (.iastore, 1) := by decide +kernel
theorem dX10_feed_93 : decode cX10_feed 93 = .ok (.aload_n 0, 1) := by decide +kernel
theorem dX10_feed_94 : decode cX10_feed 94 = .ok (.dup, 1) := by decide +kernel
theorem dX10_feed_95 : decode cX10_feed 95 = .ok (.getfield 191, 3) := by decide +kernel
theorem dX10_feed_98 : decode cX10_feed 98 = .ok (.iconst 1, 1) := by decide +kernel
theorem dX10_feed_99 : decode cX10_feed 99 = .ok (.iadd, 1) := by decide +kernel
theorem dX10_feed_100 : decode cX10_feed 100 = .ok (.putfield 191, 3) := by decide +kernel
theorem dX10_feed_103 : decode cX10_feed 103 = .ok (.iinc 4 1, 3) := by decide +kernel
theorem dX10_feed_106 : decode cX10_feed 106 = .ok (.goto (-40), 3) := by decide +kernel
theorem dX10_feed_109 : decode cX10_feed 109 = .ok (.aload_n 0, 1) := by decide +kernel
theorem dX10_feed_110 : decode cX10_feed 110 = .ok (.getfield 191, 3) := by decide +kernel
theorem dX10_feed_113 : decode cX10_feed 113 = .ok (.ireturn, 1) := by decide +kernel
theorem dX10_word_0 : decode cX10_word 0 = .ok (.iload_n 0, 1) := by decide +kernel
theorem dX10_word_1 : decode cX10_word 1 = .ok (.ifCond .ne 8, 3) := by decide +kernel
theorem dX10_word_4 : decode cX10_word 4 = .ok (.ldc 194, 2) := by decide +kernel
theorem dX10_word_6 : decode cX10_word 6 = .ok (.goto 25, 3) := by decide +kernel
theorem dX10_word_9 : decode cX10_word 9 = .ok (.iload_n 0, 1) := by decide +kernel
theorem dX10_word_10 : decode cX10_word 10 = .ok (.iconst 1, 1) := by decide +kernel
theorem dX10_word_11 : decode cX10_word 11 = .ok (.if_icmp .ne 8, 3) := by decide +kernel
theorem dX10_word_14 : decode cX10_word 14 = .ok (.ldc 196, 2) := by decide +kernel
theorem dX10_word_16 : decode cX10_word 16 = .ok (.goto 15, 3) := by decide +kernel
theorem dX10_word_19 : decode cX10_word 19 = .ok (.iload_n 0, 1) := by decide +kernel
theorem dX10_word_20 : decode cX10_word 20 = .ok (.iconst 2, 1) := by decide +kernel
theorem dX10_word_21 : decode cX10_word 21 = .ok (.if_icmp .ne 8, 3) := by decide +kernel
theorem dX10_word_24 : decode cX10_word 24 = .ok (.ldc 198, 2) := by decide +kernel
theorem dX10_word_26 : decode cX10_word 26 = .ok (.goto 5, 3) := by decide +kernel
theorem dX10_word_29 : decode cX10_word 29 = .ok (.ldc 200, 2) := by decide +kernel
theorem dX10_word_31 : decode cX10_word 31 = .ok (.areturn, 1) := by decide +kernel
theorem dX10_isWord_0 : decode cX10_isWord 0 = .ok (.aload_n 0, 1) := by decide +kernel
theorem dX10_isWord_1 : decode cX10_isWord 1 = .ok (.getfield 202, 3) := by decide +kernel
theorem dX10_isWord_4 : decode cX10_isWord 4 = .ok (.aload_n 0, 1) := by decide +kernel
theorem dX10_isWord_5 : decode cX10_isWord 5 = .ok (.getfield 205, 3) := by decide +kernel
theorem dX10_isWord_8 : decode cX10_isWord 8 = .ok (.isub, 1) := by decide +kernel
theorem dX10_isWord_9 : decode cX10_isWord 9 = .ok (.aload_n 1, 1) := by decide +kernel
theorem dX10_isWord_10 : decode cX10_isWord 10 = .ok (.invokevirtual 208, 3) := by decide +kernel
theorem dX10_isWord_13 : decode cX10_isWord 13 = .ok (.if_icmp .eq 5, 3) := by decide +kernel
theorem dX10_isWord_16 : decode cX10_isWord 16 = .ok (.iconst 0, 1) := by decide +kernel
theorem dX10_isWord_17 : decode cX10_isWord 17 = .ok (.ireturn, 1) := by decide +kernel
theorem dX10_isWord_18 : decode cX10_isWord 18 = .ok (.iconst 0, 1) := by decide +kernel
theorem dX10_isWord_19 : decode cX10_isWord 19 = .ok (.istore_n 2, 1) := by decide +kernel
theorem dX10_isWord_20 : decode cX10_isWord 20 = .ok (.iload_n 2, 1) := by decide +kernel
theorem dX10_isWord_21 : decode cX10_isWord 21 = .ok (.aload_n 1, 1) := by decide +kernel
theorem dX10_isWord_22 : decode cX10_isWord 22 = .ok (.invokevirtual 208, 3) := by decide +kernel
theorem dX10_isWord_25 : decode cX10_isWord 25 = .ok (.if_icmp .ge 30, 3) := by decide +kernel
theorem dX10_isWord_28 : decode cX10_isWord 28 = .ok (.aload_n 0, 1) := by decide +kernel
theorem dX10_isWord_29 : decode cX10_isWord 29 = .ok (.getfield 40, 3) := by decide +kernel
theorem dX10_isWord_32 : decode cX10_isWord 32 = .ok (.aload_n 0, 1) := by decide +kernel
theorem dX10_isWord_33 : decode cX10_isWord 33 = .ok (.getfield 205, 3) := by decide +kernel
theorem dX10_isWord_36 : decode cX10_isWord 36 = .ok (.iload_n 2, 1) := by decide +kernel
theorem dX10_isWord_37 : decode cX10_isWord 37 = .ok (.iadd, 1) := by decide +kernel
theorem dX10_isWord_38 : decode cX10_isWord 38 = .ok (.iaload, 1) := by decide +kernel
theorem dX10_isWord_39 : decode cX10_isWord 39 = .ok (.aload_n 1, 1) := by decide +kernel
theorem dX10_isWord_40 : decode cX10_isWord 40 = .ok (.iload_n 2, 1) := by decide +kernel
theorem dX10_isWord_41 : decode cX10_isWord 41 = .ok (.invokevirtual 212, 3) := by decide +kernel
theorem dX10_isWord_44 : decode cX10_isWord 44 = .ok (.if_icmp .eq 5, 3) := by decide +kernel
theorem dX10_isWord_47 : decode cX10_isWord 47 = .ok (.iconst 0, 1) := by decide +kernel
theorem dX10_isWord_48 : decode cX10_isWord 48 = .ok (.ireturn, 1) := by decide +kernel
theorem dX10_isWord_49 : decode cX10_isWord 49 = .ok (.iinc 2 1, 3) := by decide +kernel
theorem dX10_isWord_52 : decode cX10_isWord 52 = .ok (.goto (-32), 3) := by decide +kernel
theorem dX10_isWord_55 : decode cX10_isWord 55 = .ok (.iconst 1, 1) := by decide +kernel
theorem dX10_isWord_56 : decode cX10_isWord 56 = .ok (.ireturn, 1) := by decide +kernel
theorem dX10_isLetterHere_0 : decode cX10_isLetterHere 0 = .ok (.aload_n 0, 1) := by decide +kernel
theorem dX10_isLetterHere_1 : decode cX10_isLetterHere 1 = .ok (.getfield 202, 3) := by decide +kernel
theorem dX10_isLetterHere_4 : decode cX10_isLetterHere 4 = .ok (.aload_n 0, 1) := by decide +kernel
theorem dX10_isLetterHere_5 : decode cX10_isLetterHere 5 = .ok (.getfield 191, 3) := by decide +kernel
theorem dX10_isLetterHere_8 : decode cX10_isLetterHere 8 = .ok (.if_icmp .ge 26, 3) := by decide +kernel
theorem dX10_isLetterHere_11 : decode cX10_isLetterHere 11 = .ok (.aload_n 0, 1) := by decide +kernel
theorem dX10_isLetterHere_12 : decode cX10_isLetterHere 12 = .ok (.getfield 40, 3) := by decide +kernel
theorem dX10_isLetterHere_15 : decode cX10_isLetterHere 15 = .ok (.aload_n 0, 1) := by decide +kernel
theorem dX10_isLetterHere_16 : decode cX10_isLetterHere 16 = .ok (.getfield 202, 3) := by decide +kernel
theorem dX10_isLetterHere_19 : decode cX10_isLetterHere 19 = .ok (.iaload, 1) := by decide +kernel
theorem dX10_isLetterHere_20 : decode cX10_isLetterHere 20 = .ok (.bipush 97, 2) := by decide +kernel
theorem dX10_isLetterHere_22 : decode cX10_isLetterHere 22 = .ok (.bipush 122, 2) := by decide +kernel
theorem dX10_isLetterHere_24 : decode cX10_isLetterHere 24 = .ok (.invokestatic 82, 3) := by decide +kernel
theorem dX10_isLetterHere_27 : decode cX10_isLetterHere 27 = .ok (.ifCond .eq 7, 3) := by decide +kernel
theorem dX10_isLetterHere_30 : decode cX10_isLetterHere 30 = .ok (.iconst 1, 1) := by decide +kernel
theorem dX10_isLetterHere_31 : decode cX10_isLetterHere 31 = .ok (.goto 4, 3) := by decide +kernel
theorem dX10_isLetterHere_34 : decode cX10_isLetterHere 34 = .ok (.iconst 0, 1) := by decide +kernel
theorem dX10_isLetterHere_35 : decode cX10_isLetterHere 35 = .ok (.ireturn, 1) := by decide +kernel
theorem dX10_isDigitHere_0 : decode cX10_isDigitHere 0 = .ok (.aload_n 0, 1) := by decide +kernel
theorem dX10_isDigitHere_1 : decode cX10_isDigitHere 1 = .ok (.getfield 202, 3) := by decide +kernel
theorem dX10_isDigitHere_4 : decode cX10_isDigitHere 4 = .ok (.aload_n 0, 1) := by decide +kernel
theorem dX10_isDigitHere_5 : decode cX10_isDigitHere 5 = .ok (.getfield 191, 3) := by decide +kernel
theorem dX10_isDigitHere_8 : decode cX10_isDigitHere 8 = .ok (.if_icmp .ge 26, 3) := by decide +kernel
theorem dX10_isDigitHere_11 : decode cX10_isDigitHere 11 = .ok (.aload_n 0, 1) := by decide +kernel
theorem dX10_isDigitHere_12 : decode cX10_isDigitHere 12 = .ok (.getfield 40, 3) := by decide +kernel
theorem dX10_isDigitHere_15 : decode cX10_isDigitHere 15 = .ok (.aload_n 0, 1) := by decide +kernel
theorem dX10_isDigitHere_16 : decode cX10_isDigitHere 16 = .ok (.getfield 202, 3) := by decide +kernel
theorem dX10_isDigitHere_19 : decode cX10_isDigitHere 19 = .ok (.iaload, 1) := by decide +kernel
theorem dX10_isDigitHere_20 : decode cX10_isDigitHere 20 = .ok (.bipush 48, 2) := by decide +kernel
theorem dX10_isDigitHere_22 : decode cX10_isDigitHere 22 = .ok (.bipush 57, 2) := by decide +kernel
theorem dX10_isDigitHere_24 : decode cX10_isDigitHere 24 = .ok (.invokestatic 82, 3) := by decide +kernel
theorem dX10_isDigitHere_27 : decode cX10_isDigitHere 27 = .ok (.ifCond .eq 7, 3) := by decide +kernel
theorem dX10_isDigitHere_30 : decode cX10_isDigitHere 30 = .ok (.iconst 1, 1) := by decide +kernel
theorem dX10_isDigitHere_31 : decode cX10_isDigitHere 31 = .ok (.goto 4, 3) := by decide +kernel
theorem dX10_isDigitHere_34 : decode cX10_isDigitHere 34 = .ok (.iconst 0, 1) := by decide +kernel
theorem dX10_isDigitHere_35 : decode cX10_isDigitHere 35 = .ok (.ireturn, 1) := by decide +kernel
theorem dX10_nextToken_0 : decode cX10_nextToken 0 = .ok (.aload_n 0, 1) := by decide +kernel
theorem dX10_nextToken_1 : decode cX10_nextToken 1 = .ok (.getfield 202, 3) := by decide +kernel
theorem dX10_nextToken_4 : decode cX10_nextToken 4 = .ok (.aload_n 0, 1) := by decide +kernel
theorem dX10_nextToken_5 : decode cX10_nextToken 5 = .ok (.getfield 191, 3) := by decide +kernel
theorem dX10_nextToken_8 : decode cX10_nextToken 8 = .ok (.if_icmp .ge 44, 3) := by decide +kernel
theorem dX10_nextToken_11 : decode cX10_nextToken 11 = .ok (.aload_n 0, 1) := by decide +kernel
theorem dX10_nextToken_12 : decode cX10_nextToken 12 = .ok (.getfield 40, 3) := by decide +kernel
theorem dX10_nextToken_15 : decode cX10_nextToken 15 = .ok (.aload_n 0, 1) := by decide +kernel
theorem dX10_nextToken_16 : decode cX10_nextToken 16 = .ok (.getfield 202, 3) := by decide +kernel
theorem dX10_nextToken_19 : decode cX10_nextToken 19 = .ok (.iaload, 1) := by decide +kernel
theorem dX10_nextToken_20 : decode cX10_nextToken 20 = .ok (.bipush 32, 2) := by decide +kernel
theorem dX10_nextToken_22 : decode cX10_nextToken 22 = .ok (.if_icmp .eq 17, 3) := by decide +kernel
theorem dX10_nextToken_25 : decode cX10_nextToken 25 = .ok (.aload_n 0, 1) := by decide +kernel
theorem dX10_nextToken_26 : decode cX10_nextToken 26 = .ok (.getfield 40, 3) := by decide +kernel
theorem dX10_nextToken_29 : decode cX10_nextToken 29 = .ok (.aload_n 0, 1) := by decide +kernel
theorem dX10_nextToken_30 : decode cX10_nextToken 30 = .ok (.getfield 202, 3) := by decide +kernel
theorem dX10_nextToken_33 : decode cX10_nextToken 33 = .ok (.iaload, 1) := by decide +kernel
theorem dX10_nextToken_34 : decode cX10_nextToken 34 = .ok (.bipush 10, 2) := by decide +kernel
theorem dX10_nextToken_36 : decode cX10_nextToken 36 = .ok (.if_icmp .ne 16, 3) := by decide +kernel
theorem dX10_nextToken_39 : decode cX10_nextToken 39 = .ok (.aload_n 0, 1) := by decide +kernel
theorem dX10_nextToken_40 : decode cX10_nextToken 40 = .ok (.dup, 1) := by decide +kernel
theorem dX10_nextToken_41 : decode cX10_nextToken 41 = .ok (.getfield 202, 3) := by decide +kernel
theorem dX10_nextToken_44 : decode cX10_nextToken 44 = .ok (.iconst 1, 1) := by decide +kernel
theorem dX10_nextToken_45 : decode cX10_nextToken 45 = .ok (.iadd, 1) := by decide +kernel
theorem dX10_nextToken_46 : decode cX10_nextToken 46 = .ok (.putfield 202, 3) := by decide +kernel
theorem dX10_nextToken_49 : decode cX10_nextToken 49 = .ok (.goto (-49), 3) := by decide +kernel
theorem dX10_nextToken_52 : decode cX10_nextToken 52 = .ok (.aload_n 0, 1) := by decide +kernel
theorem dX10_nextToken_53 : decode cX10_nextToken 53 = .ok (.aload_n 0, 1) := by decide +kernel
theorem dX10_nextToken_54 : decode cX10_nextToken 54 = .ok (.getfield 202, 3) := by decide +kernel
theorem dX10_nextToken_57 : decode cX10_nextToken 57 = .ok (.putfield 205, 3) := by decide +kernel
theorem dX10_nextToken_60 : decode cX10_nextToken 60 = .ok (.aload_n 0, 1) := by decide +kernel
theorem dX10_nextToken_61 : decode cX10_nextToken 61 = .ok (.getfield 202, 3) := by decide +kernel
theorem dX10_nextToken_64 : decode cX10_nextToken 64 = .ok (.aload_n 0, 1) := by decide +kernel
theorem dX10_nextToken_65 : decode cX10_nextToken 65 = .ok (.getfield 191, 3) := by decide +kernel
theorem dX10_nextToken_68 : decode cX10_nextToken 68 = .ok (.if_icmp .ne 11, 3) := by decide +kernel
theorem dX10_nextToken_71 : decode cX10_nextToken 71 = .ok (.aload_n 0, 1) := by decide +kernel
theorem dX10_nextToken_72 : decode cX10_nextToken 72 = .ok (.iconst 0, 1) := by decide +kernel
theorem dX10_nextToken_73 : decode cX10_nextToken 73 = .ok (.putfield 216, 3) := by decide +kernel
theorem dX10_nextToken_76 : decode cX10_nextToken 76 = .ok (.goto 214, 3) := by decide +kernel
theorem dX10_nextToken_79 : decode cX10_nextToken 79 = .ok (.aload_n 0, 1) := by decide +kernel
theorem dX10_nextToken_80 : decode cX10_nextToken 80 = .ok (.invokevirtual 219, 3) := by decide +kernel
theorem dX10_nextToken_83 : decode cX10_nextToken 83 = .ok (.ifCond .eq 79, 3) := by decide +kernel
theorem dX10_nextToken_86 : decode cX10_nextToken 86 = .ok (.aload_n 0, 1) := by decide +kernel
theorem dX10_nextToken_87 : decode cX10_nextToken 87 = .ok (.invokevirtual 219, 3) := by decide +kernel
theorem dX10_nextToken_90 : decode cX10_nextToken 90 = .ok (.ifCond .eq 16, 3) := by decide +kernel
theorem dX10_nextToken_93 : decode cX10_nextToken 93 = .ok (.aload_n 0, 1) := by decide +kernel
theorem dX10_nextToken_94 : decode cX10_nextToken 94 = .ok (.dup, 1) := by decide +kernel
theorem dX10_nextToken_95 : decode cX10_nextToken 95 = .ok (.getfield 202, 3) := by decide +kernel
theorem dX10_nextToken_98 : decode cX10_nextToken 98 = .ok (.iconst 1, 1) := by decide +kernel
theorem dX10_nextToken_99 : decode cX10_nextToken 99 = .ok (.iadd, 1) := by decide +kernel
theorem dX10_nextToken_100 : decode cX10_nextToken 100 = .ok (.putfield 202, 3) := by decide +kernel
theorem dX10_nextToken_103 : decode cX10_nextToken 103 = .ok (.goto (-17), 3) := by decide +kernel
theorem dX10_nextToken_106 : decode cX10_nextToken 106 = .ok (.aload_n 0, 1) := by decide +kernel
theorem dX10_nextToken_107 : decode cX10_nextToken 107 = .ok (.aload_n 0, 1) := by decide +kernel
theorem dX10_nextToken_108 : decode cX10_nextToken 108 = .ok (.ldc 223, 2) := by decide +kernel
theorem dX10_nextToken_110 : decode cX10_nextToken 110 = .ok (.invokevirtual 225, 3) := by decide +kernel
theorem dX10_nextToken_113 : decode cX10_nextToken 113 = .ok (.ifCond .eq 7, 3) := by decide +kernel
theorem dX10_nextToken_116 : decode cX10_nextToken 116 = .ok (.iconst 2, 1) := by decide +kernel
theorem dX10_nextToken_117 : decode cX10_nextToken 117 = .ok (.goto 5, 3) := by decide +kernel
theorem dX10_nextToken_120 : decode cX10_nextToken 120 = .ok (.bipush 6, 2) := by decide +kernel
theorem dX10_nextToken_122 : decode cX10_nextToken 122 = .ok (.putfield 216, 3) := by decide +kernel
theorem dX10_nextToken_125 : decode cX10_nextToken 125 = .ok (.iconst 0, 1) := by decide +kernel
theorem dX10_nextToken_126 : decode cX10_nextToken 126 = .ok (.istore_n 1, 1) := by decide +kernel
theorem dX10_nextToken_127 : decode cX10_nextToken 127 = .ok (.iload_n 1, 1) := by decide +kernel
theorem dX10_nextToken_128 : decode cX10_nextToken 128 = .ok (.iconst 4, 1) := by decide +kernel
theorem dX10_nextToken_129 : decode cX10_nextToken 129 = .ok (.if_icmp .ge 30, 3) := by decide +kernel
theorem dX10_nextToken_132 : decode cX10_nextToken 132 = .ok (.aload_n 0, 1) := by decide +kernel
theorem dX10_nextToken_133 : decode cX10_nextToken 133 = .ok (.iload_n 1, 1) := by decide +kernel
theorem dX10_nextToken_134 : decode cX10_nextToken 134 = .ok (.invokestatic 229, 3) := by decide +kernel
theorem dX10_nextToken_137 : decode cX10_nextToken 137 = .ok (.invokevirtual 225, 3) := by decide +kernel
theorem dX10_nextToken_140 : decode cX10_nextToken 140 = .ok (.ifCond .eq 13, 3) := by decide +kernel
theorem dX10_nextToken_143 : decode cX10_nextToken 143 = .ok (.aload_n 0, 1) := by decide +kernel
theorem dX10_nextToken_144 : decode cX10_nextToken 144 = .ok (.iconst 1, 1) := by decide +kernel
theorem dX10_nextToken_145 : decode cX10_nextToken 145 = .ok (.putfield 216, 3) := by decide +kernel
theorem dX10_nextToken_148 : decode cX10_nextToken 148 = .ok (.aload_n 0, 1) := by decide +kernel
theorem dX10_nextToken_149 : decode cX10_nextToken 149 = .ok (.iload_n 1, 1) := by decide +kernel
theorem dX10_nextToken_150 : decode cX10_nextToken 150 = .ok (.putfield 233, 3) := by decide +kernel
theorem dX10_nextToken_153 : decode cX10_nextToken 153 = .ok (.iinc 1 1, 3) := by decide +kernel
theorem dX10_nextToken_156 : decode cX10_nextToken 156 = .ok (.goto (-29), 3) := by decide +kernel
theorem dX10_nextToken_159 : decode cX10_nextToken 159 = .ok (.goto 131, 3) := by decide +kernel
theorem dX10_nextToken_162 : decode cX10_nextToken 162 = .ok (.aload_n 0, 1) := by decide +kernel
theorem dX10_nextToken_163 : decode cX10_nextToken 163 = .ok (.invokevirtual 236, 3) := by decide +kernel
theorem dX10_nextToken_166 : decode cX10_nextToken 166 = .ok (.ifCond .eq 72, 3) := by decide +kernel
theorem dX10_nextToken_169 : decode cX10_nextToken 169 = .ok (.aload_n 0, 1) := by decide +kernel
theorem dX10_nextToken_170 : decode cX10_nextToken 170 = .ok (.invokevirtual 236, 3) := by decide +kernel
theorem dX10_nextToken_173 : decode cX10_nextToken 173 = .ok (.ifCond .eq 16, 3) := by decide +kernel
theorem dX10_nextToken_176 : decode cX10_nextToken 176 = .ok (.aload_n 0, 1) := by decide +kernel
theorem dX10_nextToken_177 : decode cX10_nextToken 177 = .ok (.dup, 1) := by decide +kernel
theorem dX10_nextToken_178 : decode cX10_nextToken 178 = .ok (.getfield 202, 3) := by decide +kernel
theorem dX10_nextToken_181 : decode cX10_nextToken 181 = .ok (.iconst 1, 1) := by decide +kernel
theorem dX10_nextToken_182 : decode cX10_nextToken 182 = .ok (.iadd, 1) := by decide +kernel
theorem dX10_nextToken_183 : decode cX10_nextToken 183 = .ok (.putfield 202, 3) := by decide +kernel
theorem dX10_nextToken_186 : decode cX10_nextToken 186 = .ok (.goto (-17), 3) := by decide +kernel
theorem dX10_nextToken_189 : decode cX10_nextToken 189 = .ok (.aload_n 0, 1) := by decide +kernel
theorem dX10_nextToken_190 : decode cX10_nextToken 190 = .ok (.aload_n 0, 1) := by decide +kernel
theorem dX10_nextToken_191 : decode cX10_nextToken 191 = .ok (.getfield 40, 3) := by decide +kernel
theorem dX10_nextToken_194 : decode cX10_nextToken 194 = .ok (.aload_n 0, 1) := by decide +kernel
theorem dX10_nextToken_195 : decode cX10_nextToken 195 = .ok (.getfield 205, 3) := by decide +kernel
theorem dX10_nextToken_198 : decode cX10_nextToken 198 = .ok (.iaload, 1) := by decide +kernel
theorem dX10_nextToken_199 : decode cX10_nextToken 199 = .ok (.bipush 48, 2) := by decide +kernel
theorem dX10_nextToken_201 : decode cX10_nextToken 201 = .ok (.isub, 1) := by decide +kernel
theorem dX10_nextToken_202 : decode cX10_nextToken 202 = .ok (.putfield 233, 3) := by decide +kernel
theorem dX10_nextToken_205 : decode cX10_nextToken 205 = .ok (.aload_n 0, 1) := by decide +kernel
theorem dX10_nextToken_206 : decode cX10_nextToken 206 = .ok (.aload_n 0, 1) := by decide +kernel
theorem dX10_nextToken_207 : decode cX10_nextToken 207 = .ok (.getfield 202, 3) := by decide +kernel
theorem dX10_nextToken_210 : decode cX10_nextToken 210 = .ok (.aload_n 0, 1) := by decide +kernel
theorem dX10_nextToken_211 : decode cX10_nextToken 211 = .ok (.getfield 205, 3) := by decide +kernel
theorem dX10_nextToken_214 : decode cX10_nextToken 214 = .ok (.isub, 1) := by decide +kernel
theorem dX10_nextToken_215 : decode cX10_nextToken 215 = .ok (.iconst 1, 1) := by decide +kernel
theorem dX10_nextToken_216 : decode cX10_nextToken 216 = .ok (.if_icmp .ne 14, 3) := by decide +kernel
theorem dX10_nextToken_219 : decode cX10_nextToken 219 = .ok (.aload_n 0, 1) := by decide +kernel
theorem dX10_nextToken_220 : decode cX10_nextToken 220 = .ok (.getfield 233, 3) := by decide +kernel
theorem dX10_nextToken_223 : decode cX10_nextToken 223 = .ok (.ifCond .le 7, 3) := by decide +kernel
theorem dX10_nextToken_226 : decode cX10_nextToken 226 = .ok (.iconst 3, 1) := by decide +kernel
theorem dX10_nextToken_227 : decode cX10_nextToken 227 = .ok (.goto 5, 3) := by decide +kernel
theorem dX10_nextToken_230 : decode cX10_nextToken 230 = .ok (.bipush 6, 2) := by decide +kernel
theorem dX10_nextToken_232 : decode cX10_nextToken 232 = .ok (.putfield 216, 3) := by decide +kernel
theorem dX10_nextToken_235 : decode cX10_nextToken 235 = .ok (.goto 55, 3) := by decide +kernel
theorem dX10_nextToken_238 : decode cX10_nextToken 238 = .ok (.aload_n 0, 1) := by decide +kernel
theorem dX10_nextToken_239 : decode cX10_nextToken 239 = .ok (.aload_n 0, 1) := by decide +kernel
theorem dX10_nextToken_240 : decode cX10_nextToken 240 = .ok (.getfield 40, 3) := by decide +kernel
theorem dX10_nextToken_243 : decode cX10_nextToken 243 = .ok (.aload_n 0, 1) := by decide +kernel
theorem dX10_nextToken_244 : decode cX10_nextToken 244 = .ok (.getfield 202, 3) := by decide +kernel
theorem dX10_nextToken_247 : decode cX10_nextToken 247 = .ok (.iaload, 1) := by decide +kernel
theorem dX10_nextToken_248 : decode cX10_nextToken 248 = .ok (.bipush 47, 2) := by decide +kernel
theorem dX10_nextToken_250 : decode cX10_nextToken 250 = .ok (.if_icmp .ne 7, 3) := by decide +kernel
theorem dX10_nextToken_253 : decode cX10_nextToken 253 = .ok (.iconst 4, 1) := by decide +kernel
theorem dX10_nextToken_254 : decode cX10_nextToken 254 = .ok (.goto 23, 3) := by decide +kernel
theorem dX10_nextToken_257 : decode cX10_nextToken 257 = .ok (.aload_n 0, 1) := by decide +kernel
theorem dX10_nextToken_258 : decode cX10_nextToken 258 = .ok (.getfield 40, 3) := by decide +kernel
theorem dX10_nextToken_261 : decode cX10_nextToken 261 = .ok (.aload_n 0, 1) := by decide +kernel
theorem dX10_nextToken_262 : decode cX10_nextToken 262 = .ok (.getfield 202, 3) := by decide +kernel
theorem dX10_nextToken_265 : decode cX10_nextToken 265 = .ok (.iaload, 1) := by decide +kernel
theorem dX10_nextToken_266 : decode cX10_nextToken 266 = .ok (.bipush 59, 2) := by decide +kernel
theorem dX10_nextToken_268 : decode cX10_nextToken 268 = .ok (.if_icmp .ne 7, 3) := by decide +kernel
theorem dX10_nextToken_271 : decode cX10_nextToken 271 = .ok (.iconst 5, 1) := by decide +kernel
theorem dX10_nextToken_272 : decode cX10_nextToken 272 = .ok (.goto 5, 3) := by decide +kernel
theorem dX10_nextToken_275 : decode cX10_nextToken 275 = .ok (.bipush 6, 2) := by decide +kernel
theorem dX10_nextToken_277 : decode cX10_nextToken 277 = .ok (.putfield 216, 3) := by decide +kernel
theorem dX10_nextToken_280 : decode cX10_nextToken 280 = .ok (.aload_n 0, 1) := by decide +kernel
theorem dX10_nextToken_281 : decode cX10_nextToken 281 = .ok (.dup, 1) := by decide +kernel
theorem dX10_nextToken_282 : decode cX10_nextToken 282 = .ok (.getfield 202, 3) := by decide +kernel
theorem dX10_nextToken_285 : decode cX10_nextToken 285 = .ok (.iconst 1, 1) := by decide +kernel
theorem dX10_nextToken_286 : decode cX10_nextToken 286 = .ok (.iadd, 1) := by decide +kernel
theorem dX10_nextToken_287 : decode cX10_nextToken 287 = .ok (.putfield 202, 3) := by decide +kernel
theorem dX10_nextToken_290 : decode cX10_nextToken 290 = .ok (.return_, 1) := by decide +kernel
theorem dX10_is_0 : decode cX10_is 0 = .ok (.aload_n 0, 1) := by decide +kernel
theorem dX10_is_1 : decode cX10_is 1 = .ok (.getfield 216, 3) := by decide +kernel
theorem dX10_is_4 : decode cX10_is 4 = .ok (.iload_n 1, 1) := by decide +kernel
theorem dX10_is_5 : decode cX10_is 5 = .ok (.if_icmp .ne 5, 3) := by decide +kernel
theorem dX10_is_8 : decode cX10_is 8 = .ok (.iconst 1, 1) := by decide +kernel
theorem dX10_is_9 : decode cX10_is 9 = .ok (.ireturn, 1) := by decide +kernel
theorem dX10_is_10 : decode cX10_is 10 = .ok (.aload_n 0, 1) := by decide +kernel
theorem dX10_is_11 : decode cX10_is 11 = .ok (.aload_n 0, 1) := by decide +kernel
theorem dX10_is_12 : decode cX10_is 12 = .ok (.getfield 205, 3) := by decide +kernel
theorem dX10_is_15 : decode cX10_is 15 = .ok (.putfield 239, 3) := by decide +kernel
theorem dX10_is_18 : decode cX10_is 18 = .ok (.iconst 0, 1) := by decide +kernel
theorem dX10_is_19 : decode cX10_is 19 = .ok (.ireturn, 1) := by decide +kernel
theorem dX10_readLeg_0 : decode cX10_readLeg 0 = .ok (.aload_n 0, 1) := by decide +kernel
theorem dX10_readLeg_1 : decode cX10_readLeg 1 = .ok (.getfield 242, 3) := by decide +kernel
theorem dX10_readLeg_4 : decode cX10_readLeg 4 = .ok (.istore_n 1, 1) := by decide +kernel
theorem dX10_readLeg_5 : decode cX10_readLeg 5 = .ok (.aload_n 0, 1) := by decide +kernel
theorem dX10_readLeg_6 : decode cX10_readLeg 6 = .ok (.iconst 1, 1) := by decide +kernel
theorem dX10_readLeg_7 : decode cX10_readLeg 7 = .ok (.invokevirtual 245, 3) := by decide +kernel
theorem dX10_readLeg_10 : decode cX10_readLeg 10 = .ok (.ifCond .ne 5, 3) := by decide +kernel
theorem dX10_readLeg_13 : decode cX10_readLeg 13 = .ok (.iconst 0, 1) := by decide +kernel
theorem dX10_readLeg_14 : decode cX10_readLeg 14 = .ok (.ireturn, 1) := by decide +kernel
theorem dX10_readLeg_15 : decode cX10_readLeg 15 = .ok (.iconst 0, 1) := by decide +kernel
theorem dX10_readLeg_16 : decode cX10_readLeg 16 = .ok (.istore_n 2, 1) := by decide +kernel
theorem dX10_readLeg_17 : decode cX10_readLeg 17 = .ok (.iload_n 2, 1) := by decide +kernel
theorem dX10_readLeg_18 : decode cX10_readLeg 18 = .ok (.iconst 3, 1) := by decide +kernel
theorem dX10_readLeg_19 : decode cX10_readLeg 19 = .ok (.if_icmp .ge 23, 3) := by decide +kernel
theorem dX10_readLeg_22 : decode cX10_readLeg 22 = .ok (.aload_n 0, 1) := by decide +kernel
theorem dX10_readLeg_23 : decode cX10_readLeg 23 = .ok (.getfield 73, 3) := by decide +kernel
theorem dX10_readLeg_26 : decode cX10_readLeg 26 = .ok (.iconst 3, 1) := by decide +kernel
theorem dX10_readLeg_27 : decode cX10_readLeg 27 = .ok (.iload_n 1, 1) := by decide +kernel
theorem dX10_readLeg_28 : decode cX10_readLeg 28 = .ok (.imul, 1) := by decide +kernel
theorem dX10_readLeg_29 : decode cX10_readLeg 29 = .ok (.iload_n 2, 1) := by decide +kernel
theorem dX10_readLeg_30 : decode cX10_readLeg 30 = .ok (.iadd, 1) := by decide +kernel
theorem dX10_readLeg_31 : decode cX10_readLeg 31 = .ok (.aload_n 0, 1) := by decide +kernel
theorem dX10_readLeg_32 : decode cX10_readLeg 32 = .ok (.getfield 233, 3) := by decide +kernel
theorem dX10_readLeg_35 : decode cX10_readLeg 35 = .ok (.iastore, 1) := by decide +kernel
theorem dX10_readLeg_36 : decode cX10_readLeg 36 = .ok (.iinc 2 1, 3) := by decide +kernel
theorem dX10_readLeg_39 : decode cX10_readLeg 39 = .ok (.goto (-22), 3) := by decide +kernel
theorem dX10_readLeg_42 : decode cX10_readLeg 42 = .ok (.aload_n 0, 1) := by decide +kernel
theorem dX10_readLeg_43 : decode cX10_readLeg 43 = .ok (.invokevirtual 248, 3) := by decide +kernel
theorem dX10_readLeg_46 : decode cX10_readLeg 46 = .ok (.aload_n 0, 1) := by decide +kernel
theorem dX10_readLeg_47 : decode cX10_readLeg 47 = .ok (.getfield 216, 3) := by decide +kernel
theorem dX10_readLeg_50 : decode cX10_readLeg 50 = .ok (.iconst 4, 1) := by decide +kernel
theorem dX10_readLeg_51 : decode cX10_readLeg 51 = .ok (.if_icmp .ne 58, 3) := by decide +kernel
theorem dX10_readLeg_54 : decode cX10_readLeg 54 = .ok (.iconst 1, 1) := by decide +kernel
theorem dX10_readLeg_55 : decode cX10_readLeg 55 = .ok (.istore_n 2, 1) := by decide +kernel
theorem dX10_readLeg_56 : decode cX10_readLeg 56 = .ok (.iload_n 2, 1) := by decide +kernel
theorem dX10_readLeg_57 : decode cX10_readLeg 57 = .ok (.iconst 3, 1) := by decide +kernel
theorem dX10_readLeg_58 : decode cX10_readLeg 58 = .ok (.if_icmp .ge 51, 3) := by decide +kernel
theorem dX10_readLeg_61 : decode cX10_readLeg 61 = .ok (.aload_n 0, 1) := by decide +kernel
theorem dX10_readLeg_62 : decode cX10_readLeg 62 = .ok (.iconst 4, 1) := by decide +kernel
theorem dX10_readLeg_63 : decode cX10_readLeg 63 = .ok (.invokevirtual 245, 3) := by decide +kernel
theorem dX10_readLeg_66 : decode cX10_readLeg 66 = .ok (.ifCond .ne 5, 3) := by decide +kernel
theorem dX10_readLeg_69 : decode cX10_readLeg 69 = .ok (.iconst 0, 1) := by decide +kernel
theorem dX10_readLeg_70 : decode cX10_readLeg 70 = .ok (.ireturn, 1) := by decide +kernel
theorem dX10_readLeg_71 : decode cX10_readLeg 71 = .ok (.aload_n 0, 1) := by decide +kernel
theorem dX10_readLeg_72 : decode cX10_readLeg 72 = .ok (.invokevirtual 248, 3) := by decide +kernel
theorem dX10_readLeg_75 : decode cX10_readLeg 75 = .ok (.aload_n 0, 1) := by decide +kernel
theorem dX10_readLeg_76 : decode cX10_readLeg 76 = .ok (.iconst 1, 1) := by decide +kernel
theorem dX10_readLeg_77 : decode cX10_readLeg 77 = .ok (.invokevirtual 245, 3) := by decide +kernel
theorem dX10_readLeg_80 : decode cX10_readLeg 80 = .ok (.ifCond .ne 5, 3) := by decide +kernel
theorem dX10_readLeg_83 : decode cX10_readLeg 83 = .ok (.iconst 0, 1) := by decide +kernel
theorem dX10_readLeg_84 : decode cX10_readLeg 84 = .ok (.ireturn, 1) := by decide +kernel
theorem dX10_readLeg_85 : decode cX10_readLeg 85 = .ok (.aload_n 0, 1) := by decide +kernel
theorem dX10_readLeg_86 : decode cX10_readLeg 86 = .ok (.getfield 73, 3) := by decide +kernel
theorem dX10_readLeg_89 : decode cX10_readLeg 89 = .ok (.iconst 3, 1) := by decide +kernel
theorem dX10_readLeg_90 : decode cX10_readLeg 90 = .ok (.iload_n 1, 1) := by decide +kernel
theorem dX10_readLeg_91 : decode cX10_readLeg 91 = .ok (.imul, 1) := by decide +kernel
theorem dX10_readLeg_92 : decode cX10_readLeg 92 = .ok (.iload_n 2, 1) := by decide +kernel
theorem dX10_readLeg_93 : decode cX10_readLeg 93 = .ok (.iadd, 1) := by decide +kernel
theorem dX10_readLeg_94 : decode cX10_readLeg 94 = .ok (.aload_n 0, 1) := by decide +kernel
theorem dX10_readLeg_95 : decode cX10_readLeg 95 = .ok (.getfield 233, 3) := by decide +kernel
theorem dX10_readLeg_98 : decode cX10_readLeg 98 = .ok (.iastore, 1) := by decide +kernel
theorem dX10_readLeg_99 : decode cX10_readLeg 99 = .ok (.aload_n 0, 1) := by decide +kernel
theorem dX10_readLeg_100 : decode cX10_readLeg 100 = .ok (.invokevirtual 248, 3) := by decide +kernel
theorem dX10_readLeg_103 : decode cX10_readLeg 103 = .ok (.iinc 2 1, 3) := by decide +kernel
theorem dX10_readLeg_106 : decode cX10_readLeg 106 = .ok (.goto (-50), 3) := by decide +kernel
theorem dX10_readLeg_109 : decode cX10_readLeg 109 = .ok (.aload_n 0, 1) := by decide +kernel
theorem dX10_readLeg_110 : decode cX10_readLeg 110 = .ok (.getfield 70, 3) := by decide +kernel
theorem dX10_readLeg_113 : decode cX10_readLeg 113 = .ok (.iload_n 1, 1) := by decide +kernel
theorem dX10_readLeg_114 : decode cX10_readLeg 114 = .ok (.iconst 1, 1) := by decide +kernel
theorem dX10_readLeg_115 : decode cX10_readLeg 115 = .ok (.iastore, 1) := by decide +kernel
theorem dX10_readLeg_116 : decode cX10_readLeg 116 = .ok (.aload_n 0, 1) := by decide +kernel
theorem dX10_readLeg_117 : decode cX10_readLeg 117 = .ok (.getfield 216, 3) := by decide +kernel
theorem dX10_readLeg_120 : decode cX10_readLeg 120 = .ok (.iconst 2, 1) := by decide +kernel
theorem dX10_readLeg_121 : decode cX10_readLeg 121 = .ok (.if_icmp .ne 31, 3) := by decide +kernel
theorem dX10_readLeg_124 : decode cX10_readLeg 124 = .ok (.aload_n 0, 1) := by decide +kernel
theorem dX10_readLeg_125 : decode cX10_readLeg 125 = .ok (.invokevirtual 248, 3) := by decide +kernel
theorem dX10_readLeg_128 : decode cX10_readLeg 128 = .ok (.aload_n 0, 1) := by decide +kernel
theorem dX10_readLeg_129 : decode cX10_readLeg 129 = .ok (.iconst 3, 1) := by decide +kernel
theorem dX10_readLeg_130 : decode cX10_readLeg 130 = .ok (.invokevirtual 245, 3) := by decide +kernel
theorem dX10_readLeg_133 : decode cX10_readLeg 133 = .ok (.ifCond .ne 5, 3) := by decide +kernel
theorem dX10_readLeg_136 : decode cX10_readLeg 136 = .ok (.iconst 0, 1) := by decide +kernel
theorem dX10_readLeg_137 : decode cX10_readLeg 137 = .ok (.ireturn, 1) := by decide +kernel
theorem dX10_readLeg_138 : decode cX10_readLeg 138 = .ok (.aload_n 0, 1) := by decide +kernel
theorem dX10_readLeg_139 : decode cX10_readLeg 139 = .ok (.getfield 70, 3) := by decide +kernel
theorem dX10_readLeg_142 : decode cX10_readLeg 142 = .ok (.iload_n 1, 1) := by decide +kernel
theorem dX10_readLeg_143 : decode cX10_readLeg 143 = .ok (.aload_n 0, 1) := by decide +kernel
theorem dX10_readLeg_144 : decode cX10_readLeg 144 = .ok (.getfield 233, 3) := by decide +kernel
theorem dX10_readLeg_147 : decode cX10_readLeg 147 = .ok (.iastore, 1) := by decide +kernel
theorem dX10_readLeg_148 : decode cX10_readLeg 148 = .ok (.aload_n 0, 1) := by decide +kernel
theorem dX10_readLeg_149 : decode cX10_readLeg 149 = .ok (.invokevirtual 248, 3) := by decide +kernel
theorem dX10_readLeg_152 : decode cX10_readLeg 152 = .ok (.aload_n 0, 1) := by decide +kernel
theorem dX10_readLeg_153 : decode cX10_readLeg 153 = .ok (.dup, 1) := by decide +kernel
theorem dX10_readLeg_154 : decode cX10_readLeg 154 = .ok (.getfield 242, 3) := by decide +kernel
theorem dX10_readLeg_157 : decode cX10_readLeg 157 = .ok (.iconst 1, 1) := by decide +kernel
theorem dX10_readLeg_158 : decode cX10_readLeg 158 = .ok (.iadd, 1) := by decide +kernel
theorem dX10_readLeg_159 : decode cX10_readLeg 159 = .ok (.putfield 242, 3) := by decide +kernel
theorem dX10_readLeg_162 : decode cX10_readLeg 162 = .ok (.iconst 1, 1) := by decide +kernel
theorem dX10_readLeg_163 : decode cX10_readLeg 163 = .ok (.ireturn, 1) := by decide +kernel
theorem dX10_readAll_0 : decode cX10_readAll 0 = .ok (.aload_n 0, 1) := by decide +kernel
theorem dX10_readAll_1 : decode cX10_readAll 1 = .ok (.iconst 0, 1) := by decide +kernel
theorem dX10_readAll_2 : decode cX10_readAll 2 = .ok (.putfield 202, 3) := by decide +kernel
theorem dX10_readAll_5 : decode cX10_readAll 5 = .ok (.aload_n 0, 1) := by decide +kernel
theorem dX10_readAll_6 : decode cX10_readAll 6 = .ok (.iconst 0, 1) := by decide +kernel
theorem dX10_readAll_7 : decode cX10_readAll 7 = .ok (.putfield 242, 3) := by decide +kernel
theorem dX10_readAll_10 : decode cX10_readAll 10 = .ok (.aload_n 0, 1) := by decide +kernel
theorem dX10_readAll_11 : decode cX10_readAll 11 = .ok (.invokevirtual 248, 3) := by decide +kernel
theorem dX10_readAll_14 : decode cX10_readAll 14 = .ok (.aload_n 0, 1) := by decide +kernel
theorem dX10_readAll_15 : decode cX10_readAll 15 = .ok (.getfield 242, 3) := by decide +kernel
theorem dX10_readAll_18 : decode cX10_readAll 18 = .ok (.bipush 6, 2) := by decide +kernel
theorem dX10_readAll_20 : decode cX10_readAll 20 = .ok (.if_icmp .ne 13, 3) := by decide +kernel
theorem dX10_readAll_23 : decode cX10_readAll 23 = .ok (.aload_n 0, 1) := by decide +kernel
theorem dX10_readAll_24 : decode cX10_readAll 24 = .ok (.aload_n 0, 1) := by decide +kernel
theorem dX10_readAll_25 : decode cX10_readAll 25 = .ok (.getfield 205, 3) := by decide +kernel
theorem dX10_readAll_28 : decode cX10_readAll 28 = .ok (.putfield 239, 3) := by decide +kernel
theorem dX10_readAll_31 : decode cX10_readAll 31 = .ok (.iconst 0, 1) := by decide +kernel
theorem dX10_readAll_32 : decode cX10_readAll 32 = .ok (.ireturn, 1) := by decide +kernel
theorem dX10_readAll_33 : decode cX10_readAll 33 = .ok (.aload_n 0, 1) := by decide +kernel
theorem dX10_readAll_34 : decode cX10_readAll 34 = .ok (.invokevirtual 251, 3) := by decide +kernel
theorem dX10_readAll_37 : decode cX10_readAll 37 = .ok (.ifCond .ne 5, 3) := by decide +kernel
theorem dX10_readAll_40 : decode cX10_readAll 40 = .ok (.iconst 0, 1) := by decide +kernel
theorem dX10_readAll_41 : decode cX10_readAll 41 = .ok (.ireturn, 1) := by decide +kernel
theorem dX10_readAll_42 : decode cX10_readAll 42 = .ok (.aload_n 0, 1) := by decide +kernel
theorem dX10_readAll_43 : decode cX10_readAll 43 = .ok (.getfield 216, 3) := by decide +kernel
theorem dX10_readAll_46 : decode cX10_readAll 46 = .ok (.ifCond .ne 5, 3) := by decide +kernel
theorem dX10_readAll_49 : decode cX10_readAll 49 = .ok (.iconst 1, 1) := by decide +kernel
theorem dX10_readAll_50 : decode cX10_readAll 50 = .ok (.ireturn, 1) := by decide +kernel
theorem dX10_readAll_51 : decode cX10_readAll 51 = .ok (.aload_n 0, 1) := by decide +kernel
theorem dX10_readAll_52 : decode cX10_readAll 52 = .ok (.iconst 5, 1) := by decide +kernel
theorem dX10_readAll_53 : decode cX10_readAll 53 = .ok (.invokevirtual 245, 3) := by decide +kernel
theorem dX10_readAll_56 : decode cX10_readAll 56 = .ok (.ifCond .ne 5, 3) := by decide +kernel
theorem dX10_readAll_59 : decode cX10_readAll 59 = .ok (.iconst 0, 1) := by decide +kernel
theorem dX10_readAll_60 : decode cX10_readAll 60 = .ok (.ireturn, 1) := by decide +kernel
theorem dX10_readAll_61 : decode cX10_readAll 61 = .ok (.aload_n 0, 1) := by decide +kernel
theorem dX10_readAll_62 : decode cX10_readAll 62 = .ok (.invokevirtual 248, 3) := by decide +kernel
theorem dX10_readAll_65 : decode cX10_readAll 65 = .ok (.goto (-51), 3) := by decide +kernel
theorem dX10_takesLeg_0 : decode cX10_takesLeg 0 = .ok (.aload_n 0, 1) := by decide +kernel
theorem dX10_takesLeg_1 : decode cX10_takesLeg 1 = .ok (.getfield 34, 3) := by decide +kernel
theorem dX10_takesLeg_4 : decode cX10_takesLeg 4 = .ok (.bipush 6, 2) := by decide +kernel
theorem dX10_takesLeg_6 : decode cX10_takesLeg 6 = .ok (.iload_n 1, 1) := by decide +kernel
theorem dX10_takesLeg_7 : decode cX10_takesLeg 7 = .ok (.imul, 1) := by decide +kernel
theorem dX10_takesLeg_8 : decode cX10_takesLeg 8 = .ok (.iload_n 2, 1) := by decide +kernel
theorem dX10_takesLeg_9 : decode cX10_takesLeg 9 = .ok (.iadd, 1) := by decide +kernel
theorem dX10_takesLeg_10 : decode cX10_takesLeg 10 = .ok (.aload_n 0, 1) := by decide +kernel
theorem dX10_takesLeg_11 : decode cX10_takesLeg 11 = .ok (.getfield 70, 3) := by decide +kernel
theorem dX10_takesLeg_14 : decode cX10_takesLeg 14 = .ok (.iload_n 2, 1) := by decide +kernel
theorem dX10_takesLeg_15 : decode cX10_takesLeg 15 = .ok (.iaload, 1) := by decide +kernel
theorem dX10_takesLeg_16 : decode cX10_takesLeg 16 = .ok (.iastore, 1) := by decide +kernel
theorem dX10_takesLeg_17 : decode cX10_takesLeg 17 = .ok (.iconst 0, 1) := by decide +kernel
theorem dX10_takesLeg_18 : decode cX10_takesLeg 18 = .ok (.istore_n 3, 1) := by decide +kernel
theorem dX10_takesLeg_19 : decode cX10_takesLeg 19 = .ok (.iload_n 3, 1) := by decide +kernel
theorem dX10_takesLeg_20 : decode cX10_takesLeg 20 = .ok (.iconst 3, 1) := by decide +kernel
theorem dX10_takesLeg_21 : decode cX10_takesLeg 21 = .ok (.if_icmp .ge 34, 3) := by decide +kernel
theorem dX10_takesLeg_24 : decode cX10_takesLeg 24 = .ok (.aload_n 0, 1) := by decide +kernel
theorem dX10_takesLeg_25 : decode cX10_takesLeg 25 = .ok (.getfield 37, 3) := by decide +kernel
theorem dX10_takesLeg_28 : decode cX10_takesLeg 28 = .ok (.bipush 18, 2) := by decide +kernel
theorem dX10_takesLeg_30 : decode cX10_takesLeg 30 = .ok (.iload_n 1, 1) := by decide +kernel
theorem dX10_takesLeg_31 : decode cX10_takesLeg 31 = .ok (.imul, 1) := by decide +kernel
theorem dX10_takesLeg_32 : decode cX10_takesLeg 32 = .ok (.iconst 3, 1) := by decide +kernel
theorem dX10_takesLeg_33 : decode cX10_takesLeg 33 = .ok (.iload_n 2, 1) := by decide +kernel
theorem dX10_takesLeg_34 : decode cX10_takesLeg 34 = .ok (.imul, 1) := by decide +kernel
theorem dX10_takesLeg_35 : decode cX10_takesLeg 35 = .ok (.iadd, 1) := by decide +kernel
theorem dX10_takesLeg_36 : decode cX10_takesLeg 36 = .ok (.iload_n 3, 1) := by decide +kernel
theorem dX10_takesLeg_37 : decode cX10_takesLeg 37 = .ok (.iadd, 1) := by decide +kernel
theorem dX10_takesLeg_38 : decode cX10_takesLeg 38 = .ok (.aload_n 0, 1) := by decide +kernel
theorem dX10_takesLeg_39 : decode cX10_takesLeg 39 = .ok (.getfield 73, 3) := by decide +kernel
theorem dX10_takesLeg_42 : decode cX10_takesLeg 42 = .ok (.iconst 3, 1) := by decide +kernel
theorem dX10_takesLeg_43 : decode cX10_takesLeg 43 = .ok (.iload_n 2, 1) := by decide +kernel
theorem dX10_takesLeg_44 : decode cX10_takesLeg 44 = .ok (.imul, 1) := by decide +kernel
theorem dX10_takesLeg_45 : decode cX10_takesLeg 45 = .ok (.iload_n 3, 1) := by decide +kernel
theorem dX10_takesLeg_46 : decode cX10_takesLeg 46 = .ok (.iadd, 1) := by decide +kernel
theorem dX10_takesLeg_47 : decode cX10_takesLeg 47 = .ok (.iaload, 1) := by decide +kernel
theorem dX10_takesLeg_48 : decode cX10_takesLeg 48 = .ok (.iastore, 1) := by decide +kernel
theorem dX10_takesLeg_49 : decode cX10_takesLeg 49 = .ok (.iinc 3 1, 3) := by decide +kernel
theorem dX10_takesLeg_52 : decode cX10_takesLeg 52 = .ok (.goto (-33), 3) := by decide +kernel
theorem dX10_takesLeg_55 : decode cX10_takesLeg 55 = .ok (.return_, 1) := by decide +kernel
theorem dX10_course_0 : decode cX10_course 0 = .ok (.iload_n 1, 1) := by decide +kernel
theorem dX10_course_1 : decode cX10_course 1 = .ok (.invokestatic 254, 3) := by decide +kernel
theorem dX10_course_4 : decode cX10_course 4 = .ok (.ifCond .ne 6, 3) := by decide +kernel
theorem dX10_course_7 : decode cX10_course 7 = .ok (.bipush (-2), 2) := by decide +kernel
theorem dX10_course_9 : decode cX10_course 9 = .ok (.ireturn, 1) := by decide +kernel
theorem dX10_course_10 : decode cX10_course 10 = .ok (.aload_n 0, 1) := by decide +kernel
theorem dX10_course_11 : decode cX10_course 11 = .ok (.invokevirtual 257, 3) := by decide +kernel
theorem dX10_course_14 : decode cX10_course 14 = .ok (.istore_n 2, 1) := by decide +kernel
theorem dX10_course_15 : decode cX10_course 15 = .ok (.aload_n 0, 1) := by decide +kernel
theorem dX10_course_16 : decode cX10_course 16 = .ok (.iconst 0, 1) := by decide +kernel
theorem dX10_course_17 : decode cX10_course 17 = .ok (.putfield 191, 3) := by decide +kernel
theorem dX10_course_20 : decode cX10_course 20 = .ok (.iload_n 2, 1) := by decide +kernel
theorem dX10_course_21 : decode cX10_course 21 = .ok (.ifCond .ne 11, 3) := by decide +kernel
theorem dX10_course_24 : decode cX10_course 24 = .ok (.bipush (-100), 2) := by decide +kernel
theorem dX10_course_26 : decode cX10_course 26 = .ok (.aload_n 0, 1) := by decide +kernel
theorem dX10_course_27 : decode cX10_course 27 = .ok (.getfield 239, 3) := by decide +kernel
theorem dX10_course_30 : decode cX10_course 30 = .ok (.isub, 1) := by decide +kernel
theorem dX10_course_31 : decode cX10_course 31 = .ok (.ireturn, 1) := by decide +kernel
theorem dX10_course_32 : decode cX10_course 32 = .ok (.aload_n 0, 1) := by decide +kernel
theorem dX10_course_33 : decode cX10_course 33 = .ok (.getfield 31, 3) := by decide +kernel
theorem dX10_course_36 : decode cX10_course 36 = .ok (.iload_n 1, 1) := by decide +kernel
theorem dX10_course_37 : decode cX10_course 37 = .ok (.aload_n 0, 1) := by decide +kernel
theorem dX10_course_38 : decode cX10_course 38 = .ok (.getfield 242, 3) := by decide +kernel
theorem dX10_course_41 : decode cX10_course 41 = .ok (.iastore, 1) := by decide +kernel
theorem dX10_course_42 : decode cX10_course 42 = .ok (.iconst 0, 1) := by decide +kernel
theorem dX10_course_43 : decode cX10_course 43 = .ok (.istore_n 3, 1) := by decide +kernel
theorem dX10_course_44 : decode cX10_course 44 = .ok (.iload_n 3, 1) := by decide +kernel
theorem dX10_course_45 : decode cX10_course 45 = .ok (.aload_n 0, 1) := by decide +kernel
theorem dX10_course_46 : decode cX10_course 46 = .ok (.getfield 242, 3) := by decide +kernel
theorem dX10_course_49 : decode cX10_course 49 = .ok (.if_icmp .ge 15, 3) := by decide +kernel
theorem dX10_course_52 : decode cX10_course 52 = .ok (.aload_n 0, 1) := by decide +kernel
theorem dX10_course_53 : decode cX10_course 53 = .ok (.iload_n 1, 1) := by decide +kernel
theorem dX10_course_54 : decode cX10_course 54 = .ok (.iload_n 3, 1) := by decide +kernel
theorem dX10_course_55 : decode cX10_course 55 = .ok (.invokevirtual 260, 3) := by decide +kernel
theorem dX10_course_58 : decode cX10_course 58 = .ok (.iinc 3 1, 3) := by decide +kernel
theorem dX10_course_61 : decode cX10_course 61 = .ok (.goto (-17), 3) := by decide +kernel
theorem dX10_course_64 : decode cX10_course 64 = .ok (.aload_n 0, 1) := by decide +kernel
theorem dX10_course_65 : decode cX10_course 65 = .ok (.getfield 242, 3) := by decide +kernel
theorem dX10_course_68 : decode cX10_course 68 = .ok (.ireturn, 1) := by decide +kernel
theorem dX10_leg_0 : decode cX10_leg 0 = .ok (.iload_n 1, 1) := by decide +kernel
theorem dX10_leg_1 : decode cX10_leg 1 = .ok (.invokestatic 254, 3) := by decide +kernel
theorem dX10_leg_4 : decode cX10_leg 4 = .ok (.ifCond .eq 12, 3) := by decide +kernel
theorem dX10_leg_7 : decode cX10_leg 7 = .ok (.iload_n 3, 1) := by decide +kernel
theorem dX10_leg_8 : decode cX10_leg 8 = .ok (.iconst 0, 1) := by decide +kernel
theorem dX10_leg_9 : decode cX10_leg 9 = .ok (.iconst 3, 1) := by decide +kernel
theorem dX10_leg_10 : decode cX10_leg 10 = .ok (.invokestatic 82, 3) := by decide +kernel
theorem dX10_leg_13 : decode cX10_leg 13 = .ok (.ifCond .ne 6, 3) := by decide +kernel
theorem dX10_leg_16 : decode cX10_leg 16 = .ok (.bipush (-2), 2) := by decide +kernel
theorem dX10_leg_18 : decode cX10_leg 18 = .ok (.ireturn, 1) := by decide +kernel
theorem dX10_leg_19 : decode cX10_leg 19 = .ok (.aload_n 0, 1) := by decide +kernel
theorem dX10_leg_20 : decode cX10_leg 20 = .ok (.getfield 31, 3) := by decide +kernel
theorem dX10_leg_23 : decode cX10_leg 23 = .ok (.iload_n 1, 1) := by decide +kernel
theorem dX10_leg_24 : decode cX10_leg 24 = .ok (.iaload, 1) := by decide +kernel
theorem dX10_leg_25 : decode cX10_leg 25 = .ok (.ifCond .ne 6, 3) := by decide +kernel
theorem dX10_leg_28 : decode cX10_leg 28 = .ok (.bipush (-3), 2) := by decide +kernel
theorem dX10_leg_30 : decode cX10_leg 30 = .ok (.ireturn, 1) := by decide +kernel
theorem dX10_leg_31 : decode cX10_leg 31 = .ok (.iload_n 2, 1) := by decide +kernel
theorem dX10_leg_32 : decode cX10_leg 32 = .ok (.iconst 0, 1) := by decide +kernel
theorem dX10_leg_33 : decode cX10_leg 33 = .ok (.aload_n 0, 1) := by decide +kernel
theorem dX10_leg_34 : decode cX10_leg 34 = .ok (.getfield 31, 3) := by decide +kernel
theorem dX10_leg_37 : decode cX10_leg 37 = .ok (.iload_n 1, 1) := by decide +kernel
theorem dX10_leg_38 : decode cX10_leg 38 = .ok (.iaload, 1) := by decide +kernel
theorem dX10_leg_39 : decode cX10_leg 39 = .ok (.iconst 1, 1) := by decide +kernel
theorem dX10_leg_40 : decode cX10_leg 40 = .ok (.isub, 1) := by decide +kernel
theorem dX10_leg_41 : decode cX10_leg 41 = .ok (.invokestatic 82, 3) := by decide +kernel
theorem dX10_leg_44 : decode cX10_leg 44 = .ok (.ifCond .ne 6, 3) := by decide +kernel
theorem dX10_leg_47 : decode cX10_leg 47 = .ok (.bipush (-12), 2) := by decide +kernel
theorem dX10_leg_49 : decode cX10_leg 49 = .ok (.ireturn, 1) := by decide +kernel
theorem dX10_leg_50 : decode cX10_leg 50 = .ok (.iload_n 3, 1) := by decide +kernel
theorem dX10_leg_51 : decode cX10_leg 51 = .ok (.iconst 3, 1) := by decide +kernel
theorem dX10_leg_52 : decode cX10_leg 52 = .ok (.if_icmp .ne 17, 3) := by decide +kernel
theorem dX10_leg_55 : decode cX10_leg 55 = .ok (.aload_n 0, 1) := by decide +kernel
theorem dX10_leg_56 : decode cX10_leg 56 = .ok (.getfield 34, 3) := by decide +kernel
theorem dX10_leg_59 : decode cX10_leg 59 = .ok (.bipush 6, 2) := by decide +kernel
theorem dX10_leg_61 : decode cX10_leg 61 = .ok (.iload_n 1, 1) := by decide +kernel
theorem dX10_leg_62 : decode cX10_leg 62 = .ok (.imul, 1) := by decide +kernel
theorem dX10_leg_63 : decode cX10_leg 63 = .ok (.iload_n 2, 1) := by decide +kernel
theorem dX10_leg_64 : decode cX10_leg 64 = .ok (.iadd, 1) := by decide +kernel
theorem dX10_leg_65 : decode cX10_leg 65 = .ok (.iaload, 1) := by decide +kernel
theorem dX10_leg_66 : decode cX10_leg 66 = .ok (.goto 18, 3) := by decide +kernel
theorem dX10_leg_69 : decode cX10_leg 69 = .ok (.aload_n 0, 1) := by decide +kernel
theorem dX10_leg_70 : decode cX10_leg 70 = .ok (.getfield 37, 3) := by decide +kernel
theorem dX10_leg_73 : decode cX10_leg 73 = .ok (.bipush 18, 2) := by decide +kernel
theorem dX10_leg_75 : decode cX10_leg 75 = .ok (.iload_n 1, 1) := by decide +kernel
theorem dX10_leg_76 : decode cX10_leg 76 = .ok (.imul, 1) := by decide +kernel
theorem dX10_leg_77 : decode cX10_leg 77 = .ok (.iconst 3, 1) := by decide +kernel
theorem dX10_leg_78 : decode cX10_leg 78 = .ok (.iload_n 2, 1) := by decide +kernel
theorem dX10_leg_79 : decode cX10_leg 79 = .ok (.imul, 1) := by decide +kernel
theorem dX10_leg_80 : decode cX10_leg 80 = .ok (.iadd, 1) := by decide +kernel
theorem dX10_leg_81 : decode cX10_leg 81 = .ok (.iload_n 3, 1) := by decide +kernel
theorem dX10_leg_82 : decode cX10_leg 82 = .ok (.iadd, 1) := by decide +kernel
theorem dX10_leg_83 : decode cX10_leg 83 = .ok (.iaload, 1) := by decide +kernel
theorem dX10_leg_84 : decode cX10_leg 84 = .ok (.ireturn, 1) := by decide +kernel
theorem dX10_writes_0 : decode cX10_writes 0 = .ok (.aload_n 0, 1) := by decide +kernel
theorem dX10_writes_1 : decode cX10_writes 1 = .ok (.getfield 76, 3) := by decide +kernel
theorem dX10_writes_4 : decode cX10_writes 4 = .ok (.aload_n 0, 1) := by decide +kernel
theorem dX10_writes_5 : decode cX10_writes 5 = .ok (.getfield 264, 3) := by decide +kernel
theorem dX10_writes_8 : decode cX10_writes 8 = .ok (.iload_n 1, 1) := by decide +kernel
theorem dX10_writes_9 : decode cX10_writes 9 = .ok (.iastore, 1) := by decide +kernel
theorem dX10_writes_10 : decode cX10_writes 10 = .ok (.aload_n 0, 1) := by decide +kernel
theorem dX10_writes_11 : decode cX10_writes 11 = .ok (.dup, 1) := by decide +kernel
theorem dX10_writes_12 : decode cX10_writes 12 = .ok (.getfield 264, 3) := by decide +kernel
theorem dX10_writes_15 : decode cX10_writes 15 = .ok (.iconst 1, 1) := by decide +kernel
theorem dX10_writes_16 : decode cX10_writes 16 = .ok (.iadd, 1) := by decide +kernel
theorem dX10_writes_17 : decode cX10_writes 17 = .ok (.putfield 264, 3) := by decide +kernel
theorem dX10_writes_20 : decode cX10_writes 20 = .ok (.return_, 1) := by decide +kernel
theorem dX10_writesWord_0 : decode cX10_writesWord 0 = .ok (.iconst 0, 1) := by decide +kernel
theorem dX10_writesWord_1 : decode cX10_writesWord 1 = .ok (.istore_n 2, 1) := by decide +kernel
theorem dX10_writesWord_2 : decode cX10_writesWord 2 = .ok (.iload_n 2, 1) := by decide +kernel
theorem dX10_writesWord_3 : decode cX10_writesWord 3 = .ok (.iload_n 1, 1) := by decide +kernel
theorem dX10_writesWord_4 : decode cX10_writesWord 4 = .ok (.invokestatic 229, 3) := by decide +kernel
theorem dX10_writesWord_7 : decode cX10_writesWord 7 = .ok (.invokevirtual 208, 3) := by decide +kernel
theorem dX10_writesWord_10 : decode cX10_writesWord 10 = .ok (.if_icmp .ge 21, 3) := by decide +kernel
theorem dX10_writesWord_13 : decode cX10_writesWord 13 = .ok (.aload_n 0, 1) := by decide +kernel
theorem dX10_writesWord_14 : decode cX10_writesWord 14 = .ok (.iload_n 1, 1) := by decide +kernel
theorem dX10_writesWord_15 : decode cX10_writesWord 15 = .ok (.invokestatic 229, 3) := by decide +kernel
theorem dX10_writesWord_18 : decode cX10_writesWord 18 = .ok (.iload_n 2, 1) := by decide +kernel
theorem dX10_writesWord_19 : decode cX10_writesWord 19 = .ok (.invokevirtual 212, 3) := by decide +kernel
theorem dX10_writesWord_22 : decode cX10_writesWord 22 = .ok (.invokevirtual 267, 3) := by decide +kernel
theorem dX10_writesWord_25 : decode cX10_writesWord 25 = .ok (.iinc 2 1, 3) := by decide +kernel
theorem dX10_writesWord_28 : decode cX10_writesWord 28 = .ok (.goto (-26), 3) := by decide +kernel
theorem dX10_writesWord_31 : decode cX10_writesWord 31 = .ok (.return_, 1) := by decide +kernel
theorem dX10_prints_0 : decode cX10_prints 0 = .ok (.aload_n 0, 1) := by decide +kernel
theorem dX10_prints_1 : decode cX10_prints 1 = .ok (.iconst 0, 1) := by decide +kernel
theorem dX10_prints_2 : decode cX10_prints 2 = .ok (.putfield 264, 3) := by decide +kernel
theorem dX10_prints_5 : decode cX10_prints 5 = .ok (.iconst 0, 1) := by decide +kernel
theorem dX10_prints_6 : decode cX10_prints 6 = .ok (.istore_n 2, 1) := by decide +kernel
theorem dX10_prints_7 : decode cX10_prints 7 = .ok (.iload_n 2, 1) := by decide +kernel
theorem dX10_prints_8 : decode cX10_prints 8 = .ok (.aload_n 0, 1) := by decide +kernel
theorem dX10_prints_9 : decode cX10_prints 9 = .ok (.getfield 31, 3) := by decide +kernel
theorem dX10_prints_12 : decode cX10_prints 12 = .ok (.iload_n 1, 1) := by decide +kernel
theorem dX10_prints_13 : decode cX10_prints 13 = .ok (.iaload, 1) := by decide +kernel
theorem dX10_prints_14 : decode cX10_prints 14 = .ok (.if_icmp .ge 153, 3) := by decide +kernel
theorem dX10_prints_17 : decode cX10_prints 17 = .ok (.bipush 18, 2) := by decide +kernel
theorem dX10_prints_19 : decode cX10_prints 19 = .ok (.iload_n 1, 1) := by decide +kernel
theorem dX10_prints_20 : decode cX10_prints 20 = .ok (.imul, 1) := by decide +kernel
theorem dX10_prints_21 : decode cX10_prints 21 = .ok (.iconst 3, 1) := by decide +kernel
theorem dX10_prints_22 : decode cX10_prints 22 = .ok (.iload_n 2, 1) := by decide +kernel
theorem dX10_prints_23 : decode cX10_prints 23 = .ok (.imul, 1) := by decide +kernel
theorem dX10_prints_24 : decode cX10_prints 24 = .ok (.iadd, 1) := by decide +kernel
theorem dX10_prints_25 : decode cX10_prints 25 = .ok (.istore_n 3, 1) := by decide +kernel
theorem dX10_prints_26 : decode cX10_prints 26 = .ok (.iload_n 2, 1) := by decide +kernel
theorem dX10_prints_27 : decode cX10_prints 27 = .ok (.ifCond .le 9, 3) := by decide +kernel
theorem dX10_prints_30 : decode cX10_prints 30 = .ok (.aload_n 0, 1) := by decide +kernel
theorem dX10_prints_31 : decode cX10_prints 31 = .ok (.bipush 59, 2) := by decide +kernel
theorem dX10_prints_33 : decode cX10_prints 33 = .ok (.invokevirtual 267, 3) := by decide +kernel
theorem dX10_prints_36 : decode cX10_prints 36 = .ok (.aload_n 0, 1) := by decide +kernel
theorem dX10_prints_37 : decode cX10_prints 37 = .ok (.aload_n 0, 1) := by decide +kernel
theorem dX10_prints_38 : decode cX10_prints 38 = .ok (.getfield 37, 3) := by decide +kernel
theorem dX10_prints_41 : decode cX10_prints 41 = .ok (.iload_n 3, 1) := by decide +kernel
theorem dX10_prints_42 : decode cX10_prints 42 = .ok (.iaload, 1) := by decide +kernel
theorem dX10_prints_43 : decode cX10_prints 43 = .ok (.invokevirtual 270, 3) := by decide +kernel
theorem dX10_prints_46 : decode cX10_prints 46 = .ok (.aload_n 0, 1) := by decide +kernel
theorem dX10_prints_47 : decode cX10_prints 47 = .ok (.getfield 37, 3) := by decide +kernel
theorem dX10_prints_50 : decode cX10_prints 50 = .ok (.iload_n 3, 1) := by decide +kernel
theorem dX10_prints_51 : decode cX10_prints 51 = .ok (.iconst 1, 1) := by decide +kernel
theorem dX10_prints_52 : decode cX10_prints 52 = .ok (.iadd, 1) := by decide +kernel
theorem dX10_prints_53 : decode cX10_prints 53 = .ok (.iaload, 1) := by decide +kernel
theorem dX10_prints_54 : decode cX10_prints 54 = .ok (.aload_n 0, 1) := by decide +kernel
theorem dX10_prints_55 : decode cX10_prints 55 = .ok (.getfield 37, 3) := by decide +kernel
theorem dX10_prints_58 : decode cX10_prints 58 = .ok (.iload_n 3, 1) := by decide +kernel
theorem dX10_prints_59 : decode cX10_prints 59 = .ok (.iaload, 1) := by decide +kernel
theorem dX10_prints_60 : decode cX10_prints 60 = .ok (.if_icmp .ne 20, 3) := by decide +kernel
theorem dX10_prints_63 : decode cX10_prints 63 = .ok (.aload_n 0, 1) := by decide +kernel
theorem dX10_prints_64 : decode cX10_prints 64 = .ok (.getfield 37, 3) := by decide +kernel
theorem dX10_prints_67 : decode cX10_prints 67 = .ok (.iload_n 3, 1) := by decide +kernel
theorem dX10_prints_68 : decode cX10_prints 68 = .ok (.iconst 2, 1) := by decide +kernel
theorem dX10_prints_69 : decode cX10_prints 69 = .ok (.iadd, 1) := by decide +kernel
theorem dX10_prints_70 : decode cX10_prints 70 = .ok (.iaload, 1) := by decide +kernel
theorem dX10_prints_71 : decode cX10_prints 71 = .ok (.aload_n 0, 1) := by decide +kernel
theorem dX10_prints_72 : decode cX10_prints 72 = .ok (.getfield 37, 3) := by decide +kernel
theorem dX10_prints_75 : decode cX10_prints 75 = .ok (.iload_n 3, 1) := by decide +kernel
theorem dX10_prints_76 : decode cX10_prints 76 = .ok (.iaload, 1) := by decide +kernel
theorem dX10_prints_77 : decode cX10_prints 77 = .ok (.if_icmp .eq 39, 3) := by decide +kernel
theorem dX10_prints_80 : decode cX10_prints 80 = .ok (.aload_n 0, 1) := by decide +kernel
theorem dX10_prints_81 : decode cX10_prints 81 = .ok (.bipush 47, 2) := by decide +kernel
theorem dX10_prints_83 : decode cX10_prints 83 = .ok (.invokevirtual 267, 3) := by decide +kernel
theorem dX10_prints_86 : decode cX10_prints 86 = .ok (.aload_n 0, 1) := by decide +kernel
theorem dX10_prints_87 : decode cX10_prints 87 = .ok (.aload_n 0, 1) := by decide +kernel
theorem dX10_prints_88 : decode cX10_prints 88 = .ok (.getfield 37, 3) := by decide +kernel
theorem dX10_prints_91 : decode cX10_prints 91 = .ok (.iload_n 3, 1) := by decide +kernel
theorem dX10_prints_92 : decode cX10_prints 92 = .ok (.iconst 1, 1) := by decide +kernel
theorem dX10_prints_93 : decode cX10_prints 93 = .ok (.iadd, 1) := by decide +kernel
theorem dX10_prints_94 : decode cX10_prints 94 = .ok (.iaload, 1) := by decide +kernel
theorem dX10_prints_95 : decode cX10_prints 95 = .ok (.invokevirtual 270, 3) := by decide +kernel
theorem dX10_prints_98 : decode cX10_prints 98 = .ok (.aload_n 0, 1) := by decide +kernel
theorem dX10_prints_99 : decode cX10_prints 99 = .ok (.bipush 47, 2) := by decide +kernel
theorem dX10_prints_101 : decode cX10_prints 101 = .ok (.invokevirtual 267, 3) := by decide +kernel
theorem dX10_prints_104 : decode cX10_prints 104 = .ok (.aload_n 0, 1) := by decide +kernel
theorem dX10_prints_105 : decode cX10_prints 105 = .ok (.aload_n 0, 1) := by decide +kernel
theorem dX10_prints_106 : decode cX10_prints 106 = .ok (.getfield 37, 3) := by decide +kernel
theorem dX10_prints_109 : decode cX10_prints 109 = .ok (.iload_n 3, 1) := by decide +kernel
theorem dX10_prints_110 : decode cX10_prints 110 = .ok (.iconst 2, 1) := by decide +kernel
theorem dX10_prints_111 : decode cX10_prints 111 = .ok (.iadd, 1) := by decide +kernel
theorem dX10_prints_112 : decode cX10_prints 112 = .ok (.iaload, 1) := by decide +kernel
theorem dX10_prints_113 : decode cX10_prints 113 = .ok (.invokevirtual 270, 3) := by decide +kernel
theorem dX10_prints_116 : decode cX10_prints 116 = .ok (.aload_n 0, 1) := by decide +kernel
theorem dX10_prints_117 : decode cX10_prints 117 = .ok (.getfield 34, 3) := by decide +kernel
theorem dX10_prints_120 : decode cX10_prints 120 = .ok (.bipush 6, 2) := by decide +kernel
theorem dX10_prints_122 : decode cX10_prints 122 = .ok (.iload_n 1, 1) := by decide +kernel
theorem dX10_prints_123 : decode cX10_prints 123 = .ok (.imul, 1) := by decide +kernel
theorem dX10_prints_124 : decode cX10_prints 124 = .ok (.iload_n 2, 1) := by decide +kernel
theorem dX10_prints_125 : decode cX10_prints 125 = .ok (.iadd, 1) := by decide +kernel
theorem dX10_prints_126 : decode cX10_prints 126 = .ok (.iaload, 1) := by decide +kernel
theorem dX10_prints_127 : decode cX10_prints 127 = .ok (.iconst 1, 1) := by decide +kernel
theorem dX10_prints_128 : decode cX10_prints 128 = .ok (.if_icmp .le 33, 3) := by decide +kernel
theorem dX10_prints_131 : decode cX10_prints 131 = .ok (.aload_n 0, 1) := by decide +kernel
theorem dX10_prints_132 : decode cX10_prints 132 = .ok (.bipush 32, 2) := by decide +kernel
theorem dX10_prints_134 : decode cX10_prints 134 = .ok (.invokevirtual 267, 3) := by decide +kernel
theorem dX10_prints_137 : decode cX10_prints 137 = .ok (.aload_n 0, 1) := by decide +kernel
theorem dX10_prints_138 : decode cX10_prints 138 = .ok (.bipush 120, 2) := by decide +kernel
theorem dX10_prints_140 : decode cX10_prints 140 = .ok (.invokevirtual 267, 3) := by decide +kernel
theorem dX10_prints_143 : decode cX10_prints 143 = .ok (.aload_n 0, 1) := by decide +kernel
theorem dX10_prints_144 : decode cX10_prints 144 = .ok (.bipush 48, 2) := by decide +kernel
theorem dX10_prints_146 : decode cX10_prints 146 = .ok (.aload_n 0, 1) := by decide +kernel
theorem dX10_prints_147 : decode cX10_prints 147 = .ok (.getfield 34, 3) := by decide +kernel
theorem dX10_prints_150 : decode cX10_prints 150 = .ok (.bipush 6, 2) := by decide +kernel
theorem dX10_prints_152 : decode cX10_prints 152 = .ok (.iload_n 1, 1) := by decide +kernel
theorem dX10_prints_153 : decode cX10_prints 153 = .ok (.imul, 1) := by decide +kernel
theorem dX10_prints_154 : decode cX10_prints 154 = .ok (.iload_n 2, 1) := by decide +kernel
theorem dX10_prints_155 : decode cX10_prints 155 = .ok (.iadd, 1) := by decide +kernel
theorem dX10_prints_156 : decode cX10_prints 156 = .ok (.iaload, 1) := by decide +kernel
theorem dX10_prints_157 : decode cX10_prints 157 = .ok (.iadd, 1) := by decide +kernel
theorem dX10_prints_158 : decode cX10_prints 158 = .ok (.invokevirtual 267, 3) := by decide +kernel
theorem dX10_prints_161 : decode cX10_prints 161 = .ok (.iinc 2 1, 3) := by decide +kernel
theorem dX10_prints_164 : decode cX10_prints 164 = .ok (.goto (-157), 3) := by decide +kernel
theorem dX10_prints_167 : decode cX10_prints 167 = .ok (.return_, 1) := by decide +kernel
theorem dX10_print_0 : decode cX10_print 0 = .ok (.iload_n 1, 1) := by decide +kernel
theorem dX10_print_1 : decode cX10_print 1 = .ok (.invokestatic 254, 3) := by decide +kernel
theorem dX10_print_4 : decode cX10_print 4 = .ok (.ifCond .eq 8, 3) := by decide +kernel
theorem dX10_print_7 : decode cX10_print 7 = .ok (.iload_n 2, 1) := by decide +kernel
theorem dX10_print_8 : decode cX10_print 8 = .ok (.iconst (-1), 1) := by decide +kernel
theorem dX10_print_9 : decode cX10_print 9 = .ok (.if_icmp .ge 6, 3) := by decide +kernel
theorem dX10_print_12 : decode cX10_print 12 = .ok (.bipush (-2), 2) := by decide +kernel
theorem dX10_print_14 : decode cX10_print 14 = .ok (.ireturn, 1) := by decide +kernel
theorem dX10_print_15 : decode cX10_print 15 = .ok (.aload_n 0, 1) := by decide +kernel
theorem dX10_print_16 : decode cX10_print 16 = .ok (.getfield 31, 3) := by decide +kernel
theorem dX10_print_19 : decode cX10_print 19 = .ok (.iload_n 1, 1) := by decide +kernel
theorem dX10_print_20 : decode cX10_print 20 = .ok (.iaload, 1) := by decide +kernel
theorem dX10_print_21 : decode cX10_print 21 = .ok (.ifCond .ne 6, 3) := by decide +kernel
theorem dX10_print_24 : decode cX10_print 24 = .ok (.bipush (-3), 2) := by decide +kernel
theorem dX10_print_26 : decode cX10_print 26 = .ok (.ireturn, 1) := by decide +kernel
theorem dX10_print_27 : decode cX10_print 27 = .ok (.aload_n 0, 1) := by decide +kernel
theorem dX10_print_28 : decode cX10_print 28 = .ok (.iload_n 1, 1) := by decide +kernel
theorem dX10_print_29 : decode cX10_print 29 = .ok (.invokevirtual 273, 3) := by decide +kernel
theorem dX10_print_32 : decode cX10_print 32 = .ok (.iload_n 2, 1) := by decide +kernel
theorem dX10_print_33 : decode cX10_print 33 = .ok (.ifCond .ge 10, 3) := by decide +kernel
theorem dX10_print_36 : decode cX10_print 36 = .ok (.aload_n 0, 1) := by decide +kernel
theorem dX10_print_37 : decode cX10_print 37 = .ok (.getfield 264, 3) := by decide +kernel
theorem dX10_print_40 : decode cX10_print 40 = .ok (.goto 22, 3) := by decide +kernel
theorem dX10_print_43 : decode cX10_print 43 = .ok (.iload_n 2, 1) := by decide +kernel
theorem dX10_print_44 : decode cX10_print 44 = .ok (.aload_n 0, 1) := by decide +kernel
theorem dX10_print_45 : decode cX10_print 45 = .ok (.getfield 264, 3) := by decide +kernel
theorem dX10_print_48 : decode cX10_print 48 = .ok (.if_icmp .ge 12, 3) := by decide +kernel
