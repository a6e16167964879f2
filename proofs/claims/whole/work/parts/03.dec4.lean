theorem dX10_indexNow_46 : decode cX10_indexNow 46 = .ok (.goto (-30), 3) := by decide +kernel
theorem dX10_indexNow_49 : decode cX10_indexNow 49 = .ok (.iload_n 2, 1) := by decide +kernel
theorem dX10_indexNow_50 : decode cX10_indexNow 50 = .ok (.iload_n 1, 1) := by decide +kernel
theorem dX10_indexNow_51 : decode cX10_indexNow 51 = .ok (.if_icmp .gt 5, 3) := by decide +kernel
theorem dX10_indexNow_54 : decode cX10_indexNow 54 = .ok (.iload_n 1, 1) := by decide +kernel
theorem dX10_indexNow_55 : decode cX10_indexNow 55 = .ok (.ireturn, 1) := by decide +kernel
theorem dX10_indexNow_56 : decode cX10_indexNow 56 = .ok (.iinc 1 1, 3) := by decide +kernel
theorem dX10_indexNow_59 : decode cX10_indexNow 59 = .ok (.goto (-57), 3) := by decide +kernel
theorem dX10_indexNow_62 : decode cX10_indexNow 62 = .ok (.iload_n 1, 1) := by decide +kernel
theorem dX10_indexNow_63 : decode cX10_indexNow 63 = .ok (.ireturn, 1) := by decide +kernel
theorem dX10_index_0 : decode cX10_index 0 = .ok (.aload_n 0, 1) := by decide +kernel
theorem dX10_index_1 : decode cX10_index 1 = .ok (.iconst 0, 1) := by decide +kernel
theorem dX10_index_2 : decode cX10_index 2 = .ok (.putfield 36, 3) := by decide +kernel
theorem dX10_index_5 : decode cX10_index 5 = .ok (.aload_n 0, 1) := by decide +kernel
theorem dX10_index_6 : decode cX10_index 6 = .ok (.invokevirtual 127, 3) := by decide +kernel
theorem dX10_index_9 : decode cX10_index 9 = .ok (.ireturn, 1) := by decide +kernel
theorem dX10_indexByCounts_0 : decode cX10_indexByCounts 0 = .ok (.aload_n 0, 1) := by decide +kernel
theorem dX10_indexByCounts_1 : decode cX10_indexByCounts 1 = .ok (.iconst 0, 1) := by decide +kernel
theorem dX10_indexByCounts_2 : decode cX10_indexByCounts 2 = .ok (.putfield 36, 3) := by decide +kernel
theorem dX10_indexByCounts_5 : decode cX10_indexByCounts 5 = .ok (.aload_n 0, 1) := by decide +kernel
theorem dX10_indexByCounts_6 : decode cX10_indexByCounts 6 = .ok (.invokevirtual 127, 3) := by decide +kernel
theorem dX10_indexByCounts_9 : decode cX10_indexByCounts 9 = .ok (.ireturn, 1) := by decide +kernel
theorem dX10_isAhead_0 : decode cX10_isAhead 0 = .ok (.aload_n 0, 1) := by decide +kernel
theorem dX10_isAhead_1 : decode cX10_isAhead 1 = .ok (.iload_n 1, 1) := by decide +kernel
theorem dX10_isAhead_2 : decode cX10_isAhead 2 = .ok (.invokevirtual 114, 3) := by decide +kernel
theorem dX10_isAhead_5 : decode cX10_isAhead 5 = .ok (.aload_n 0, 1) := by decide +kernel
theorem dX10_isAhead_6 : decode cX10_isAhead 6 = .ok (.iload_n 2, 1) := by decide +kernel
theorem dX10_isAhead_7 : decode cX10_isAhead 7 = .ok (.invokevirtual 114, 3) := by decide +kernel
theorem dX10_isAhead_10 : decode cX10_isAhead 10 = .ok (.if_icmp .eq 22, 3) := by decide +kernel
theorem dX10_isAhead_13 : decode cX10_isAhead 13 = .ok (.aload_n 0, 1) := by decide +kernel
theorem dX10_isAhead_14 : decode cX10_isAhead 14 = .ok (.iload_n 1, 1) := by decide +kernel
theorem dX10_isAhead_15 : decode cX10_isAhead 15 = .ok (.invokevirtual 114, 3) := by decide +kernel
theorem dX10_isAhead_18 : decode cX10_isAhead 18 = .ok (.aload_n 0, 1) := by decide +kernel
theorem dX10_isAhead_19 : decode cX10_isAhead 19 = .ok (.iload_n 2, 1) := by decide +kernel
theorem dX10_isAhead_20 : decode cX10_isAhead 20 = .ok (.invokevirtual 114, 3) := by decide +kernel
theorem dX10_isAhead_23 : decode cX10_isAhead 23 = .ok (.if_icmp .le 7, 3) := by decide +kernel
theorem dX10_isAhead_26 : decode cX10_isAhead 26 = .ok (.iconst 1, 1) := by decide +kernel
theorem dX10_isAhead_27 : decode cX10_isAhead 27 = .ok (.goto 4, 3) := by decide +kernel
theorem dX10_isAhead_30 : decode cX10_isAhead 30 = .ok (.iconst 0, 1) := by decide +kernel
theorem dX10_isAhead_31 : decode cX10_isAhead 31 = .ok (.ireturn, 1) := by decide +kernel
theorem dX10_isAhead_32 : decode cX10_isAhead 32 = .ok (.aload_n 0, 1) := by decide +kernel
theorem dX10_isAhead_33 : decode cX10_isAhead 33 = .ok (.iload_n 1, 1) := by decide +kernel
theorem dX10_isAhead_34 : decode cX10_isAhead 34 = .ok (.iconst 1, 1) := by decide +kernel
theorem dX10_isAhead_35 : decode cX10_isAhead 35 = .ok (.invokevirtual 73, 3) := by decide +kernel
theorem dX10_isAhead_38 : decode cX10_isAhead 38 = .ok (.aload_n 0, 1) := by decide +kernel
theorem dX10_isAhead_39 : decode cX10_isAhead 39 = .ok (.iload_n 2, 1) := by decide +kernel
theorem dX10_isAhead_40 : decode cX10_isAhead 40 = .ok (.iconst 1, 1) := by decide +kernel
theorem dX10_isAhead_41 : decode cX10_isAhead 41 = .ok (.invokevirtual 73, 3) := by decide +kernel
theorem dX10_isAhead_44 : decode cX10_isAhead 44 = .ok (.if_icmp .eq 26, 3) := by decide +kernel
theorem dX10_isAhead_47 : decode cX10_isAhead 47 = .ok (.aload_n 0, 1) := by decide +kernel
theorem dX10_isAhead_48 : decode cX10_isAhead 48 = .ok (.iload_n 1, 1) := by decide +kernel
theorem dX10_isAhead_49 : decode cX10_isAhead 49 = .ok (.iconst 1, 1) := by decide +kernel
theorem dX10_isAhead_50 : decode cX10_isAhead 50 = .ok (.invokevirtual 73, 3) := by decide +kernel
theorem dX10_isAhead_53 : decode cX10_isAhead 53 = .ok (.aload_n 0, 1) := by decide +kernel
theorem dX10_isAhead_54 : decode cX10_isAhead 54 = .ok (.iload_n 2, 1) := by decide +kernel
theorem dX10_isAhead_55 : decode cX10_isAhead 55 = .ok (.iconst 1, 1) := by decide +kernel
theorem dX10_isAhead_56 : decode cX10_isAhead 56 = .ok (.invokevirtual 73, 3) := by decide +kernel
theorem dX10_isAhead_59 : decode cX10_isAhead 59 = .ok (.if_icmp .le 7, 3) := by decide +kernel
theorem dX10_isAhead_62 : decode cX10_isAhead 62 = .ok (.iconst 1, 1) := by decide +kernel
theorem dX10_isAhead_63 : decode cX10_isAhead 63 = .ok (.goto 17, 3) := by decide +kernel
theorem dX10_isAhead_66 : decode cX10_isAhead 66 = .ok (.iconst 0, 1) := by decide +kernel
theorem dX10_isAhead_67 : decode cX10_isAhead 67 = .ok (.goto 13, 3) := by decide +kernel
theorem dX10_isAhead_70 : decode cX10_isAhead 70 = .ok (.iload_n 1, 1) := by decide +kernel
theorem dX10_isAhead_71 : decode cX10_isAhead 71 = .ok (.iload_n 2, 1) := by decide +kernel
theorem dX10_isAhead_72 : decode cX10_isAhead 72 = .ok (.if_icmp .ge 7, 3) := by decide +kernel
theorem dX10_isAhead_75 : decode cX10_isAhead 75 = .ok (.iconst 1, 1) := by decide +kernel
theorem dX10_isAhead_76 : decode cX10_isAhead 76 = .ok (.goto 4, 3) := by decide +kernel
theorem dX10_isAhead_79 : decode cX10_isAhead 79 = .ok (.iconst 0, 1) := by decide +kernel
theorem dX10_isAhead_80 : decode cX10_isAhead 80 = .ok (.ireturn, 1) := by decide +kernel
theorem dX10_noteByCitations_0 : decode cX10_noteByCitations 0 = .ok (.iconst 0, 1) := by decide +kernel
theorem dX10_noteByCitations_1 : decode cX10_noteByCitations 1 = .ok (.istore_n 2, 1) := by decide +kernel
theorem dX10_noteByCitations_2 : decode cX10_noteByCitations 2 = .ok (.iload_n 2, 1) := by decide +kernel
theorem dX10_noteByCitations_3 : decode cX10_noteByCitations 3 = .ok (.aload_n 0, 1) := by decide +kernel
theorem dX10_noteByCitations_4 : decode cX10_noteByCitations 4 = .ok (.getfield 7, 3) := by decide +kernel
theorem dX10_noteByCitations_7 : decode cX10_noteByCitations 7 = .ok (.iconst 0, 1) := by decide +kernel
theorem dX10_noteByCitations_8 : decode cX10_noteByCitations 8 = .ok (.iaload, 1) := by decide +kernel
theorem dX10_noteByCitations_9 : decode cX10_noteByCitations 9 = .ok (.if_icmp .ge 70, 3) := by decide +kernel
theorem dX10_noteByCitations_12 : decode cX10_noteByCitations 12 = .ok (.iconst 0, 1) := by decide +kernel
theorem dX10_noteByCitations_13 : decode cX10_noteByCitations 13 = .ok (.istore_n 3, 1) := by decide +kernel
theorem dX10_noteByCitations_14 : decode cX10_noteByCitations 14 = .ok (.iconst 0, 1) := by decide +kernel
theorem dX10_noteByCitations_15 : decode cX10_noteByCitations 15 = .ok (.istore 4, 2) := by decide +kernel
theorem dX10_noteByCitations_17 : decode cX10_noteByCitations 17 = .ok (.iload 4, 2) := by decide +kernel
theorem dX10_noteByCitations_19 : decode cX10_noteByCitations 19 = .ok (.aload_n 0, 1) := by decide +kernel
theorem dX10_noteByCitations_20 : decode cX10_noteByCitations 20 = .ok (.getfield 7, 3) := by decide +kernel
theorem dX10_noteByCitations_23 : decode cX10_noteByCitations 23 = .ok (.iconst 0, 1) := by decide +kernel
theorem dX10_noteByCitations_24 : decode cX10_noteByCitations 24 = .ok (.iaload, 1) := by decide +kernel
theorem dX10_noteByCitations_25 : decode cX10_noteByCitations 25 = .ok (.if_icmp .ge 33, 3) := by decide +kernel
theorem dX10_noteByCitations_28 : decode cX10_noteByCitations 28 = .ok (.iload_n 3, 1) := by decide +kernel
theorem dX10_noteByCitations_29 : decode cX10_noteByCitations 29 = .ok (.iload 4, 2) := by decide +kernel
theorem dX10_noteByCitations_31 : decode cX10_noteByCitations 31 = .ok (.iload_n 2, 1) := by decide +kernel
theorem dX10_noteByCitations_32 : decode cX10_noteByCitations 32 = .ok (.if_icmp .eq 17, 3) := by decide +kernel
theorem dX10_noteByCitations_35 : decode cX10_noteByCitations 35 = .ok (.aload_n 0, 1) := by decide +kernel
theorem dX10_noteByCitations_36 : decode cX10_noteByCitations 36 = .ok (.iload 4, 2) := by decide +kernel
theorem dX10_noteByCitations_38 : decode cX10_noteByCitations 38 = .ok (.iload_n 2, 1) := by decide +kernel
theorem dX10_noteByCitations_39 : decode cX10_noteByCitations 39 = .ok (.invokevirtual 130, 3) := by decide +kernel
theorem dX10_noteByCitations_42 : decode cX10_noteByCitations 42 = .ok (.ifCond .eq 7, 3) := by decide +kernel
theorem dX10_noteByCitations_45 : decode cX10_noteByCitations 45 = .ok (.iconst 1, 1) := by decide +kernel
theorem dX10_noteByCitations_46 : decode cX10_noteByCitations 46 = .ok (.goto 4, 3) := by decide +kernel
theorem dX10_noteByCitations_49 : decode cX10_noteByCitations 49 = .ok (.iconst 0, 1) := by decide +kernel
theorem dX10_noteByCitations_50 : decode cX10_noteByCitations 50 = .ok (.iadd, 1) := by decide +kernel
theorem dX10_noteByCitations_51 : decode cX10_noteByCitations 51 = .ok (.istore_n 3, 1) := by decide +kernel
theorem dX10_noteByCitations_52 : decode cX10_noteByCitations 52 = .ok (.iinc 4 1, 3) := by decide +kernel
theorem dX10_noteByCitations_55 : decode cX10_noteByCitations 55 = .ok (.goto (-38), 3) := by decide +kernel
theorem dX10_noteByCitations_58 : decode cX10_noteByCitations 58 = .ok (.iload_n 3, 1) := by decide +kernel
theorem dX10_noteByCitations_59 : decode cX10_noteByCitations 59 = .ok (.iload_n 1, 1) := by decide +kernel
theorem dX10_noteByCitations_60 : decode cX10_noteByCitations 60 = .ok (.if_icmp .eq 6, 3) := by decide +kernel
theorem dX10_noteByCitations_63 : decode cX10_noteByCitations 63 = .ok (.goto 10, 3) := by decide +kernel
theorem dX10_noteByCitations_66 : decode cX10_noteByCitations 66 = .ok (.aload_n 0, 1) := by decide +kernel
theorem dX10_noteByCitations_67 : decode cX10_noteByCitations 67 = .ok (.iconst 0, 1) := by decide +kernel
theorem dX10_noteByCitations_68 : decode cX10_noteByCitations 68 = .ok (.putfield 36, 3) := by decide +kernel
theorem dX10_noteByCitations_71 : decode cX10_noteByCitations 71 = .ok (.iload_n 2, 1) := by decide +kernel
theorem dX10_noteByCitations_72 : decode cX10_noteByCitations 72 = .ok (.ireturn, 1) := by decide +kernel
theorem dX10_noteByCitations_73 : decode cX10_noteByCitations 73 = .ok (.iinc 2 1, 3) := by decide +kernel
theorem dX10_noteByCitations_76 : decode cX10_noteByCitations 76 = .ok (.goto (-74), 3) := by decide +kernel
theorem dX10_noteByCitations_79 : decode cX10_noteByCitations 79 = .ok (.aload_n 0, 1) := by decide +kernel
theorem dX10_noteByCitations_80 : decode cX10_noteByCitations 80 = .ok (.iconst 1, 1) := by decide +kernel
theorem dX10_noteByCitations_81 : decode cX10_noteByCitations 81 = .ok (.putfield 36, 3) := by decide +kernel
theorem dX10_noteByCitations_84 : decode cX10_noteByCitations 84 = .ok (.iconst 0, 1) := by decide +kernel
theorem dX10_noteByCitations_85 : decode cX10_noteByCitations 85 = .ok (.ireturn, 1) := by decide +kernel
theorem dX10_setCurrent_0 : decode cX10_setCurrent 0 = .ok (.aload_n 0, 1) := by decide +kernel
theorem dX10_setCurrent_1 : decode cX10_setCurrent 1 = .ok (.iload_n 1, 1) := by decide +kernel
theorem dX10_setCurrent_2 : decode cX10_setCurrent 2 = .ok (.invokestatic 77, 3) := by decide +kernel
theorem dX10_setCurrent_5 : decode cX10_setCurrent 5 = .ok (.ifCond .eq 16, 3) := by decide +kernel
theorem dX10_setCurrent_8 : decode cX10_setCurrent 8 = .ok (.iload_n 2, 1) := by decide +kernel
theorem dX10_setCurrent_9 : decode cX10_setCurrent 9 = .ok (.iconst (-1), 1) := by decide +kernel
theorem dX10_setCurrent_10 : decode cX10_setCurrent 10 = .ok (.iconst 1, 1) := by decide +kernel
theorem dX10_setCurrent_11 : decode cX10_setCurrent 11 = .ok (.invokestatic 62, 3) := by decide +kernel
theorem dX10_setCurrent_14 : decode cX10_setCurrent 14 = .ok (.ifCond .eq 7, 3) := by decide +kernel
theorem dX10_setCurrent_17 : decode cX10_setCurrent 17 = .ok (.iconst 0, 1) := by decide +kernel
theorem dX10_setCurrent_18 : decode cX10_setCurrent 18 = .ok (.goto 4, 3) := by decide +kernel
theorem dX10_setCurrent_21 : decode cX10_setCurrent 21 = .ok (.iconst 1, 1) := by decide +kernel
theorem dX10_setCurrent_22 : decode cX10_setCurrent 22 = .ok (.invokevirtual 70, 3) := by decide +kernel
theorem dX10_setCurrent_25 : decode cX10_setCurrent 25 = .ok (.ifCond .eq 5, 3) := by decide +kernel
theorem dX10_setCurrent_28 : decode cX10_setCurrent 28 = .ok (.iconst 0, 1) := by decide +kernel
theorem dX10_setCurrent_29 : decode cX10_setCurrent 29 = .ok (.ireturn, 1) := by decide +kernel
theorem dX10_setCurrent_30 : decode cX10_setCurrent 30 = .ok (.aload_n 0, 1) := by decide +kernel
theorem dX10_setCurrent_31 : decode cX10_setCurrent 31 = .ok (.getfield 7, 3) := by decide +kernel
theorem dX10_setCurrent_34 : decode cX10_setCurrent 34 = .ok (.bipush 8, 2) := by decide +kernel
theorem dX10_setCurrent_36 : decode cX10_setCurrent 36 = .ok (.iload_n 1, 1) := by decide +kernel
theorem dX10_setCurrent_37 : decode cX10_setCurrent 37 = .ok (.iadd, 1) := by decide +kernel
theorem dX10_setCurrent_38 : decode cX10_setCurrent 38 = .ok (.iaload, 1) := by decide +kernel
theorem dX10_setCurrent_39 : decode cX10_setCurrent 39 = .ok (.istore_n 3, 1) := by decide +kernel
theorem dX10_setCurrent_40 : decode cX10_setCurrent 40 = .ok (.aload_n 0, 1) := by decide +kernel
theorem dX10_setCurrent_41 : decode cX10_setCurrent 41 = .ok (.aload_n 0, 1) := by decide +kernel
theorem dX10_setCurrent_42 : decode cX10_setCurrent 42 = .ok (.getfield 7, 3) := by decide +kernel
theorem dX10_setCurrent_45 : decode cX10_setCurrent 45 = .ok (.invokevirtual 84, 3) := by decide +kernel
theorem dX10_setCurrent_48 : decode cX10_setCurrent 48 = .ok (.aload_n 0, 1) := by decide +kernel
theorem dX10_setCurrent_49 : decode cX10_setCurrent 49 = .ok (.getfield 7, 3) := by decide +kernel
theorem dX10_setCurrent_52 : decode cX10_setCurrent 52 = .ok (.bipush 8, 2) := by decide +kernel
theorem dX10_setCurrent_54 : decode cX10_setCurrent 54 = .ok (.iload_n 1, 1) := by decide +kernel
theorem dX10_setCurrent_55 : decode cX10_setCurrent 55 = .ok (.iadd, 1) := by decide +kernel
theorem dX10_setCurrent_56 : decode cX10_setCurrent 56 = .ok (.iload_n 2, 1) := by decide +kernel
theorem dX10_setCurrent_57 : decode cX10_setCurrent 57 = .ok (.iastore, 1) := by decide +kernel
theorem dX10_setCurrent_58 : decode cX10_setCurrent 58 = .ok (.iload_n 3, 1) := by decide +kernel
theorem dX10_setCurrent_59 : decode cX10_setCurrent 59 = .ok (.ireturn, 1) := by decide +kernel
theorem dX10_setQuota_0 : decode cX10_setQuota 0 = .ok (.aload_n 0, 1) := by decide +kernel
theorem dX10_setQuota_1 : decode cX10_setQuota 1 = .ok (.iload_n 1, 1) := by decide +kernel
theorem dX10_setQuota_2 : decode cX10_setQuota 2 = .ok (.invokestatic 77, 3) := by decide +kernel
theorem dX10_setQuota_5 : decode cX10_setQuota 5 = .ok (.ifCond .eq 17, 3) := by decide +kernel
theorem dX10_setQuota_8 : decode cX10_setQuota 8 = .ok (.iload_n 2, 1) := by decide +kernel
theorem dX10_setQuota_9 : decode cX10_setQuota 9 = .ok (.iconst 0, 1) := by decide +kernel
theorem dX10_setQuota_10 : decode cX10_setQuota 10 = .ok (.bipush 99, 2) := by decide +kernel
theorem dX10_setQuota_12 : decode cX10_setQuota 12 = .ok (.invokestatic 62, 3) := by decide +kernel
theorem dX10_setQuota_15 : decode cX10_setQuota 15 = .ok (.ifCond .eq 7, 3) := by decide +kernel
theorem dX10_setQuota_18 : decode cX10_setQuota 18 = .ok (.iconst 0, 1) := by decide +kernel
theorem dX10_setQuota_19 : decode cX10_setQuota 19 = .ok (.goto 4, 3) := by decide +kernel
theorem dX10_setQuota_22 : decode cX10_setQuota 22 = .ok (.iconst 1, 1) := by decide +kernel
theorem dX10_setQuota_23 : decode cX10_setQuota 23 = .ok (.invokevirtual 70, 3) := by decide +kernel
theorem dX10_setQuota_26 : decode cX10_setQuota 26 = .ok (.ifCond .eq 5, 3) := by decide +kernel
theorem dX10_setQuota_29 : decode cX10_setQuota 29 = .ok (.iconst 0, 1) := by decide +kernel
theorem dX10_setQuota_30 : decode cX10_setQuota 30 = .ok (.ireturn, 1) := by decide +kernel
theorem dX10_setQuota_31 : decode cX10_setQuota 31 = .ok (.aload_n 0, 1) := by decide +kernel
theorem dX10_setQuota_32 : decode cX10_setQuota 32 = .ok (.getfield 7, 3) := by decide +kernel
theorem dX10_setQuota_35 : decode cX10_setQuota 35 = .ok (.bipush 20, 2) := by decide +kernel
theorem dX10_setQuota_37 : decode cX10_setQuota 37 = .ok (.iload_n 1, 1) := by decide +kernel
theorem dX10_setQuota_38 : decode cX10_setQuota 38 = .ok (.iadd, 1) := by decide +kernel
theorem dX10_setQuota_39 : decode cX10_setQuota 39 = .ok (.iaload, 1) := by decide +kernel
theorem dX10_setQuota_40 : decode cX10_setQuota 40 = .ok (.istore_n 3, 1) := by decide +kernel
theorem dX10_setQuota_41 : decode cX10_setQuota 41 = .ok (.aload_n 0, 1) := by decide +kernel
theorem dX10_setQuota_42 : decode cX10_setQuota 42 = .ok (.aload_n 0, 1) := by decide +kernel
theorem dX10_setQuota_43 : decode cX10_setQuota 43 = .ok (.getfield 7, 3) := by decide +kernel
theorem dX10_setQuota_46 : decode cX10_setQuota 46 = .ok (.invokevirtual 84, 3) := by decide +kernel
theorem dX10_setQuota_49 : decode cX10_setQuota 49 = .ok (.aload_n 0, 1) := by decide +kernel
theorem dX10_setQuota_50 : decode cX10_setQuota 50 = .ok (.getfield 7, 3) := by decide +kernel
theorem dX10_setQuota_53 : decode cX10_setQuota 53 = .ok (.bipush 20, 2) := by decide +kernel
theorem dX10_setQuota_55 : decode cX10_setQuota 55 = .ok (.iload_n 1, 1) := by decide +kernel
theorem dX10_setQuota_56 : decode cX10_setQuota 56 = .ok (.iadd, 1) := by decide +kernel
theorem dX10_setQuota_57 : decode cX10_setQuota 57 = .ok (.iload_n 2, 1) := by decide +kernel
theorem dX10_setQuota_58 : decode cX10_setQuota 58 = .ok (.iastore, 1) := by decide +kernel
theorem dX10_setQuota_59 : decode cX10_setQuota 59 = .ok (.iload_n 3, 1) := by decide +kernel
theorem dX10_setQuota_60 : decode cX10_setQuota 60 = .ok (.ireturn, 1) := by decide +kernel
theorem dX10_ofPage_0 : decode cX10_ofPage 0 = .ok (.aload_n 0, 1) := by decide +kernel
theorem dX10_ofPage_1 : decode cX10_ofPage 1 = .ok (.iload_n 1, 1) := by decide +kernel
theorem dX10_ofPage_2 : decode cX10_ofPage 2 = .ok (.invokestatic 77, 3) := by decide +kernel
theorem dX10_ofPage_5 : decode cX10_ofPage 5 = .ok (.ifCond .eq 7, 3) := by decide +kernel
theorem dX10_ofPage_8 : decode cX10_ofPage 8 = .ok (.iconst 0, 1) := by decide +kernel
theorem dX10_ofPage_9 : decode cX10_ofPage 9 = .ok (.goto 4, 3) := by decide +kernel
theorem dX10_ofPage_12 : decode cX10_ofPage 12 = .ok (.iconst 1, 1) := by decide +kernel
theorem dX10_ofPage_13 : decode cX10_ofPage 13 = .ok (.invokevirtual 70, 3) := by decide +kernel
theorem dX10_ofPage_16 : decode cX10_ofPage 16 = .ok (.ifCond .eq 7, 3) := by decide +kernel
theorem dX10_ofPage_19 : decode cX10_ofPage 19 = .ok (.iconst 0, 1) := by decide +kernel
theorem dX10_ofPage_20 : decode cX10_ofPage 20 = .ok (.goto 11, 3) := by decide +kernel
theorem dX10_ofPage_23 : decode cX10_ofPage 23 = .ok (.aload_n 0, 1) := by decide +kernel
theorem dX10_ofPage_24 : decode cX10_ofPage 24 = .ok (.getfield 7, 3) := by decide +kernel
theorem dX10_ofPage_27 : decode cX10_ofPage 27 = .ok (.iload_n 2, 1) := by decide +kernel
theorem dX10_ofPage_28 : decode cX10_ofPage 28 = .ok (.iload_n 1, 1) := by decide +kernel
theorem dX10_ofPage_29 : decode cX10_ofPage 29 = .ok (.iadd, 1) := by decide +kernel
theorem dX10_ofPage_30 : decode cX10_ofPage 30 = .ok (.iaload, 1) := by decide +kernel
theorem dX10_ofPage_31 : decode cX10_ofPage 31 = .ok (.ireturn, 1) := by decide +kernel
theorem dX10_current_0 : decode cX10_current 0 = .ok (.aload_n 0, 1) := by decide +kernel
theorem dX10_current_1 : decode cX10_current 1 = .ok (.iload_n 1, 1) := by decide +kernel
theorem dX10_current_2 : decode cX10_current 2 = .ok (.bipush 8, 2) := by decide +kernel
theorem dX10_current_4 : decode cX10_current 4 = .ok (.invokevirtual 133, 3) := by decide +kernel
theorem dX10_current_7 : decode cX10_current 7 = .ok (.ireturn, 1) := by decide +kernel
theorem dX10_quota_0 : decode cX10_quota 0 = .ok (.aload_n 0, 1) := by decide +kernel
theorem dX10_quota_1 : decode cX10_quota 1 = .ok (.iload_n 1, 1) := by decide +kernel
theorem dX10_quota_2 : decode cX10_quota 2 = .ok (.bipush 20, 2) := by decide +kernel
theorem dX10_quota_4 : decode cX10_quota 4 = .ok (.invokevirtual 133, 3) := by decide +kernel
theorem dX10_quota_7 : decode cX10_quota 7 = .ok (.ireturn, 1) := by decide +kernel
theorem dX10_seasonNow_0 : decode cX10_seasonNow 0 = .ok (.aload_n 0, 1) := by decide +kernel
theorem dX10_seasonNow_1 : decode cX10_seasonNow 1 = .ok (.getfield 7, 3) := by decide +kernel
theorem dX10_seasonNow_4 : decode cX10_seasonNow 4 = .ok (.iconst 2, 1) := by decide +kernel
theorem dX10_seasonNow_5 : decode cX10_seasonNow 5 = .ok (.iaload, 1) := by decide +kernel
theorem dX10_seasonNow_6 : decode cX10_seasonNow 6 = .ok (.bipush 30, 2) := by decide +kernel
theorem dX10_seasonNow_8 : decode cX10_seasonNow 8 = .ok (.idiv, 1) := by decide +kernel
theorem dX10_seasonNow_9 : decode cX10_seasonNow 9 = .ok (.iconst 4, 1) := by decide +kernel
theorem dX10_seasonNow_10 : decode cX10_seasonNow 10 = .ok (.irem, 1) := by decide +kernel
theorem dX10_seasonNow_11 : decode cX10_seasonNow 11 = .ok (.ireturn, 1) := by decide +kernel
theorem dX10_roomOn_0 : decode cX10_roomOn 0 = .ok (.aload_n 0, 1) := by decide +kernel
theorem dX10_roomOn_1 : decode cX10_roomOn 1 = .ok (.invokevirtual 136, 3) := by decide +kernel
theorem dX10_roomOn_4 : decode cX10_roomOn 4 = .ok (.iconst 2, 1) := by decide +kernel
theorem dX10_roomOn_5 : decode cX10_roomOn 5 = .ok (.if_icmp .ne 7, 3) := by decide +kernel
theorem dX10_roomOn_8 : decode cX10_roomOn 8 = .ok (.iconst 2, 1) := by decide +kernel
theorem dX10_roomOn_9 : decode cX10_roomOn 9 = .ok (.goto 4, 3) := by decide +kernel
theorem dX10_roomOn_12 : decode cX10_roomOn 12 = .ok (.iconst 1, 1) := by decide +kernel
theorem dX10_roomOn_13 : decode cX10_roomOn 13 = .ok (.aload_n 0, 1) := by decide +kernel
theorem dX10_roomOn_14 : decode cX10_roomOn 14 = .ok (.getfield 7, 3) := by decide +kernel
theorem dX10_roomOn_17 : decode cX10_roomOn 17 = .ok (.bipush 20, 2) := by decide +kernel
theorem dX10_roomOn_19 : decode cX10_roomOn 19 = .ok (.iload_n 1, 1) := by decide +kernel
theorem dX10_roomOn_20 : decode cX10_roomOn 20 = .ok (.iadd, 1) := by decide +kernel
theorem dX10_roomOn_21 : decode cX10_roomOn 21 = .ok (.iaload, 1) := by decide +kernel
theorem dX10_roomOn_22 : decode cX10_roomOn 22 = .ok (.imul, 1) := by decide +kernel
theorem dX10_roomOn_23 : decode cX10_roomOn 23 = .ok (.aload_n 0, 1) := by decide +kernel
theorem dX10_roomOn_24 : decode cX10_roomOn 24 = .ok (.getfield 7, 3) := by decide +kernel
theorem dX10_roomOn_27 : decode cX10_roomOn 27 = .ok (.bipush 32, 2) := by decide +kernel
theorem dX10_roomOn_29 : decode cX10_roomOn 29 = .ok (.iload_n 1, 1) := by decide +kernel
theorem dX10_roomOn_30 : decode cX10_roomOn 30 = .ok (.iadd, 1) := by decide +kernel
theorem dX10_roomOn_31 : decode cX10_roomOn 31 = .ok (.iaload, 1) := by decide +kernel
theorem dX10_roomOn_32 : decode cX10_roomOn 32 = .ok (.isub, 1) := by decide +kernel
theorem dX10_roomOn_33 : decode cX10_roomOn 33 = .ok (.istore_n 2, 1) := by decide +kernel
theorem dX10_roomOn_34 : decode cX10_roomOn 34 = .ok (.iload_n 2, 1) := by decide +kernel
theorem dX10_roomOn_35 : decode cX10_roomOn 35 = .ok (.ifCond .le 7, 3) := by decide +kernel
theorem dX10_roomOn_38 : decode cX10_roomOn 38 = .ok (.iload_n 2, 1) := by decide +kernel
theorem dX10_roomOn_39 : decode cX10_roomOn 39 = .ok (.goto 4, 3) := by decide +kernel
theorem dX10_roomOn_42 : decode cX10_roomOn 42 = .ok (.iconst 0, 1) := by decide +kernel
theorem dX10_roomOn_43 : decode cX10_roomOn 43 = .ok (.ireturn, 1) := by decide +kernel
theorem dX10_room_0 : decode cX10_room 0 = .ok (.aload_n 0, 1) := by decide +kernel
theorem dX10_room_1 : decode cX10_room 1 = .ok (.iload_n 1, 1) := by decide +kernel
theorem dX10_room_2 : decode cX10_room 2 = .ok (.invokestatic 77, 3) := by decide +kernel
theorem dX10_room_5 : decode cX10_room 5 = .ok (.ifCond .eq 7, 3) := by decide +kernel
theorem dX10_room_8 : decode cX10_room 8 = .ok (.iconst 0, 1) := by decide +kernel
theorem dX10_room_9 : decode cX10_room 9 = .ok (.goto 4, 3) := by decide +kernel
theorem dX10_room_12 : decode cX10_room 12 = .ok (.iconst 1, 1) := by decide +kernel
theorem dX10_room_13 : decode cX10_room 13 = .ok (.invokevirtual 70, 3) := by decide +kernel
theorem dX10_room_16 : decode cX10_room 16 = .ok (.ifCond .eq 7, 3) := by decide +kernel
theorem dX10_room_19 : decode cX10_room 19 = .ok (.iconst 0, 1) := by decide +kernel
theorem dX10_room_20 : decode cX10_room 20 = .ok (.goto 8, 3) := by decide +kernel
theorem dX10_room_23 : decode cX10_room 23 = .ok (.aload_n 0, 1) := by decide +kernel
theorem dX10_room_24 : decode cX10_room 24 = .ok (.iload_n 1, 1) := by decide +kernel
theorem dX10_room_25 : decode cX10_room 25 = .ok (.invokevirtual 139, 3) := by decide +kernel
theorem dX10_room_28 : decode cX10_room 28 = .ok (.ireturn, 1) := by decide +kernel
theorem dX10_those_0 : decode cX10_those 0 = .ok (.iconst 0, 1) := by decide +kernel
theorem dX10_those_1 : decode cX10_those 1 = .ok (.istore_n 2, 1) := by decide +kernel
theorem dX10_those_2 : decode cX10_those 2 = .ok (.iconst 0, 1) := by decide +kernel
theorem dX10_those_3 : decode cX10_those 3 = .ok (.istore_n 3, 1) := by decide +kernel
theorem dX10_those_4 : decode cX10_those 4 = .ok (.iload_n 3, 1) := by decide +kernel
theorem dX10_those_5 : decode cX10_those 5 = .ok (.aload_n 0, 1) := by decide +kernel
theorem dX10_those_6 : decode cX10_those 6 = .ok (.getfield 7, 3) := by decide +kernel
theorem dX10_those_9 : decode cX10_those 9 = .ok (.iconst 0, 1) := by decide +kernel
theorem dX10_those_10 : decode cX10_those 10 = .ok (.iaload, 1) := by decide +kernel
theorem dX10_those_11 : decode cX10_those 11 = .ok (.if_icmp .ge 25, 3) := by decide +kernel
theorem dX10_those_14 : decode cX10_those 14 = .ok (.aload_n 0, 1) := by decide +kernel
theorem dX10_those_15 : decode cX10_those 15 = .ok (.iload_n 3, 1) := by decide +kernel
theorem dX10_those_16 : decode cX10_those 16 = .ok (.iconst 2, 1) := by decide +kernel
theorem dX10_those_17 : decode cX10_those 17 = .ok (.invokevirtual 73, 3) := by decide +kernel
theorem dX10_those_20 : decode cX10_those 20 = .ok (.iload_n 1, 1) := by decide +kernel
theorem dX10_those_21 : decode cX10_those 21 = .ok (.if_icmp .ne 9, 3) := by decide +kernel
theorem dX10_those_24 : decode cX10_those 24 = .ok (.iload_n 2, 1) := by decide +kernel
theorem dX10_those_25 : decode cX10_those 25 = .ok (.iconst 1, 1) := by decide +kernel
theorem dX10_those_26 : decode cX10_those 26 = .ok (.iload_n 3, 1) := by decide +kernel
theorem dX10_those_27 : decode cX10_those 27 = .ok (.ishl, 1) := by decide +kernel
theorem dX10_those_28 : decode cX10_those 28 = .ok (.ior, 1) := by decide +kernel
theorem dX10_those_29 : decode cX10_those 29 = .ok (.istore_n 2, 1) := by decide +kernel
theorem dX10_those_30 : decode cX10_those 30 = .ok (.iinc 3 1, 3) := by decide +kernel
theorem dX10_those_33 : decode cX10_those 33 = .ok (.goto (-29), 3) := by decide +kernel
theorem dX10_those_36 : decode cX10_those 36 = .ok (.iload_n 2, 1) := by decide +kernel
theorem dX10_those_37 : decode cX10_those 37 = .ok (.ireturn, 1) := by decide +kernel
theorem dX10_onPage_0 : decode cX10_onPage 0 = .ok (.iconst 0, 1) := by decide +kernel
theorem dX10_onPage_1 : decode cX10_onPage 1 = .ok (.istore_n 3, 1) := by decide +kernel
theorem dX10_onPage_2 : decode cX10_onPage 2 = .ok (.iconst 0, 1) := by decide +kernel
theorem dX10_onPage_3 : decode cX10_onPage 3 = .ok (.istore 4, 2) := by decide +kernel
theorem dX10_onPage_5 : decode cX10_onPage 5 = .ok (.iload 4, 2) := by decide +kernel
theorem dX10_onPage_7 : decode cX10_onPage 7 = .ok (.aload_n 0, 1) := by decide +kernel
theorem dX10_onPage_8 : decode cX10_onPage 8 = .ok (.getfield 7, 3) := by decide +kernel
theorem dX10_onPage_11 : decode cX10_onPage 11 = .ok (.iconst 0, 1) := by decide +kernel
theorem dX10_onPage_12 : decode cX10_onPage 12 = .ok (.iaload, 1) := by decide +kernel
theorem dX10_onPage_13 : decode cX10_onPage 13 = .ok (.if_icmp .ge 37, 3) := by decide +kernel
theorem dX10_onPage_16 : decode cX10_onPage 16 = .ok (.iload_n 2, 1) := by decide +kernel
theorem dX10_onPage_17 : decode cX10_onPage 17 = .ok (.iload 4, 2) := by decide +kernel
theorem dX10_onPage_19 : decode cX10_onPage 19 = .ok (.ishr, 1) := by decide +kernel
theorem dX10_onPage_20 : decode cX10_onPage 20 = .ok (.iconst 1, 1) := by decide +kernel
theorem dX10_onPage_21 : decode cX10_onPage 21 = .ok (.iand, 1) := by decide +kernel
theorem dX10_onPage_22 : decode cX10_onPage 22 = .ok (.iconst 1, 1) := by decide +kernel
theorem dX10_onPage_23 : decode cX10_onPage 23 = .ok (.if_icmp .ne 21, 3) := by decide +kernel
theorem dX10_onPage_26 : decode cX10_onPage 26 = .ok (.aload_n 0, 1) := by decide +kernel
theorem dX10_onPage_27 : decode cX10_onPage 27 = .ok (.iload 4, 2) := by decide +kernel
theorem dX10_onPage_29 : decode cX10_onPage 29 = .ok (.iconst 0, 1) := by decide +kernel
theorem dX10_onPage_30 : decode cX10_onPage 30 = .ok (.invokevirtual 73, 3) := by decide +kernel
theorem dX10_onPage_33 : decode cX10_onPage 33 = .ok (.iload_n 1, 1) := by decide +kernel
theorem dX10_onPage_34 : decode cX10_onPage 34 = .ok (.if_icmp .ne 10, 3) := by decide +kernel
theorem dX10_onPage_37 : decode cX10_onPage 37 = .ok (.iload_n 3, 1) := by decide +kernel
theorem dX10_onPage_38 : decode cX10_onPage 38 = .ok (.iconst 1, 1) := by decide +kernel
theorem dX10_onPage_39 : decode cX10_onPage 39 = .ok (.iload 4, 2) := by decide +kernel
theorem dX10_onPage_41 : decode cX10_onPage 41 = .ok (.ishl, 1) := by decide +kernel
theorem dX10_onPage_42 : decode cX10_onPage 42 = .ok (.ior, 1) := by decide +kernel
theorem dX10_onPage_43 : decode cX10_onPage 43 = .ok (.istore_n 3, 1) := by decide +kernel
theorem dX10_onPage_44 : decode cX10_onPage 44 = .ok (.iinc 4 1, 3) := by decide +kernel
theorem dX10_onPage_47 : decode cX10_onPage 47 = .ok (.goto (-42), 3) := by decide +kernel
theorem dX10_onPage_50 : decode cX10_onPage 50 = .ok (.iload_n 3, 1) := by decide +kernel
theorem dX10_onPage_51 : decode cX10_onPage 51 = .ok (.ireturn, 1) := by decide +kernel
theorem dX10_floatingOn_0 : decode cX10_floatingOn 0 = .ok (.aload_n 0, 1) := by decide +kernel
theorem dX10_floatingOn_1 : decode cX10_floatingOn 1 = .ok (.iload_n 1, 1) := by decide +kernel
theorem dX10_floatingOn_2 : decode cX10_floatingOn 2 = .ok (.invokestatic 77, 3) := by decide +kernel
theorem dX10_floatingOn_5 : decode cX10_floatingOn 5 = .ok (.ifCond .eq 7, 3) := by decide +kernel
theorem dX10_floatingOn_8 : decode cX10_floatingOn 8 = .ok (.iconst 0, 1) := by decide +kernel
theorem dX10_floatingOn_9 : decode cX10_floatingOn 9 = .ok (.goto 4, 3) := by decide +kernel
theorem dX10_floatingOn_12 : decode cX10_floatingOn 12 = .ok (.iconst 1, 1) := by decide +kernel
theorem dX10_floatingOn_13 : decode cX10_floatingOn 13 = .ok (.invokevirtual 70, 3) := by decide +kernel
theorem dX10_floatingOn_16 : decode cX10_floatingOn 16 = .ok (.ifCond .eq 7, 3) := by decide +kernel
theorem dX10_floatingOn_19 : decode cX10_floatingOn 19 = .ok (.iconst 0, 1) := by decide +kernel
theorem dX10_floatingOn_20 : decode cX10_floatingOn 20 = .ok (.goto 16, 3) := by decide +kernel
theorem dX10_floatingOn_23 : decode cX10_floatingOn 23 = .ok (.aload_n 0, 1) := by decide +kernel
theorem dX10_floatingOn_24 : decode cX10_floatingOn 24 = .ok (.iload_n 1, 1) := by decide +kernel
theorem dX10_floatingOn_25 : decode cX10_floatingOn 25 = .ok (.aload_n 0, 1) := by decide +kernel
theorem dX10_floatingOn_26 : decode cX10_floatingOn 26 = .ok (.iconst 0, 1) := by decide +kernel
theorem dX10_floatingOn_27 : decode cX10_floatingOn 27 = .ok (.invokevirtual 142, 3) := by decide +kernel
theorem dX10_floatingOn_30 : decode cX10_floatingOn 30 = .ok (.invokevirtual 145, 3) := by decide +kernel
theorem dX10_floatingOn_33 : decode cX10_floatingOn 33 = .ok (.invokestatic 99, 3) := by decide +kernel
theorem dX10_floatingOn_36 : decode cX10_floatingOn 36 = .ok (.ireturn, 1) := by decide +kernel
theorem dX10_isNet_0 : decode cX10_isNet 0 = .ok (.iload_n 1, 1) := by decide +kernel
theorem dX10_isNet_1 : decode cX10_isNet 1 = .ok (.iconst 0, 1) := by decide +kernel
theorem dX10_isNet_2 : decode cX10_isNet 2 = .ok (.aload_n 0, 1) := by decide +kernel
theorem dX10_isNet_3 : decode cX10_isNet 3 = .ok (.getfield 7, 3) := by decide +kernel
theorem dX10_isNet_6 : decode cX10_isNet 6 = .ok (.iconst 1, 1) := by decide +kernel
theorem dX10_isNet_7 : decode cX10_isNet 7 = .ok (.iaload, 1) := by decide +kernel
theorem dX10_isNet_8 : decode cX10_isNet 8 = .ok (.iconst 1, 1) := by decide +kernel
theorem dX10_isNet_9 : decode cX10_isNet 9 = .ok (.isub, 1) := by decide +kernel
theorem dX10_isNet_10 : decode cX10_isNet 10 = .ok (.invokestatic 62, 3) := by decide +kernel
theorem dX10_isNet_13 : decode cX10_isNet 13 = .ok (.ireturn, 1) := by decide +kernel
theorem dX10_by_0 : decode cX10_by 0 = .ok (.aload_n 0, 1) := by decide +kernel
theorem dX10_by_1 : decode cX10_by 1 = .ok (.getfield 7, 3) := by decide +kernel
theorem dX10_by_4 : decode cX10_by 4 = .ok (.bipush 84, 2) := by decide +kernel
theorem dX10_by_6 : decode cX10_by 6 = .ok (.iconst 3, 1) := by decide +kernel
theorem dX10_by_7 : decode cX10_by 7 = .ok (.iload_n 1, 1) := by decide +kernel
theorem dX10_by_8 : decode cX10_by 8 = .ok (.imul, 1) := by decide +kernel
theorem dX10_by_9 : decode cX10_by 9 = .ok (.iadd, 1) := by decide +kernel
theorem dX10_by_10 : decode cX10_by 10 = .ok (.iload_n 2, 1) := by decide +kernel
theorem dX10_by_11 : decode cX10_by 11 = .ok (.iadd, 1) := by decide +kernel
theorem dX10_by_12 : decode cX10_by 12 = .ok (.iaload, 1) := by decide +kernel
theorem dX10_by_13 : decode cX10_by 13 = .ok (.ireturn, 1) := by decide +kernel
theorem dX10_addNet_0 : decode cX10_addNet 0 = .ok (.aload_n 0, 1) := by decide +kernel
theorem dX10_addNet_1 : decode cX10_addNet 1 = .ok (.iload_n 1, 1) := by decide +kernel
theorem dX10_addNet_2 : decode cX10_addNet 2 = .ok (.invokestatic 77, 3) := by decide +kernel
theorem dX10_addNet_5 : decode cX10_addNet 5 = .ok (.ifCond .eq 27, 3) := by decide +kernel
theorem dX10_addNet_8 : decode cX10_addNet 8 = .ok (.iload_n 2, 1) := by decide +kernel
theorem dX10_addNet_9 : decode cX10_addNet 9 = .ok (.iconst 1, 1) := by decide +kernel
theorem dX10_addNet_10 : decode cX10_addNet 10 = .ok (.bipush 12, 2) := by decide +kernel
theorem dX10_addNet_12 : decode cX10_addNet 12 = .ok (.invokestatic 62, 3) := by decide +kernel
theorem dX10_addNet_15 : decode cX10_addNet 15 = .ok (.ifCond .eq 17, 3) := by decide +kernel
theorem dX10_addNet_18 : decode cX10_addNet 18 = .ok (.iload_n 3, 1) := by decide +kernel
theorem dX10_addNet_19 : decode cX10_addNet 19 = .ok (.iconst 1, 1) := by decide +kernel
theorem dX10_addNet_20 : decode cX10_addNet 20 = .ok (.bipush 30, 2) := by decide +kernel
theorem dX10_addNet_22 : decode cX10_addNet 22 = .ok (.invokestatic 62, 3) := by decide +kernel
theorem dX10_addNet_25 : decode cX10_addNet 25 = .ok (.ifCond .eq 7, 3) := by decide +kernel
theorem dX10_addNet_28 : decode cX10_addNet 28 = .ok (.iconst 0, 1) := by decide +kernel
theorem dX10_addNet_29 : decode cX10_addNet 29 = .ok (.goto 4, 3) := by decide +kernel
theorem dX10_addNet_32 : decode cX10_addNet 32 = .ok (.iconst 1, 1) := by decide +kernel
theorem dX10_addNet_33 : decode cX10_addNet 33 = .ok (.invokevirtual 70, 3) := by decide +kernel
theorem dX10_addNet_36 : decode cX10_addNet 36 = .ok (.ifCond .eq 5, 3) := by decide +kernel
theorem dX10_addNet_39 : decode cX10_addNet 39 = .ok (.iconst 0, 1) := by decide +kernel
theorem dX10_addNet_40 : decode cX10_addNet 40 = .ok (.ireturn, 1) := by decide +kernel
theorem dX10_addNet_41 : decode cX10_addNet 41 = .ok (.aload_n 0, 1) := by decide +kernel
theorem dX10_addNet_42 : decode cX10_addNet 42 = .ok (.getfield 7, 3) := by decide +kernel
theorem dX10_addNet_45 : decode cX10_addNet 45 = .ok (.iconst 1, 1) := by decide +kernel
theorem dX10_addNet_46 : decode cX10_addNet 46 = .ok (.iaload, 1) := by decide +kernel
theorem dX10_addNet_47 : decode cX10_addNet 47 = .ok (.iconst 5, 1) := by decide +kernel
theorem dX10_addNet_48 : decode cX10_addNet 48 = .ok (.if_icmp .ne 11, 3) := by decide +kernel
theorem dX10_addNet_51 : decode cX10_addNet 51 = .ok (.aload_n 0, 1) := by decide +kernel
theorem dX10_addNet_52 : decode cX10_addNet 52 = .ok (.iconst 2, 1) := by decide +kernel
theorem dX10_addNet_53 : decode cX10_addNet 53 = .ok (.iconst 1, 1) := by decide +kernel
theorem dX10_addNet_54 : decode cX10_addNet 54 = .ok (.iconst 5, 1) := by decide +kernel
theorem dX10_addNet_55 : decode cX10_addNet 55 = .ok (.invokevirtual 80, 3) := by decide +kernel
theorem dX10_addNet_58 : decode cX10_addNet 58 = .ok (.ireturn, 1) := by decide +kernel
theorem dX10_addNet_59 : decode cX10_addNet 59 = .ok (.aload_n 0, 1) := by decide +kernel
theorem dX10_addNet_60 : decode cX10_addNet 60 = .ok (.aload_n 0, 1) := by decide +kernel
theorem dX10_addNet_61 : decode cX10_addNet 61 = .ok (.getfield 7, 3) := by decide +kernel
theorem dX10_addNet_64 : decode cX10_addNet 64 = .ok (.invokevirtual 84, 3) := by decide +kernel
theorem dX10_addNet_67 : decode cX10_addNet 67 = .ok (.bipush 84, 2) := by decide +kernel
theorem dX10_addNet_69 : decode cX10_addNet 69 = .ok (.iconst 3, 1) := by decide +kernel
theorem dX10_addNet_70 : decode cX10_addNet 70 = .ok (.aload_n 0, 1) := by decide +kernel
theorem dX10_addNet_71 : decode cX10_addNet 71 = .ok (.getfield 7, 3) := by decide +kernel
theorem dX10_addNet_74 : decode cX10_addNet 74 = .ok (.iconst 1, 1) := by decide +kernel
theorem dX10_addNet_75 : decode cX10_addNet 75 = .ok (.iaload, 1) := by decide +kernel
theorem dX10_addNet_76 : decode cX10_addNet 76 = .ok (.imul, 1) := by decide +kernel
theorem dX10_addNet_77 : decode cX10_addNet 77 = .ok (.iadd, 1) := by decide +kernel
theorem dX10_addNet_78 : decode cX10_addNet 78 = .ok (.istore 4, 2) := by decide +kernel
theorem dX10_addNet_80 : decode cX10_addNet 80 = .ok (.aload_n 0, 1) := by decide +kernel
theorem dX10_addNet_81 : decode cX10_addNet 81 = .ok (.getfield 7, 3) := by decide +kernel
theorem dX10_addNet_84 : decode cX10_addNet 84 = .ok (.iload 4, 2) := by decide +kernel
theorem dX10_addNet_86 : decode cX10_addNet 86 = .ok (.iconst 0, 1) := by decide +kernel
theorem dX10_addNet_87 : decode cX10_addNet 87 = .ok (.iadd, 1) := by decide +kernel
theorem dX10_addNet_88 : decode cX10_addNet 88 = .ok (.iload_n 1, 1) := by decide +kernel
theorem dX10_addNet_89 : decode cX10_addNet 89 = .ok (.iastore, 1) := by decide +kernel
theorem dX10_addNet_90 : decode cX10_addNet 90 = .ok (.aload_n 0, 1) := by decide +kernel
theorem dX10_addNet_91 : decode cX10_addNet 91 = .ok (.getfield 7, 3) := by decide +kernel
theorem dX10_addNet_94 : decode cX10_addNet 94 = .ok (.iload 4, 2) := by decide +kernel
theorem dX10_addNet_96 : decode cX10_addNet 96 = .ok (.iconst 1, 1) := by decide +kernel
theorem dX10_addNet_97 : decode cX10_addNet 97 = .ok (.iadd, 1) := by decide +kernel
theorem dX10_addNet_98 : decode cX10_addNet 98 = .ok (.iload_n 2, 1) := by decide +kernel
theorem dX10_addNet_99 : decode cX10_addNet 99 = .ok (.iastore, 1) := by decide +kernel
theorem dX10_addNet_100 : decode cX10_addNet 100 = .ok (.aload_n 0, 1) := by decide +kernel
theorem dX10_addNet_101 : decode cX10_addNet 101 = .ok (.getfield 7, 3) := by decide +kernel
theorem dX10_addNet_104 : decode cX10_addNet 104 = .ok (.iload 4, 2) := by decide +kernel
theorem dX10_addNet_106 : decode cX10_addNet 106 = .ok (.iconst 2, 1) := by decide +kernel
theorem dX10_addNet_107 : decode cX10_addNet 107 = .ok (.iadd, 1) := by decide +kernel
theorem dX10_addNet_108 : decode cX10_addNet 108 = .ok (.iload_n 3, 1) := by decide +kernel
theorem dX10_addNet_109 : decode cX10_addNet 109 = .ok (.iastore, 1) := by decide +kernel
theorem dX10_addNet_110 : decode cX10_addNet 110 = .ok (.aload_n 0, 1) := by decide +kernel
theorem dX10_addNet_111 : decode cX10_addNet 111 = .ok (.getfield 7, 3) := by decide +kernel
theorem dX10_addNet_114 : decode cX10_addNet 114 = .ok (.iconst 1, 1) := by decide +kernel
theorem dX10_addNet_115 : decode cX10_addNet 115 = .ok (.dup2, 1) := by decide +kernel
theorem dX10_addNet_116 : decode cX10_addNet 116 = .ok (.iaload, 1) := by decide +kernel
theorem dX10_addNet_117 : decode cX10_addNet 117 = .ok (.iconst 1, 1) := by decide +kernel
theorem dX10_addNet_118 : decode cX10_addNet 118 = .ok (.iadd, 1) := by decide +kernel
theorem dX10_addNet_119 : decode cX10_addNet 119 = .ok (.iastore, 1) := by decide +kernel
theorem dX10_addNet_120 : decode cX10_addNet 120 = .ok (.aload_n 0, 1) := by decide +kernel
theorem dX10_addNet_121 : decode cX10_addNet 121 = .ok (.getfield 7, 3) := by decide +kernel
theorem dX10_addNet_124 : decode cX10_addNet 124 = .ok (.iconst 1, 1) := by decide +kernel
theorem dX10_addNet_125 : decode cX10_addNet 125 = .ok (.iaload, 1) := by decide +kernel
theorem dX10_addNet_126 : decode cX10_addNet 126 = .ok (.iconst 1, 1) := by decide +kernel
theorem dX10_addNet_127 : decode cX10_addNet 127 = .ok (.isub, 1) := by decide +kernel
theorem dX10_addNet_128 : decode cX10_addNet 128 = .ok (.ireturn, 1) := by decide +kernel
theorem dX10_removeNet_0 : decode cX10_removeNet 0 = .ok (.aload_n 0, 1) := by decide +kernel
theorem dX10_removeNet_1 : decode cX10_removeNet 1 = .ok (.aload_n 0, 1) := by decide +kernel
theorem dX10_removeNet_2 : decode cX10_removeNet 2 = .ok (.iload_n 1, 1) := by decide +kernel
theorem dX10_removeNet_3 : decode cX10_removeNet 3 = .ok (.invokevirtual 148, 3) := by decide +kernel
theorem dX10_removeNet_6 : decode cX10_removeNet 6 = .ok (.ifCond .eq 7, 3) := by decide +kernel
theorem dX10_removeNet_9 : decode cX10_removeNet 9 = .ok (.iconst 0, 1) := by decide +kernel
theorem dX10_removeNet_10 : decode cX10_removeNet 10 = .ok (.goto 4, 3) := by decide +kernel
theorem dX10_removeNet_13 : decode cX10_removeNet 13 = .ok (.iconst 1, 1) := by decide +kernel
theorem dX10_removeNet_14 : decode cX10_removeNet 14 = .ok (.invokevirtual 70, 3) := by decide +kernel
theorem dX10_removeNet_17 : decode cX10_removeNet 17 = .ok (.ifCond .eq 5, 3) := by decide +kernel
theorem dX10_removeNet_20 : decode cX10_removeNet 20 = .ok (.iconst 0, 1) := by decide +kernel
theorem dX10_removeNet_21 : decode cX10_removeNet 21 = .ok (.ireturn, 1) := by decide +kernel
theorem dX10_removeNet_22 : decode cX10_removeNet 22 = .ok (.aload_n 0, 1) := by decide +kernel
theorem dX10_removeNet_23 : decode cX10_removeNet 23 = .ok (.aload_n 0, 1) := by decide +kernel
theorem dX10_removeNet_24 : decode cX10_removeNet 24 = .ok (.getfield 7, 3) := by decide +kernel
theorem dX10_removeNet_27 : decode cX10_removeNet 27 = .ok (.invokevirtual 84, 3) := by decide +kernel
theorem dX10_removeNet_30 : decode cX10_removeNet 30 = .ok (.aload_n 0, 1) := by decide +kernel
theorem dX10_removeNet_31 : decode cX10_removeNet 31 = .ok (.getfield 7, 3) := by decide +kernel
theorem dX10_removeNet_34 : decode cX10_removeNet 34 = .ok (.iconst 1, 1) := by decide +kernel
theorem dX10_removeNet_35 : decode cX10_removeNet 35 = .ok (.dup2, 1) := by decide +kernel
theorem dX10_removeNet_36 : decode cX10_removeNet 36 = .ok (.iaload, 1) := by decide +kernel
theorem dX10_removeNet_37 : decode cX10_removeNet 37 = .ok (.iconst 1, 1) := by decide +kernel
theorem dX10_removeNet_38 : decode cX10_removeNet 38 = .ok (.isub, 1) := by decide +kernel
theorem dX10_removeNet_39 : decode cX10_removeNet 39 = .ok (.iastore, 1) := by decide +kernel
theorem dX10_removeNet_40 : decode cX10_removeNet 40 = .ok (.bipush 84, 2) := by decide +kernel
theorem dX10_removeNet_42 : decode cX10_removeNet 42 = .ok (.iconst 3, 1) := by decide +kernel
theorem dX10_removeNet_43 : decode cX10_removeNet 43 = .ok (.iload_n 1, 1) := by decide +kernel
theorem dX10_removeNet_44 : decode cX10_removeNet 44 = .ok (.imul, 1) := by decide +kernel
theorem dX10_removeNet_45 : decode cX10_removeNet 45 = .ok (.iadd, 1) := by decide +kernel
theorem dX10_removeNet_46 : decode cX10_removeNet 46 = .ok (.istore_n 2, 1) := by decide +kernel
theorem dX10_removeNet_47 : decode cX10_removeNet 47 = .ok (.iload_n 2, 1) := by decide +kernel
theorem dX10_removeNet_48 : decode cX10_removeNet 48 = .ok (.bipush 84, 2) := by decide +kernel
theorem dX10_removeNet_50 : decode cX10_removeNet 50 = .ok (.iconst 3, 1) := by decide +kernel
theorem dX10_removeNet_51 : decode cX10_removeNet 51 = .ok (.aload_n 0, 1) := by decide +kernel
theorem dX10_removeNet_52 : decode cX10_removeNet 52 = .ok (.getfield 7, 3) := by decide +kernel
theorem dX10_removeNet_55 : decode cX10_removeNet 55 = .ok (.iconst 1, 1) := by decide +kernel
theorem dX10_removeNet_56 : decode cX10_removeNet 56 = .ok (.iaload, 1) := by decide +kernel
theorem dX10_removeNet_57 : decode cX10_removeNet 57 = .ok (.imul, 1) := by decide +kernel
theorem dX10_removeNet_58 : decode cX10_removeNet 58 = .ok (.iadd, 1) := by decide +kernel
theorem dX10_removeNet_59 : decode cX10_removeNet 59 = .ok (.if_icmp .ge 23, 3) := by decide +kernel
theorem dX10_removeNet_62 : decode cX10_removeNet 62 = .ok (.aload_n 0, 1) := by decide +kernel
theorem dX10_removeNet_63 : decode cX10_removeNet 63 = .ok (.getfield 7, 3) := by decide +kernel
theorem dX10_removeNet_66 : decode cX10_removeNet 66 = .ok (.iload_n 2, 1) := by decide +kernel
theorem dX10_removeNet_67 : decode cX10_removeNet 67 = .ok (.aload_n 0, 1) := by decide +kernel
theorem dX10_removeNet_68 : decode cX10_removeNet 68 = .ok (.getfield 7, 3) := by decide +kernel
theorem dX10_removeNet_71 : decode cX10_removeNet 71 = .ok (.iload_n 2, 1) := by decide +kernel
theorem dX10_removeNet_72 : decode cX10_removeNet 72 = .ok (.iconst 3, 1) := by decide +kernel
theorem dX10_removeNet_73 : decode cX10_removeNet 73 = .ok (.iadd, 1) := by decide +kernel
theorem dX10_removeNet_74 : decode cX10_removeNet 74 = .ok (.iaload, 1) := by decide +kernel
theorem dX10_removeNet_75 : decode cX10_removeNet 75 = .ok (.iastore, 1) := by decide +kernel
theorem dX10_removeNet_76 : decode cX10_removeNet 76 = .ok (.iinc 2 1, 3) := by decide +kernel
theorem dX10_removeNet_79 : decode cX10_removeNet 79 = .ok (.goto (-32), 3) := by decide +kernel
theorem dX10_removeNet_82 : decode cX10_removeNet 82 = .ok (.iconst 0, 1) := by decide +kernel
theorem dX10_removeNet_83 : decode cX10_removeNet 83 = .ok (.istore_n 2, 1) := by decide +kernel
theorem dX10_removeNet_84 : decode cX10_removeNet 84 = .ok (.iload_n 2, 1) := by decide +kernel
theorem dX10_removeNet_85 : decode cX10_removeNet 85 = .ok (.iconst 3, 1) := by decide +kernel
theorem dX10_removeNet_86 : decode cX10_removeNet 86 = .ok (.if_icmp .ge 28, 3) := by decide +kernel
theorem dX10_removeNet_89 : decode cX10_removeNet 89 = .ok (.aload_n 0, 1) := by decide +kernel
theorem dX10_removeNet_90 : decode cX10_removeNet 90 = .ok (.getfield 7, 3) := by decide +kernel
theorem dX10_removeNet_93 : decode cX10_removeNet 93 = .ok (.bipush 84, 2) := by decide +kernel
theorem dX10_removeNet_95 : decode cX10_removeNet 95 = .ok (.iconst 3, 1) := by decide +kernel
theorem dX10_removeNet_96 : decode cX10_removeNet 96 = .ok (.aload_n 0, 1) := by decide +kernel
theorem dX10_removeNet_97 : decode cX10_removeNet 97 = .ok (.getfield 7, 3) := by decide +kernel
theorem dX10_removeNet_100 : decode cX10_removeNet 100 = .ok (.iconst 1, 1) := by decide +kernel
theorem dX10_removeNet_101 : decode cX10_removeNet 101 = .ok (.iaload, 1) := by decide +kernel
theorem dX10_removeNet_102 : decode cX10_removeNet 102 = .ok (.imul, 1) := by decide +kernel
theorem dX10_removeNet_103 : decode cX10_removeNet 103 = .ok (.iadd, 1) := by decide +kernel
theorem dX10_removeNet_104 : decode cX10_removeNet 104 = .ok (.iload_n 2, 1) := by decide +kernel
theorem dX10_removeNet_105 : decode cX10_removeNet 105 = .ok (.iadd, 1) := by decide +kernel
theorem dX10_removeNet_106 : decode cX10_removeNet 106 = .ok (.iconst 0, 1) := by decide +kernel
theorem dX10_removeNet_107 : decode cX10_removeNet 107 = .ok (.iastore, 1) := by decide +kernel
theorem dX10_removeNet_108 : decode cX10_removeNet 108 = .ok (.iinc 2 1, 3) := by decide +kernel
theorem dX10_removeNet_111 : decode cX10_removeNet 111 = .ok (.goto (-27), 3) := by decide +kernel
theorem dX10_removeNet_114 : decode cX10_removeNet 114 = .ok (.aload_n 0, 1) := by decide +kernel
theorem dX10_removeNet_115 : decode cX10_removeNet 115 = .ok (.getfield 7, 3) := by decide +kernel
theorem dX10_removeNet_118 : decode cX10_removeNet 118 = .ok (.iconst 1, 1) := by decide +kernel
theorem dX10_removeNet_119 : decode cX10_removeNet 119 = .ok (.iaload, 1) := by decide +kernel
theorem dX10_removeNet_120 : decode cX10_removeNet 120 = .ok (.ireturn, 1) := by decide +kernel
theorem dX10_isCovered_0 : decode cX10_isCovered 0 = .ok (.iload_n 2, 1) := by decide +kernel
theorem dX10_isCovered_1 : decode cX10_isCovered 1 = .ok (.aload_n 0, 1) := by decide +kernel
theorem dX10_isCovered_2 : decode cX10_isCovered 2 = .ok (.iload_n 1, 1) := by decide +kernel
theorem dX10_isCovered_3 : decode cX10_isCovered 3 = .ok (.iconst 0, 1) := by decide +kernel
theorem dX10_isCovered_4 : decode cX10_isCovered 4 = .ok (.invokevirtual 151, 3) := by decide +kernel
theorem dX10_isCovered_7 : decode cX10_isCovered 7 = .ok (.isub, 1) := by decide +kernel
theorem dX10_isCovered_8 : decode cX10_isCovered 8 = .ok (.bipush 12, 2) := by decide +kernel
theorem dX10_isCovered_10 : decode cX10_isCovered 10 = .ok (.iadd, 1) := by decide +kernel
theorem dX10_isCovered_11 : decode cX10_isCovered 11 = .ok (.bipush 12, 2) := by decide +kernel
theorem dX10_isCovered_13 : decode cX10_isCovered 13 = .ok (.irem, 1) := by decide +kernel
theorem dX10_isCovered_14 : decode cX10_isCovered 14 = .ok (.aload_n 0, 1) := by decide +kernel
theorem dX10_isCovered_15 : decode cX10_isCovered 15 = .ok (.iload_n 1, 1) := by decide +kernel
theorem dX10_isCovered_16 : decode cX10_isCovered 16 = .ok (.iconst 1, 1) := by decide +kernel
theorem dX10_isCovered_17 : decode cX10_isCovered 17 = .ok (.invokevirtual 151, 3) := by decide +kernel
theorem dX10_isCovered_20 : decode cX10_isCovered 20 = .ok (.if_icmp .ge 7, 3) := by decide +kernel
theorem dX10_isCovered_23 : decode cX10_isCovered 23 = .ok (.iconst 1, 1) := by decide +kernel
theorem dX10_isCovered_24 : decode cX10_isCovered 24 = .ok (.goto 4, 3) := by decide +kernel
theorem dX10_isCovered_27 : decode cX10_isCovered 27 = .ok (.iconst 0, 1) := by decide +kernel
theorem dX10_isCovered_28 : decode cX10_isCovered 28 = .ok (.ireturn, 1) := by decide +kernel
theorem dX10_catches_0 : decode cX10_catches 0 = .ok (.iconst 0, 1) := by decide +kernel
theorem dX10_catches_1 : decode cX10_catches 1 = .ok (.istore_n 2, 1) := by decide +kernel
theorem dX10_catches_2 : decode cX10_catches 2 = .ok (.iconst 0, 1) := by decide +kernel
theorem dX10_catches_3 : decode cX10_catches 3 = .ok (.istore_n 3, 1) := by decide +kernel
theorem dX10_catches_4 : decode cX10_catches 4 = .ok (.iload_n 3, 1) := by decide +kernel
theorem dX10_catches_5 : decode cX10_catches 5 = .ok (.aload_n 0, 1) := by decide +kernel
theorem dX10_catches_6 : decode cX10_catches 6 = .ok (.getfield 7, 3) := by decide +kernel
theorem dX10_catches_9 : decode cX10_catches 9 = .ok (.iconst 0, 1) := by decide +kernel
theorem dX10_catches_10 : decode cX10_catches 10 = .ok (.iaload, 1) := by decide +kernel
theorem dX10_catches_11 : decode cX10_catches 11 = .ok (.if_icmp .ge 38, 3) := by decide +kernel
theorem dX10_catches_14 : decode cX10_catches 14 = .ok (.aload_n 0, 1) := by decide +kernel
theorem dX10_catches_15 : decode cX10_catches 15 = .ok (.iload_n 3, 1) := by decide +kernel
theorem dX10_catches_16 : decode cX10_catches 16 = .ok (.iconst 2, 1) := by decide +kernel
theorem dX10_catches_17 : decode cX10_catches 17 = .ok (.invokevirtual 73, 3) := by decide +kernel
theorem dX10_catches_20 : decode cX10_catches 20 = .ok (.ifCond .ne 23, 3) := by decide +kernel
theorem dX10_catches_23 : decode cX10_catches 23 = .ok (.aload_n 0, 1) := by decide +kernel
theorem dX10_catches_24 : decode cX10_catches 24 = .ok (.iload_n 1, 1) := by decide +kernel
theorem dX10_catches_25 : decode cX10_catches 25 = .ok (.aload_n 0, 1) := by decide +kernel
theorem dX10_catches_26 : decode cX10_catches 26 = .ok (.iload_n 3, 1) := by decide +kernel
theorem dX10_catches_27 : decode cX10_catches 27 = .ok (.iconst 0, 1) := by decide +kernel
theorem dX10_catches_28 : decode cX10_catches 28 = .ok (.invokevirtual 73, 3) := by decide +kernel
theorem dX10_catches_31 : decode cX10_catches 31 = .ok (.invokevirtual 154, 3) := by decide +kernel
theorem dX10_catches_34 : decode cX10_catches 34 = .ok (.ifCond .eq 9, 3) := by decide +kernel
theorem dX10_catches_37 : decode cX10_catches 37 = .ok (.iload_n 2, 1) := by decide +kernel
theorem dX10_catches_38 : decode cX10_catches 38 = .ok (.iconst 1, 1) := by decide +kernel
theorem dX10_catches_39 : decode cX10_catches 39 = .ok (.iload_n 3, 1) := by decide +kernel
theorem dX10_catches_40 : decode cX10_catches 40 = .ok (.ishl, 1) := by decide +kernel
theorem dX10_catches_41 : decode cX10_catches 41 = .ok (.ior, 1) := by decide +kernel
theorem dX10_catches_42 : decode cX10_catches 42 = .ok (.istore_n 2, 1) := by decide +kernel
theorem dX10_catches_43 : decode cX10_catches 43 = .ok (.iinc 3 1, 3) := by decide +kernel
theorem dX10_catches_46 : decode cX10_catches 46 = .ok (.goto (-42), 3) := by decide +kernel
theorem dX10_catches_49 : decode cX10_catches 49 = .ok (.iconst 0, 1) := by decide +kernel
theorem dX10_catches_50 : decode cX10_catches 50 = .ok (.istore_n 3, 1) := by decide +kernel
theorem dX10_catches_51 : decode cX10_catches 51 = .ok (.iconst 0, 1) := by decide +kernel
theorem dX10_catches_52 : decode cX10_catches 52 = .ok (.istore 4, 2) := by decide +kernel
theorem dX10_catches_54 : decode cX10_catches 54 = .ok (.iload 4, 2) := by decide +kernel
theorem dX10_catches_56 : decode cX10_catches 56 = .ok (.aload_n 0, 1) := by decide +kernel
theorem dX10_catches_57 : decode cX10_catches 57 = .ok (.getfield 7, 3) := by decide +kernel
theorem dX10_catches_60 : decode cX10_catches 60 = .ok (.iconst 0, 1) := by decide +kernel
theorem dX10_catches_61 : decode cX10_catches 61 = .ok (.iaload, 1) := by decide +kernel
theorem dX10_catches_62 : decode cX10_catches 62 = .ok (.if_icmp .ge 42, 3) := by decide +kernel
theorem dX10_catches_65 : decode cX10_catches 65 = .ok (.iload_n 2, 1) := by decide +kernel
theorem dX10_catches_66 : decode cX10_catches 66 = .ok (.iload 4, 2) := by decide +kernel
theorem dX10_catches_68 : decode cX10_catches 68 = .ok (.ishr, 1) := by decide +kernel
theorem dX10_catches_69 : decode cX10_catches 69 = .ok (.iconst 1, 1) := by decide +kernel
theorem dX10_catches_70 : decode cX10_catches 70 = .ok (.iand, 1) := by decide +kernel
theorem dX10_catches_71 : decode cX10_catches 71 = .ok (.iconst 1, 1) := by decide +kernel
theorem dX10_catches_72 : decode cX10_catches 72 = .ok (.if_icmp .ne 26, 3) := by decide +kernel
theorem dX10_catches_75 : decode cX10_catches 75 = .ok (.aload_n 0, 1) := by decide +kernel
theorem dX10_catches_76 : decode cX10_catches 76 = .ok (.iload 4, 2) := by decide +kernel
theorem dX10_catches_78 : decode cX10_catches 78 = .ok (.iconst 1, 1) := by decide +kernel
theorem dX10_catches_79 : decode cX10_catches 79 = .ok (.invokevirtual 73, 3) := by decide +kernel
theorem dX10_catches_82 : decode cX10_catches 82 = .ok (.aload_n 0, 1) := by decide +kernel
theorem dX10_catches_83 : decode cX10_catches 83 = .ok (.iload_n 1, 1) := by decide +kernel
theorem dX10_catches_84 : decode cX10_catches 84 = .ok (.iconst 2, 1) := by decide +kernel
theorem dX10_catches_85 : decode cX10_catches 85 = .ok (.invokevirtual 151, 3) := by decide +kernel
theorem dX10_catches_88 : decode cX10_catches 88 = .ok (.if_icmp .lt 10, 3) := by decide +kernel
theorem dX10_catches_91 : decode cX10_catches 91 = .ok (.iload_n 3, 1) := by decide +kernel
theorem dX10_catches_92 : decode cX10_catches 92 = .ok (.iconst 1, 1) := by decide +kernel
theorem dX10_catches_93 : decode cX10_catches 93 = .ok (.iload 4, 2) := by decide +kernel
theorem dX10_catches_95 : decode cX10_catches 95 = .ok (.ishl, 1) := by decide +kernel
theorem dX10_catches_96 : decode cX10_catches 96 = .ok (.ior, 1) := by decide +kernel
theorem dX10_catches_97 : decode cX10_catches 97 = .ok (.istore_n 3, 1) := by decide +kernel
theorem dX10_catches_98 : decode cX10_catches 98 = .ok (.iinc 4 1, 3) := by decide +kernel
theorem dX10_catches_101 : decode cX10_catches 101 = .ok (.goto (-47), 3) := by decide +kernel
theorem dX10_catches_104 : decode cX10_catches 104 = .ok (.iconst (-1), 1) := by decide +kernel
theorem dX10_catches_105 : decode cX10_catches 105 = .ok (.istore 4, 2) := by decide +kernel
theorem dX10_catches_107 : decode cX10_catches 107 = .ok (.iload_n 3, 1) := by decide +kernel
theorem dX10_catches_108 : decode cX10_catches 108 = .ok (.iload 4, 2) := by decide +kernel
theorem dX10_catches_110 : decode cX10_catches 110 = .ok (.if_icmp .eq 52, 3) := by decide +kernel
theorem dX10_catches_113 : decode cX10_catches 113 = .ok (.iload_n 3, 1) := by decide +kernel
theorem dX10_catches_114 : decode cX10_catches 114 = .ok (.istore 4, 2) := by decide +kernel
theorem dX10_catches_116 : decode cX10_catches 116 = .ok (.iconst 0, 1) := by decide +kernel
theorem dX10_catches_117 : decode cX10_catches 117 = .ok (.istore 5, 2) := by decide +kernel
theorem dX10_catches_119 : decode cX10_catches 119 = .ok (.iload 5, 2) := by decide +kernel
theorem dX10_catches_121 : decode cX10_catches 121 = .ok (.aload_n 0, 1) := by decide +kernel
theorem dX10_catches_122 : decode cX10_catches 122 = .ok (.getfield 7, 3) := by decide +kernel
theorem dX10_catches_125 : decode cX10_catches 125 = .ok (.iconst 0, 1) := by decide +kernel
theorem dX10_catches_126 : decode cX10_catches 126 = .ok (.iaload, 1) := by decide +kernel
theorem dX10_catches_127 : decode cX10_catches 127 = .ok (.if_icmp .ge 32, 3) := by decide +kernel
theorem dX10_catches_130 : decode cX10_catches 130 = .ok (.iload 4, 2) := by decide +kernel
theorem dX10_catches_132 : decode cX10_catches 132 = .ok (.iload 5, 2) := by decide +kernel
theorem dX10_catches_134 : decode cX10_catches 134 = .ok (.ishr, 1) := by decide +kernel
theorem dX10_catches_135 : decode cX10_catches 135 = .ok (.iconst 1, 1) := by decide +kernel
theorem dX10_catches_136 : decode cX10_catches 136 = .ok (.iand, 1) := by decide +kernel
theorem dX10_catches_137 : decode cX10_catches 137 = .ok (.iconst 1, 1) := by decide +kernel
theorem dX10_catches_138 : decode cX10_catches 138 = .ok (.if_icmp .ne 15, 3) := by decide +kernel
theorem dX10_catches_141 : decode cX10_catches 141 = .ok (.iload_n 3, 1) := by decide +kernel
theorem dX10_catches_142 : decode cX10_catches 142 = .ok (.aload_n 0, 1) := by decide +kernel
theorem dX10_catches_143 : decode cX10_catches 143 = .ok (.iload 5, 2) := by decide +kernel
theorem dX10_catches_145 : decode cX10_catches 145 = .ok (.iconst 3, 1) := by decide +kernel
theorem dX10_catches_146 : decode cX10_catches 146 = .ok (.invokevirtual 73, 3) := by decide +kernel
theorem dX10_catches_149 : decode cX10_catches 149 = .ok (.iload_n 2, 1) := by decide +kernel
theorem dX10_catches_150 : decode cX10_catches 150 = .ok (.iand, 1) := by decide +kernel
theorem dX10_catches_151 : decode cX10_catches 151 = .ok (.ior, 1) := by decide +kernel
theorem dX10_catches_152 : decode cX10_catches 152 = .ok (.istore_n 3, 1) := by decide +kernel
theorem dX10_catches_153 : decode cX10_catches 153 = .ok (.iinc 5 1, 3) := by decide +kernel
theorem dX10_catches_156 : decode cX10_catches 156 = .ok (.goto (-37), 3) := by decide +kernel
theorem dX10_catches_159 : decode cX10_catches 159 = .ok (.goto (-52), 3) := by decide +kernel
theorem dX10_catches_162 : decode cX10_catches 162 = .ok (.iload_n 3, 1) := by decide +kernel
theorem dX10_catches_163 : decode cX10_catches 163 = .ok (.ireturn, 1) := by decide +kernel
theorem dX10_haul_0 : decode cX10_haul 0 = .ok (.aload_n 0, 1) := by decide +kernel
theorem dX10_haul_1 : decode cX10_haul 1 = .ok (.aload_n 0, 1) := by decide +kernel
theorem dX10_haul_2 : decode cX10_haul 2 = .ok (.iload_n 1, 1) := by decide +kernel
theorem dX10_haul_3 : decode cX10_haul 3 = .ok (.invokevirtual 148, 3) := by decide +kernel
theorem dX10_haul_6 : decode cX10_haul 6 = .ok (.ifCond .eq 7, 3) := by decide +kernel
theorem dX10_haul_9 : decode cX10_haul 9 = .ok (.iconst 0, 1) := by decide +kernel
theorem dX10_haul_10 : decode cX10_haul 10 = .ok (.goto 4, 3) := by decide +kernel
theorem dX10_haul_13 : decode cX10_haul 13 = .ok (.iconst 1, 1) := by decide +kernel
theorem dX10_haul_14 : decode cX10_haul 14 = .ok (.invokevirtual 70, 3) := by decide +kernel
theorem dX10_haul_17 : decode cX10_haul 17 = .ok (.ifCond .eq 5, 3) := by decide +kernel
theorem dX10_haul_20 : decode cX10_haul 20 = .ok (.iconst 0, 1) := by decide +kernel
theorem dX10_haul_21 : decode cX10_haul 21 = .ok (.ireturn, 1) := by decide +kernel
theorem dX10_haul_22 : decode cX10_haul 22 = .ok (.aload_n 0, 1) := by decide +kernel
theorem dX10_haul_23 : decode cX10_haul 23 = .ok (.getfield 7, 3) := by decide +kernel
theorem dX10_haul_26 : decode cX10_haul 26 = .ok (.iconst 3, 1) := by decide +kernel
theorem dX10_haul_27 : decode cX10_haul 27 = .ok (.iaload, 1) := by decide +kernel
theorem dX10_haul_28 : decode cX10_haul 28 = .ok (.ifCond .ne 14, 3) := by decide +kernel
theorem dX10_haul_31 : decode cX10_haul 31 = .ok (.aload_n 0, 1) := by decide +kernel
theorem dX10_haul_32 : decode cX10_haul 32 = .ok (.iconst 2, 1) := by decide +kernel
theorem dX10_haul_33 : decode cX10_haul 33 = .ok (.iconst 2, 1) := by decide +kernel
theorem dX10_haul_34 : decode cX10_haul 34 = .ok (.aload_n 0, 1) := by decide +kernel
theorem dX10_haul_35 : decode cX10_haul 35 = .ok (.invokevirtual 136, 3) := by decide +kernel
theorem dX10_haul_38 : decode cX10_haul 38 = .ok (.invokevirtual 80, 3) := by decide +kernel
theorem dX10_haul_41 : decode cX10_haul 41 = .ok (.ireturn, 1) := by decide +kernel
theorem dX10_haul_42 : decode cX10_haul 42 = .ok (.aload_n 0, 1) := by decide +kernel
theorem dX10_haul_43 : decode cX10_haul 43 = .ok (.invokevirtual 136, 3) := by decide +kernel
theorem dX10_haul_46 : decode cX10_haul 46 = .ok (.ifCond .ne 27, 3) := by decide +kernel
theorem dX10_haul_49 : decode cX10_haul 49 = .ok (.aload_n 0, 1) := by decide +kernel
theorem dX10_haul_50 : decode cX10_haul 50 = .ok (.iload_n 1, 1) := by decide +kernel
theorem dX10_haul_51 : decode cX10_haul 51 = .ok (.iconst 2, 1) := by decide +kernel
theorem dX10_haul_52 : decode cX10_haul 52 = .ok (.invokevirtual 151, 3) := by decide +kernel
theorem dX10_haul_55 : decode cX10_haul 55 = .ok (.bipush 10, 2) := by decide +kernel
theorem dX10_haul_57 : decode cX10_haul 57 = .ok (.if_icmp .ge 16, 3) := by decide +kernel
theorem dX10_haul_60 : decode cX10_haul 60 = .ok (.aload_n 0, 1) := by decide +kernel
theorem dX10_haul_61 : decode cX10_haul 61 = .ok (.iconst 2, 1) := by decide +kernel
theorem dX10_haul_62 : decode cX10_haul 62 = .ok (.iconst 3, 1) := by decide +kernel
theorem dX10_haul_63 : decode cX10_haul 63 = .ok (.aload_n 0, 1) := by decide +kernel
theorem dX10_haul_64 : decode cX10_haul 64 = .ok (.iload_n 1, 1) := by decide +kernel
theorem dX10_haul_65 : decode cX10_haul 65 = .ok (.iconst 2, 1) := by decide +kernel
theorem dX10_haul_66 : decode cX10_haul 66 = .ok (.invokevirtual 151, 3) := by decide +kernel
theorem dX10_haul_69 : decode cX10_haul 69 = .ok (.invokevirtual 80, 3) := by decide +kernel
theorem dX10_haul_72 : decode cX10_haul 72 = .ok (.ireturn, 1) := by decide +kernel
theorem dX10_haul_73 : decode cX10_haul 73 = .ok (.aload_n 0, 1) := by decide +kernel
theorem dX10_haul_74 : decode cX10_haul 74 = .ok (.iload_n 1, 1) := by decide +kernel
theorem dX10_haul_75 : decode cX10_haul 75 = .ok (.invokevirtual 157, 3) := by decide +kernel
theorem dX10_haul_78 : decode cX10_haul 78 = .ok (.istore_n 2, 1) := by decide +kernel
theorem dX10_haul_79 : decode cX10_haul 79 = .ok (.aload_n 0, 1) := by decide +kernel
theorem dX10_haul_80 : decode cX10_haul 80 = .ok (.aload_n 0, 1) := by decide +kernel
theorem dX10_haul_81 : decode cX10_haul 81 = .ok (.getfield 7, 3) := by decide +kernel
theorem dX10_haul_84 : decode cX10_haul 84 = .ok (.invokevirtual 84, 3) := by decide +kernel
theorem dX10_haul_87 : decode cX10_haul 87 = .ok (.iconst 0, 1) := by decide +kernel
theorem dX10_haul_88 : decode cX10_haul 88 = .ok (.istore_n 3, 1) := by decide +kernel
theorem dX10_haul_89 : decode cX10_haul 89 = .ok (.iload_n 3, 1) := by decide +kernel
theorem dX10_haul_90 : decode cX10_haul 90 = .ok (.aload_n 0, 1) := by decide +kernel
theorem dX10_haul_91 : decode cX10_haul 91 = .ok (.getfield 7, 3) := by decide +kernel
theorem dX10_haul_94 : decode cX10_haul 94 = .ok (.iconst 0, 1) := by decide +kernel
theorem dX10_haul_95 : decode cX10_haul 95 = .ok (.iaload, 1) := by decide +kernel
theorem dX10_haul_96 : decode cX10_haul 96 = .ok (.if_icmp .ge 25, 3) := by decide +kernel
theorem dX10_haul_99 : decode cX10_haul 99 = .ok (.iload_n 2, 1) := by decide +kernel
theorem dX10_haul_100 : decode cX10_haul 100 = .ok (.iload_n 3, 1) := by decide +kernel
theorem dX10_haul_101 : decode cX10_haul 101 = .ok (.ishr, 1) := by decide +kernel
theorem dX10_haul_102 : decode cX10_haul 102 = .ok (.iconst 1, 1) := by decide +kernel
theorem dX10_haul_103 : decode cX10_haul 103 = .ok (.iand, 1) := by decide +kernel
theorem dX10_haul_104 : decode cX10_haul 104 = .ok (.iconst 1, 1) := by decide +kernel
theorem dX10_haul_105 : decode cX10_haul 105 = .ok (.if_icmp .ne 10, 3) := by decide +kernel
theorem dX10_haul_108 : decode cX10_haul 108 = .ok (.aload_n 0, 1) := by decide +kernel
theorem dX10_haul_109 : decode cX10_haul 109 = .ok (.iload_n 3, 1) := by decide +kernel
theorem dX10_haul_110 : decode cX10_haul 110 = .ok (.iconst 2, 1) := by decide +kernel
theorem dX10_haul_111 : decode cX10_haul 111 = .ok (.iconst 1, 1) := by decide +kernel
theorem dX10_haul_112 : decode cX10_haul 112 = .ok (.invokevirtual 88, 3) := by decide +kernel
theorem dX10_haul_115 : decode cX10_haul 115 = .ok (.iinc 3 1, 3) := by decide +kernel
theorem dX10_haul_118 : decode cX10_haul 118 = .ok (.goto (-29), 3) := by decide +kernel
theorem dX10_haul_121 : decode cX10_haul 121 = .ok (.aload_n 0, 1) := by decide +kernel
theorem dX10_haul_122 : decode cX10_haul 122 = .ok (.getfield 7, 3) := by decide +kernel
theorem dX10_haul_125 : decode cX10_haul 125 = .ok (.iconst 5, 1) := by decide +kernel
theorem dX10_haul_126 : decode cX10_haul 126 = .ok (.dup2, 1) := by decide +kernel
theorem dX10_haul_127 : decode cX10_haul 127 = .ok (.iaload, 1) := by decide +kernel
theorem dX10_haul_128 : decode cX10_haul 128 = .ok (.iload_n 2, 1) := by decide +kernel
theorem dX10_haul_129 : decode cX10_haul 129 = .ok (.invokestatic 99, 3) := by decide +kernel
theorem dX10_haul_132 : decode cX10_haul 132 = .ok (.iadd, 1) := by decide +kernel
theorem dX10_haul_133 : decode cX10_haul 133 = .ok (.iastore, 1) := by decide +kernel
theorem dX10_haul_134 : decode cX10_haul 134 = .ok (.iload_n 2, 1) := by decide +kernel
theorem dX10_haul_135 : decode cX10_haul 135 = .ok (.invokestatic 99, 3) := by decide +kernel
theorem dX10_haul_138 : decode cX10_haul 138 = .ok (.ireturn, 1) := by decide +kernel
theorem dX10_netCount_0 : decode cX10_netCount 0 = .ok (.aload_n 0, 1) := by decide +kernel
theorem dX10_netCount_1 : decode cX10_netCount 1 = .ok (.iconst 0, 1) := by decide +kernel
theorem dX10_netCount_2 : decode cX10_netCount 2 = .ok (.putfield 36, 3) := by decide +kernel
theorem dX10_netCount_5 : decode cX10_netCount 5 = .ok (.aload_n 0, 1) := by decide +kernel
theorem dX10_netCount_6 : decode cX10_netCount 6 = .ok (.getfield 7, 3) := by decide +kernel
theorem dX10_netCount_9 : decode cX10_netCount 9 = .ok (.iconst 1, 1) := by decide +kernel
theorem dX10_netCount_10 : decode cX10_netCount 10 = .ok (.iaload, 1) := by decide +kernel
theorem dX10_netCount_11 : decode cX10_netCount 11 = .ok (.ireturn, 1) := by decide +kernel
theorem dX10_covers_0 : decode cX10_covers 0 = .ok (.aload_n 0, 1) := by decide +kernel
theorem dX10_covers_1 : decode cX10_covers 1 = .ok (.aload_n 0, 1) := by decide +kernel
theorem dX10_covers_2 : decode cX10_covers 2 = .ok (.iload_n 1, 1) := by decide +kernel
theorem dX10_covers_3 : decode cX10_covers 3 = .ok (.invokevirtual 148, 3) := by decide +kernel
theorem dX10_covers_6 : decode cX10_covers 6 = .ok (.ifCond .ne 7, 3) := by decide +kernel
theorem dX10_covers_9 : decode cX10_covers 9 = .ok (.iconst 1, 1) := by decide +kernel
theorem dX10_covers_10 : decode cX10_covers 10 = .ok (.goto 15, 3) := by decide +kernel
theorem dX10_covers_13 : decode cX10_covers 13 = .ok (.iload_n 2, 1) := by decide +kernel
theorem dX10_covers_14 : decode cX10_covers 14 = .ok (.invokestatic 77, 3) := by decide +kernel
theorem dX10_covers_17 : decode cX10_covers 17 = .ok (.ifCond .eq 7, 3) := by decide +kernel
theorem dX10_covers_20 : decode cX10_covers 20 = .ok (.iconst 0, 1) := by decide +kernel
theorem dX10_covers_21 : decode cX10_covers 21 = .ok (.goto 4, 3) := by decide +kernel
theorem dX10_covers_24 : decode cX10_covers 24 = .ok (.iconst 2, 1) := by decide +kernel
theorem dX10_covers_25 : decode cX10_covers 25 = .ok (.invokevirtual 70, 3) := by decide +kernel
theorem dX10_covers_28 : decode cX10_covers 28 = .ok (.ifCond .ne 16, 3) := by decide +kernel
theorem dX10_covers_31 : decode cX10_covers 31 = .ok (.aload_n 0, 1) := by decide +kernel
theorem dX10_covers_32 : decode cX10_covers 32 = .ok (.iload_n 1, 1) := by decide +kernel
theorem dX10_covers_33 : decode cX10_covers 33 = .ok (.iload_n 2, 1) := by decide +kernel
theorem dX10_covers_34 : decode cX10_covers 34 = .ok (.invokevirtual 154, 3) := by decide +kernel
theorem dX10_covers_37 : decode cX10_covers 37 = .ok (.ifCond .eq 7, 3) := by decide +kernel
theorem dX10_covers_40 : decode cX10_covers 40 = .ok (.iconst 1, 1) := by decide +kernel
theorem dX10_covers_41 : decode cX10_covers 41 = .ok (.goto 4, 3) := by decide +kernel
theorem dX10_covers_44 : decode cX10_covers 44 = .ok (.iconst 0, 1) := by decide +kernel
theorem dX10_covers_45 : decode cX10_covers 45 = .ok (.ireturn, 1) := by decide +kernel
theorem dX10_catchSize_0 : decode cX10_catchSize 0 = .ok (.aload_n 0, 1) := by decide +kernel
theorem dX10_catchSize_1 : decode cX10_catchSize 1 = .ok (.aload_n 0, 1) := by decide +kernel
theorem dX10_catchSize_2 : decode cX10_catchSize 2 = .ok (.iload_n 1, 1) := by decide +kernel
theorem dX10_catchSize_3 : decode cX10_catchSize 3 = .ok (.invokevirtual 148, 3) := by decide +kernel
theorem dX10_catchSize_6 : decode cX10_catchSize 6 = .ok (.ifCond .eq 7, 3) := by decide +kernel
theorem dX10_catchSize_9 : decode cX10_catchSize 9 = .ok (.iconst 0, 1) := by decide +kernel
theorem dX10_catchSize_10 : decode cX10_catchSize 10 = .ok (.goto 4, 3) := by decide +kernel
theorem dX10_catchSize_13 : decode cX10_catchSize 13 = .ok (.iconst 1, 1) := by decide +kernel
theorem dX10_catchSize_14 : decode cX10_catchSize 14 = .ok (.invokevirtual 70, 3) := by decide +kernel
theorem dX10_catchSize_17 : decode cX10_catchSize 17 = .ok (.ifCond .eq 7, 3) := by decide +kernel
theorem dX10_catchSize_20 : decode cX10_catchSize 20 = .ok (.iconst 0, 1) := by decide +kernel
theorem dX10_catchSize_21 : decode cX10_catchSize 21 = .ok (.goto 11, 3) := by decide +kernel
theorem dX10_catchSize_24 : decode cX10_catchSize 24 = .ok (.aload_n 0, 1) := by decide +kernel
theorem dX10_catchSize_25 : decode cX10_catchSize 25 = .ok (.iload_n 1, 1) := by decide +kernel
theorem dX10_catchSize_26 : decode cX10_catchSize 26 = .ok (.invokevirtual 157, 3) := by decide +kernel
theorem dX10_catchSize_29 : decode cX10_catchSize 29 = .ok (.invokestatic 99, 3) := by decide +kernel
theorem dX10_catchSize_32 : decode cX10_catchSize 32 = .ok (.ireturn, 1) := by decide +kernel
theorem dX10_heavy_0 : decode cX10_heavy 0 = .ok (.iconst 0, 1) := by decide +kernel
theorem dX10_heavy_1 : decode cX10_heavy 1 = .ok (.istore_n 2, 1) := by decide +kernel
theorem dX10_heavy_2 : decode cX10_heavy 2 = .ok (.iconst 0, 1) := by decide +kernel
theorem dX10_heavy_3 : decode cX10_heavy 3 = .ok (.istore_n 3, 1) := by decide +kernel
theorem dX10_heavy_4 : decode cX10_heavy 4 = .ok (.iload_n 3, 1) := by decide +kernel
theorem dX10_heavy_5 : decode cX10_heavy 5 = .ok (.aload_n 0, 1) := by decide +kernel
theorem dX10_heavy_6 : decode cX10_heavy 6 = .ok (.getfield 7, 3) := by decide +kernel
theorem dX10_heavy_9 : decode cX10_heavy 9 = .ok (.iconst 0, 1) := by decide +kernel
theorem dX10_heavy_10 : decode cX10_heavy 10 = .ok (.iaload, 1) := by decide +kernel
theorem dX10_heavy_11 : decode cX10_heavy 11 = .ok (.if_icmp .ge 24, 3) := by decide +kernel
theorem dX10_heavy_14 : decode cX10_heavy 14 = .ok (.iload_n 2, 1) := by decide +kernel
theorem dX10_heavy_15 : decode cX10_heavy 15 = .ok (.iload_n 1, 1) := by decide +kernel
theorem dX10_heavy_16 : decode cX10_heavy 16 = .ok (.iload_n 3, 1) := by decide +kernel
theorem dX10_heavy_17 : decode cX10_heavy 17 = .ok (.ishr, 1) := by decide +kernel
theorem dX10_heavy_18 : decode cX10_heavy 18 = .ok (.iconst 1, 1) := by decide +kernel
theorem dX10_heavy_19 : decode cX10_heavy 19 = .ok (.iand, 1) := by decide +kernel
theorem dX10_heavy_20 : decode cX10_heavy 20 = .ok (.aload_n 0, 1) := by decide +kernel
theorem dX10_heavy_21 : decode cX10_heavy 21 = .ok (.iload_n 3, 1) := by decide +kernel
theorem dX10_heavy_22 : decode cX10_heavy 22 = .ok (.iconst 1, 1) := by decide +kernel
theorem dX10_heavy_23 : decode cX10_heavy 23 = .ok (.invokevirtual 73, 3) := by decide +kernel
theorem dX10_heavy_26 : decode cX10_heavy 26 = .ok (.imul, 1) := by decide +kernel
theorem dX10_heavy_27 : decode cX10_heavy 27 = .ok (.iadd, 1) := by decide +kernel
theorem dX10_heavy_28 : decode cX10_heavy 28 = .ok (.istore_n 2, 1) := by decide +kernel
theorem dX10_heavy_29 : decode cX10_heavy 29 = .ok (.iinc 3 1, 3) := by decide +kernel
theorem dX10_heavy_32 : decode cX10_heavy 32 = .ok (.goto (-28), 3) := by decide +kernel
theorem dX10_heavy_35 : decode cX10_heavy 35 = .ok (.iload_n 2, 1) := by decide +kernel
theorem dX10_heavy_36 : decode cX10_heavy 36 = .ok (.ireturn, 1) := by decide +kernel
theorem dX10_bestNet_0 : decode cX10_bestNet 0 = .ok (.iconst (-1), 1) := by decide +kernel
theorem dX10_bestNet_1 : decode cX10_bestNet 1 = .ok (.istore_n 1, 1) := by decide +kernel
theorem dX10_bestNet_2 : decode cX10_bestNet 2 = .ok (.iconst 0, 1) := by decide +kernel
theorem dX10_bestNet_3 : decode cX10_bestNet 3 = .ok (.istore_n 2, 1) := by decide +kernel
theorem dX10_bestNet_4 : decode cX10_bestNet 4 = .ok (.iload_n 2, 1) := by decide +kernel
theorem dX10_bestNet_5 : decode cX10_bestNet 5 = .ok (.aload_n 0, 1) := by decide +kernel
theorem dX10_bestNet_6 : decode cX10_bestNet 6 = .ok (.getfield 7, 3) := by decide +kernel
theorem dX10_bestNet_9 : decode cX10_bestNet 9 = .ok (.iconst 1, 1) := by decide +kernel
theorem dX10_bestNet_10 : decode cX10_bestNet 10 = .ok (.iaload, 1) := by decide +kernel
theorem dX10_bestNet_11 : decode cX10_bestNet 11 = .ok (.if_icmp .ge 44, 3) := by decide +kernel
theorem dX10_bestNet_14 : decode cX10_bestNet 14 = .ok (.aload_n 0, 1) := by decide +kernel
theorem dX10_bestNet_15 : decode cX10_bestNet 15 = .ok (.iload_n 2, 1) := by decide +kernel
theorem dX10_bestNet_16 : decode cX10_bestNet 16 = .ok (.invokevirtual 157, 3) := by decide +kernel
theorem dX10_bestNet_19 : decode cX10_bestNet 19 = .ok (.ifCond .eq 30, 3) := by decide +kernel
theorem dX10_bestNet_22 : decode cX10_bestNet 22 = .ok (.iload_n 1, 1) := by decide +kernel
theorem dX10_bestNet_23 : decode cX10_bestNet 23 = .ok (.ifCond .lt 24, 3) := by decide +kernel
theorem dX10_bestNet_26 : decode cX10_bestNet 26 = .ok (.aload_n 0, 1) := by decide +kernel
theorem dX10_bestNet_27 : decode cX10_bestNet 27 = .ok (.aload_n 0, 1) := by decide +kernel
theorem dX10_bestNet_28 : decode cX10_bestNet 28 = .ok (.iload_n 2, 1) := by decide +kernel
theorem dX10_bestNet_29 : decode cX10_bestNet 29 = .ok (.invokevirtual 157, 3) := by decide +kernel
theorem dX10_bestNet_32 : decode cX10_bestNet 32 = .ok (.invokevirtual 160, 3) := by decide +kernel
theorem dX10_bestNet_35 : decode cX10_bestNet 35 = .ok (.aload_n 0, 1) := by decide +kernel
theorem dX10_bestNet_36 : decode cX10_bestNet 36 = .ok (.aload_n 0, 1) := by decide +kernel
theorem dX10_bestNet_37 : decode cX10_bestNet 37 = .ok (.iload_n 1, 1) := by decide +kernel
theorem dX10_bestNet_38 : decode cX10_bestNet 38 = .ok (.invokevirtual 157, 3) := by decide +kernel
theorem dX10_bestNet_41 : decode cX10_bestNet 41 = .ok (.invokevirtual 160, 3) := by decide +kernel
theorem dX10_bestNet_44 : decode cX10_bestNet 44 = .ok (.if_icmp .le 5, 3) := by decide +kernel
theorem dX10_bestNet_47 : decode cX10_bestNet 47 = .ok (.iload_n 2, 1) := by decide +kernel
theorem dX10_bestNet_48 : decode cX10_bestNet 48 = .ok (.istore_n 1, 1) := by decide +kernel
theorem dX10_bestNet_49 : decode cX10_bestNet 49 = .ok (.iinc 2 1, 3) := by decide +kernel
theorem dX10_bestNet_52 : decode cX10_bestNet 52 = .ok (.goto (-48), 3) := by decide +kernel
theorem dX10_bestNet_55 : decode cX10_bestNet 55 = .ok (.aload_n 0, 1) := by decide +kernel
theorem dX10_bestNet_56 : decode cX10_bestNet 56 = .ok (.iload_n 1, 1) := by decide +kernel
theorem dX10_bestNet_57 : decode cX10_bestNet 57 = .ok (.ifCond .ge 7, 3) := by decide +kernel
theorem dX10_bestNet_60 : decode cX10_bestNet 60 = .ok (.iconst 1, 1) := by decide +kernel
theorem dX10_bestNet_61 : decode cX10_bestNet 61 = .ok (.goto 4, 3) := by decide +kernel
theorem dX10_bestNet_64 : decode cX10_bestNet 64 = .ok (.iconst 0, 1) := by decide +kernel
theorem dX10_bestNet_65 : decode cX10_bestNet 65 = .ok (.invokevirtual 70, 3) := by decide +kernel
theorem dX10_bestNet_68 : decode cX10_bestNet 68 = .ok (.ifCond .eq 7, 3) := by decide +kernel
theorem dX10_bestNet_71 : decode cX10_bestNet 71 = .ok (.iconst 0, 1) := by decide +kernel
theorem dX10_bestNet_72 : decode cX10_bestNet 72 = .ok (.goto 4, 3) := by decide +kernel
theorem dX10_bestNet_75 : decode cX10_bestNet 75 = .ok (.iload_n 1, 1) := by decide +kernel
theorem dX10_bestNet_76 : decode cX10_bestNet 76 = .ok (.ireturn, 1) := by decide +kernel
theorem dX10_choose_0 : decode cX10_choose 0 = .ok (.aload_n 0, 1) := by decide +kernel
theorem dX10_choose_1 : decode cX10_choose 1 = .ok (.iload_n 1, 1) := by decide +kernel
theorem dX10_choose_2 : decode cX10_choose 2 = .ok (.aload_n 0, 1) := by decide +kernel
theorem dX10_choose_3 : decode cX10_choose 3 = .ok (.iconst 1, 1) := by decide +kernel
theorem dX10_choose_4 : decode cX10_choose 4 = .ok (.invokevirtual 142, 3) := by decide +kernel
theorem dX10_choose_7 : decode cX10_choose 7 = .ok (.invokevirtual 145, 3) := by decide +kernel
theorem dX10_choose_10 : decode cX10_choose 10 = .ok (.istore_n 2, 1) := by decide +kernel
theorem dX10_choose_11 : decode cX10_choose 11 = .ok (.iconst 0, 1) := by decide +kernel
theorem dX10_choose_12 : decode cX10_choose 12 = .ok (.istore_n 3, 1) := by decide +kernel
theorem dX10_choose_13 : decode cX10_choose 13 = .ok (.iload_n 2, 1) := by decide +kernel
theorem dX10_choose_14 : decode cX10_choose 14 = .ok (.istore 4, 2) := by decide +kernel
theorem dX10_choose_16 : decode cX10_choose 16 = .ok (.iload 4, 2) := by decide +kernel
theorem dX10_choose_18 : decode cX10_choose 18 = .ok (.ifCond .le 76, 3) := by decide +kernel
theorem dX10_choose_21 : decode cX10_choose 21 = .ok (.aload_n 0, 1) := by decide +kernel
theorem dX10_choose_22 : decode cX10_choose 22 = .ok (.iload 4, 2) := by decide +kernel
theorem dX10_choose_24 : decode cX10_choose 24 = .ok (.invokevirtual 160, 3) := by decide +kernel
theorem dX10_choose_27 : decode cX10_choose 27 = .ok (.istore 5, 2) := by decide +kernel
theorem dX10_choose_29 : decode cX10_choose 29 = .ok (.iload 5, 2) := by decide +kernel
theorem dX10_choose_31 : decode cX10_choose 31 = .ok (.aload_n 0, 1) := by decide +kernel
theorem dX10_choose_32 : decode cX10_choose 32 = .ok (.iload_n 1, 1) := by decide +kernel
theorem dX10_choose_33 : decode cX10_choose 33 = .ok (.invokevirtual 139, 3) := by decide +kernel
theorem dX10_choose_36 : decode cX10_choose 36 = .ok (.if_icmp .gt 47, 3) := by decide +kernel
theorem dX10_choose_39 : decode cX10_choose 39 = .ok (.iload 5, 2) := by decide +kernel
theorem dX10_choose_41 : decode cX10_choose 41 = .ok (.aload_n 0, 1) := by decide +kernel
theorem dX10_choose_42 : decode cX10_choose 42 = .ok (.iload_n 3, 1) := by decide +kernel
theorem dX10_choose_43 : decode cX10_choose 43 = .ok (.invokevirtual 160, 3) := by decide +kernel
theorem dX10_choose_46 : decode cX10_choose 46 = .ok (.if_icmp .ge 6, 3) := by decide +kernel
theorem dX10_choose_49 : decode cX10_choose 49 = .ok (.goto 34, 3) := by decide +kernel
theorem dX10_choose_52 : decode cX10_choose 52 = .ok (.iload 4, 2) := by decide +kernel
theorem dX10_choose_54 : decode cX10_choose 54 = .ok (.iload_n 3, 1) := by decide +kernel
theorem dX10_choose_55 : decode cX10_choose 55 = .ok (.ixor, 1) := by decide +kernel
theorem dX10_choose_56 : decode cX10_choose 56 = .ok (.istore 6, 2) := by decide +kernel
theorem dX10_choose_58 : decode cX10_choose 58 = .ok (.iload 5, 2) := by decide +kernel
theorem dX10_choose_60 : decode cX10_choose 60 = .ok (.aload_n 0, 1) := by decide +kernel
theorem dX10_choose_61 : decode cX10_choose 61 = .ok (.iload_n 3, 1) := by decide +kernel
theorem dX10_choose_62 : decode cX10_choose 62 = .ok (.invokevirtual 160, 3) := by decide +kernel
theorem dX10_choose_65 : decode cX10_choose 65 = .ok (.if_icmp .gt 15, 3) := by decide +kernel
theorem dX10_choose_68 : decode cX10_choose 68 = .ok (.iload 4, 2) := by decide +kernel
theorem dX10_choose_70 : decode cX10_choose 70 = .ok (.iload 6, 2) := by decide +kernel
theorem dX10_choose_72 : decode cX10_choose 72 = .ok (.iand, 1) := by decide +kernel
theorem dX10_choose_73 : decode cX10_choose 73 = .ok (.iload 6, 2) := by decide +kernel
theorem dX10_choose_75 : decode cX10_choose 75 = .ok (.ineg, 1) := by decide +kernel
theorem dX10_choose_76 : decode cX10_choose 76 = .ok (.iand, 1) := by decide +kernel
theorem dX10_choose_77 : decode cX10_choose 77 = .ok (.ifCond .eq 6, 3) := by decide +kernel
theorem dX10_choose_80 : decode cX10_choose 80 = .ok (.iload 4, 2) := by decide +kernel
theorem dX10_choose_82 : decode cX10_choose 82 = .ok (.istore_n 3, 1) := by decide +kernel
theorem dX10_choose_83 : decode cX10_choose 83 = .ok (.iload 4, 2) := by decide +kernel
theorem dX10_choose_85 : decode cX10_choose 85 = .ok (.iconst 1, 1) := by decide +kernel
theorem dX10_choose_86 : decode cX10_choose 86 = .ok (.isub, 1) := by decide +kernel
theorem dX10_choose_87 : decode cX10_choose 87 = .ok (.iload_n 2, 1) := by decide +kernel
theorem dX10_choose_88 : decode cX10_choose 88 = .ok (.iand, 1) := by decide +kernel
theorem dX10_choose_89 : decode cX10_choose 89 = .ok (.istore 4, 2) := by decide +kernel
theorem dX10_choose_91 : decode cX10_choose 91 = .ok (.goto (-75), 3) := by decide +kernel
theorem dX10_choose_94 : decode cX10_choose 94 = .ok (.iload_n 3, 1) := by decide +kernel
theorem dX10_choose_95 : decode cX10_choose 95 = .ok (.ireturn, 1) := by decide +kernel
theorem dX10_landing_0 : decode cX10_landing 0 = .ok (.iconst 0, 1) := by decide +kernel
theorem dX10_landing_1 : decode cX10_landing 1 = .ok (.istore_n 1, 1) := by decide +kernel
theorem dX10_landing_2 : decode cX10_landing 2 = .ok (.iconst 0, 1) := by decide +kernel
theorem dX10_landing_3 : decode cX10_landing 3 = .ok (.istore_n 2, 1) := by decide +kernel
theorem dX10_landing_4 : decode cX10_landing 4 = .ok (.iload_n 2, 1) := by decide +kernel
theorem dX10_landing_5 : decode cX10_landing 5 = .ok (.bipush 12, 2) := by decide +kernel
theorem dX10_landing_7 : decode cX10_landing 7 = .ok (.if_icmp .ge 17, 3) := by decide +kernel
theorem dX10_landing_10 : decode cX10_landing 10 = .ok (.iload_n 1, 1) := by decide +kernel
theorem dX10_landing_11 : decode cX10_landing 11 = .ok (.aload_n 0, 1) := by decide +kernel
theorem dX10_landing_12 : decode cX10_landing 12 = .ok (.iload_n 2, 1) := by decide +kernel
theorem dX10_landing_13 : decode cX10_landing 13 = .ok (.invokevirtual 163, 3) := by decide +kernel
theorem dX10_landing_16 : decode cX10_landing 16 = .ok (.ior, 1) := by decide +kernel
theorem dX10_landing_17 : decode cX10_landing 17 = .ok (.istore_n 1, 1) := by decide +kernel
theorem dX10_landing_18 : decode cX10_landing 18 = .ok (.iinc 2 1, 3) := by decide +kernel
theorem dX10_landing_21 : decode cX10_landing 21 = .ok (.goto (-17), 3) := by decide +kernel
theorem dX10_landing_24 : decode cX10_landing 24 = .ok (.iload_n 1, 1) := by decide +kernel
theorem dX10_landing_25 : decode cX10_landing 25 = .ok (.ireturn, 1) := by decide +kernel
theorem dX10_land_0 : decode cX10_land 0 = .ok (.aload_n 0, 1) := by decide +kernel
theorem dX10_land_1 : decode cX10_land 1 = .ok (.iconst 1, 1) := by decide +kernel
theorem dX10_land_2 : decode cX10_land 2 = .ok (.invokevirtual 142, 3) := by decide +kernel
theorem dX10_land_5 : decode cX10_land 5 = .ok (.istore_n 1, 1) := by decide +kernel
theorem dX10_land_6 : decode cX10_land 6 = .ok (.iload_n 1, 1) := by decide +kernel
theorem dX10_land_7 : decode cX10_land 7 = .ok (.ifCond .ne 19, 3) := by decide +kernel
theorem dX10_land_10 : decode cX10_land 10 = .ok (.aload_n 0, 1) := by decide +kernel
theorem dX10_land_11 : decode cX10_land 11 = .ok (.iconst 1, 1) := by decide +kernel
theorem dX10_land_12 : decode cX10_land 12 = .ok (.bipush 7, 2) := by decide +kernel
theorem dX10_land_14 : decode cX10_land 14 = .ok (.aload_n 0, 1) := by decide +kernel
theorem dX10_land_15 : decode cX10_land 15 = .ok (.iconst 0, 1) := by decide +kernel
theorem dX10_land_16 : decode cX10_land 16 = .ok (.invokevirtual 142, 3) := by decide +kernel
theorem dX10_land_19 : decode cX10_land 19 = .ok (.invokestatic 99, 3) := by decide +kernel
theorem dX10_land_22 : decode cX10_land 22 = .ok (.invokevirtual 80, 3) := by decide +kernel
theorem dX10_land_25 : decode cX10_land 25 = .ok (.ireturn, 1) := by decide +kernel
theorem dX10_land_26 : decode cX10_land 26 = .ok (.aload_n 0, 1) := by decide +kernel
theorem dX10_land_27 : decode cX10_land 27 = .ok (.invokevirtual 166, 3) := by decide +kernel
theorem dX10_land_30 : decode cX10_land 30 = .ok (.istore_n 2, 1) := by decide +kernel
theorem dX10_land_31 : decode cX10_land 31 = .ok (.aload_n 0, 1) := by decide +kernel
theorem dX10_land_32 : decode cX10_land 32 = .ok (.aload_n 0, 1) := by decide +kernel
theorem dX10_land_33 : decode cX10_land 33 = .ok (.getfield 7, 3) := by decide +kernel
theorem dX10_land_36 : decode cX10_land 36 = .ok (.invokevirtual 84, 3) := by decide +kernel
theorem dX10_land_39 : decode cX10_land 39 = .ok (.iconst 0, 1) := by decide +kernel
theorem dX10_land_40 : decode cX10_land 40 = .ok (.istore_n 3, 1) := by decide +kernel
theorem dX10_land_41 : decode cX10_land 41 = .ok (.iload_n 3, 1) := by decide +kernel
theorem dX10_land_42 : decode cX10_land 42 = .ok (.aload_n 0, 1) := by decide +kernel
theorem dX10_land_43 : decode cX10_land 43 = .ok (.getfield 7, 3) := by decide +kernel
theorem dX10_land_46 : decode cX10_land 46 = .ok (.iconst 0, 1) := by decide +kernel
theorem dX10_land_47 : decode cX10_land 47 = .ok (.iaload, 1) := by decide +kernel
theorem dX10_land_48 : decode cX10_land 48 = .ok (.if_icmp .ge 80, 3) := by decide +kernel
theorem dX10_land_51 : decode cX10_land 51 = .ok (.iload_n 1, 1) := by decide +kernel
theorem dX10_land_52 : decode cX10_land 52 = .ok (.iload_n 3, 1) := by decide +kernel
theorem dX10_land_53 : decode cX10_land 53 = .ok (.ishr, 1) := by decide +kernel
theorem dX10_land_54 : decode cX10_land 54 = .ok (.iconst 1, 1) := by decide +kernel
theorem dX10_land_55 : decode cX10_land 55 = .ok (.iand, 1) := by decide +kernel
theorem dX10_land_56 : decode cX10_land 56 = .ok (.ifCond .ne 6, 3) := by decide +kernel
theorem dX10_land_59 : decode cX10_land 59 = .ok (.goto 63, 3) := by decide +kernel
theorem dX10_land_62 : decode cX10_land 62 = .ok (.iload_n 2, 1) := by decide +kernel
theorem dX10_land_63 : decode cX10_land 63 = .ok (.iload_n 3, 1) := by decide +kernel
theorem dX10_land_64 : decode cX10_land 64 = .ok (.ishr, 1) := by decide +kernel
theorem dX10_land_65 : decode cX10_land 65 = .ok (.iconst 1, 1) := by decide +kernel
theorem dX10_land_66 : decode cX10_land 66 = .ok (.iand, 1) := by decide +kernel
theorem dX10_land_67 : decode cX10_land 67 = .ok (.iconst 1, 1) := by decide +kernel
theorem dX10_land_68 : decode cX10_land 68 = .ok (.if_icmp .ne 7, 3) := by decide +kernel
theorem dX10_land_71 : decode cX10_land 71 = .ok (.iconst 1, 1) := by decide +kernel
theorem dX10_land_72 : decode cX10_land 72 = .ok (.goto 4, 3) := by decide +kernel
theorem dX10_land_75 : decode cX10_land 75 = .ok (.iconst 0, 1) := by decide +kernel
theorem dX10_land_76 : decode cX10_land 76 = .ok (.istore 4, 2) := by decide +kernel
theorem dX10_land_78 : decode cX10_land 78 = .ok (.aload_n 0, 1) := by decide +kernel
theorem dX10_land_79 : decode cX10_land 79 = .ok (.iload_n 3, 1) := by decide +kernel
theorem dX10_land_80 : decode cX10_land 80 = .ok (.iconst 2, 1) := by decide +kernel
theorem dX10_land_81 : decode cX10_land 81 = .ok (.iload 4, 2) := by decide +kernel
theorem dX10_land_83 : decode cX10_land 83 = .ok (.ifCond .eq 7, 3) := by decide +kernel
theorem dX10_land_86 : decode cX10_land 86 = .ok (.iconst 2, 1) := by decide +kernel
theorem dX10_land_87 : decode cX10_land 87 = .ok (.goto 4, 3) := by decide +kernel
theorem dX10_land_90 : decode cX10_land 90 = .ok (.iconst 0, 1) := by decide +kernel
theorem dX10_land_91 : decode cX10_land 91 = .ok (.invokevirtual 88, 3) := by decide +kernel
theorem dX10_land_94 : decode cX10_land 94 = .ok (.iload 4, 2) := by decide +kernel
theorem dX10_land_96 : decode cX10_land 96 = .ok (.ifCond .eq 26, 3) := by decide +kernel
theorem dX10_land_99 : decode cX10_land 99 = .ok (.aload_n 0, 1) := by decide +kernel
theorem dX10_land_100 : decode cX10_land 100 = .ok (.getfield 7, 3) := by decide +kernel
theorem dX10_land_103 : decode cX10_land 103 = .ok (.bipush 32, 2) := by decide +kernel
theorem dX10_land_105 : decode cX10_land 105 = .ok (.aload_n 0, 1) := by decide +kernel
theorem dX10_land_106 : decode cX10_land 106 = .ok (.iload_n 3, 1) := by decide +kernel
theorem dX10_land_107 : decode cX10_land 107 = .ok (.iconst 0, 1) := by decide +kernel
theorem dX10_land_108 : decode cX10_land 108 = .ok (.invokevirtual 73, 3) := by decide +kernel
theorem dX10_land_111 : decode cX10_land 111 = .ok (.iadd, 1) := by decide +kernel
theorem dX10_land_112 : decode cX10_land 112 = .ok (.dup2, 1) := by decide +kernel
theorem dX10_land_113 : decode cX10_land 113 = .ok (.iaload, 1) := by decide +kernel
theorem dX10_land_114 : decode cX10_land 114 = .ok (.aload_n 0, 1) := by decide +kernel
theorem dX10_land_115 : decode cX10_land 115 = .ok (.iload_n 3, 1) := by decide +kernel
theorem dX10_land_116 : decode cX10_land 116 = .ok (.iconst 1, 1) := by decide +kernel
theorem dX10_land_117 : decode cX10_land 117 = .ok (.invokevirtual 73, 3) := by decide +kernel
theorem dX10_land_120 : decode cX10_land 120 = .ok (.iadd, 1) := by decide +kernel
theorem dX10_land_121 : decode cX10_land 121 = .ok (.iastore, 1) := by decide +kernel
theorem dX10_land_122 : decode cX10_land 122 = .ok (.iinc 3 1, 3) := by decide +kernel
theorem dX10_land_125 : decode cX10_land 125 = .ok (.goto (-84), 3) := by decide +kernel
theorem dX10_land_128 : decode cX10_land 128 = .ok (.aload_n 0, 1) := by decide +kernel
theorem dX10_land_129 : decode cX10_land 129 = .ok (.getfield 7, 3) := by decide +kernel
theorem dX10_land_132 : decode cX10_land 132 = .ok (.bipush 6, 2) := by decide +kernel
theorem dX10_land_134 : decode cX10_land 134 = .ok (.dup2, 1) := by decide +kernel
theorem dX10_land_135 : decode cX10_land 135 = .ok (.iaload, 1) := by decide +kernel
theorem dX10_land_136 : decode cX10_land 136 = .ok (.iload_n 2, 1) := by decide +kernel
theorem dX10_land_137 : decode cX10_land 137 = .ok (.invokestatic 99, 3) := by decide +kernel
theorem dX10_land_140 : decode cX10_land 140 = .ok (.iadd, 1) := by decide +kernel
theorem dX10_land_141 : decode cX10_land 141 = .ok (.iastore, 1) := by decide +kernel
theorem dX10_land_142 : decode cX10_land 142 = .ok (.aload_n 0, 1) := by decide +kernel
theorem dX10_land_143 : decode cX10_land 143 = .ok (.getfield 7, 3) := by decide +kernel
theorem dX10_land_146 : decode cX10_land 146 = .ok (.bipush 7, 2) := by decide +kernel
theorem dX10_land_148 : decode cX10_land 148 = .ok (.dup2, 1) := by decide +kernel
theorem dX10_land_149 : decode cX10_land 149 = .ok (.iaload, 1) := by decide +kernel
theorem dX10_land_150 : decode cX10_land 150 = .ok (.iload_n 1, 1) := by decide +kernel
theorem dX10_land_151 : decode cX10_land 151 = .ok (.invokestatic 99, 3) := by decide +kernel
theorem dX10_land_154 : decode cX10_land 154 = .ok (.iload_n 2, 1) := by decide +kernel
theorem dX10_land_155 : decode cX10_land 155 = .ok (.invokestatic 99, 3) := by decide +kernel
theorem dX10_land_158 : decode cX10_land 158 = .ok (.isub, 1) := by decide +kernel
theorem dX10_land_159 : decode cX10_land 159 = .ok (.iadd, 1) := by decide +kernel
theorem dX10_land_160 : decode cX10_land 160 = .ok (.iastore, 1) := by decide +kernel
theorem dX10_land_161 : decode cX10_land 161 = .ok (.aload_n 0, 1) := by decide +kernel
theorem dX10_land_162 : decode cX10_land 162 = .ok (.getfield 7, 3) := by decide +kernel
theorem dX10_land_165 : decode cX10_land 165 = .ok (.iconst 4, 1) := by decide +kernel
theorem dX10_land_166 : decode cX10_land 166 = .ok (.dup2, 1) := by decide +kernel
theorem dX10_land_167 : decode cX10_land 167 = .ok (.iaload, 1) := by decide +kernel
theorem dX10_land_168 : decode cX10_land 168 = .ok (.iconst 2, 1) := by decide +kernel
theorem dX10_land_169 : decode cX10_land 169 = .ok (.aload_n 0, 1) := by decide +kernel
theorem dX10_land_170 : decode cX10_land 170 = .ok (.iload_n 2, 1) := by decide +kernel
theorem dX10_land_171 : decode cX10_land 171 = .ok (.invokevirtual 160, 3) := by decide +kernel
theorem dX10_land_174 : decode cX10_land 174 = .ok (.imul, 1) := by decide +kernel
theorem dX10_land_175 : decode cX10_land 175 = .ok (.iadd, 1) := by decide +kernel
theorem dX10_land_176 : decode cX10_land 176 = .ok (.iastore, 1) := by decide +kernel
theorem dX10_land_177 : decode cX10_land 177 = .ok (.aload_n 0, 1) := by decide +kernel
theorem dX10_land_178 : decode cX10_land 178 = .ok (.iload_n 2, 1) := by decide +kernel
theorem dX10_land_179 : decode cX10_land 179 = .ok (.invokevirtual 160, 3) := by decide +kernel
theorem dX10_land_182 : decode cX10_land 182 = .ok (.ireturn, 1) := by decide +kernel
theorem dX10_free_0 : decode cX10_free 0 = .ok (.aload_n 0, 1) := by decide +kernel
theorem dX10_free_1 : decode cX10_free 1 = .ok (.iload_n 1, 1) := by decide +kernel
theorem dX10_free_2 : decode cX10_free 2 = .ok (.invokevirtual 107, 3) := by decide +kernel
theorem dX10_free_5 : decode cX10_free 5 = .ok (.ifCond .eq 5, 3) := by decide +kernel
theorem dX10_free_8 : decode cX10_free 8 = .ok (.iconst 0, 1) := by decide +kernel
theorem dX10_free_9 : decode cX10_free 9 = .ok (.ireturn, 1) := by decide +kernel
theorem dX10_free_10 : decode cX10_free 10 = .ok (.aload_n 0, 1) := by decide +kernel
theorem dX10_free_11 : decode cX10_free 11 = .ok (.iload_n 1, 1) := by decide +kernel
theorem dX10_free_12 : decode cX10_free 12 = .ok (.iconst 2, 1) := by decide +kernel
theorem dX10_free_13 : decode cX10_free 13 = .ok (.invokevirtual 73, 3) := by decide +kernel
theorem dX10_free_16 : decode cX10_free 16 = .ok (.iconst 1, 1) := by decide +kernel
theorem dX10_free_17 : decode cX10_free 17 = .ok (.if_icmp .eq 11, 3) := by decide +kernel
theorem dX10_free_20 : decode cX10_free 20 = .ok (.aload_n 0, 1) := by decide +kernel
theorem dX10_free_21 : decode cX10_free 21 = .ok (.iconst 2, 1) := by decide +kernel
theorem dX10_free_22 : decode cX10_free 22 = .ok (.iconst 4, 1) := by decide +kernel
theorem dX10_free_23 : decode cX10_free 23 = .ok (.iload_n 1, 1) := by decide +kernel
theorem dX10_free_24 : decode cX10_free 24 = .ok (.invokevirtual 80, 3) := by decide +kernel
theorem dX10_free_27 : decode cX10_free 27 = .ok (.ireturn, 1) := by decide +kernel
theorem dX10_free_28 : decode cX10_free 28 = .ok (.aload_n 0, 1) := by decide +kernel
theorem dX10_free_29 : decode cX10_free 29 = .ok (.aload_n 0, 1) := by decide +kernel
theorem dX10_free_30 : decode cX10_free 30 = .ok (.getfield 7, 3) := by decide +kernel
theorem dX10_free_33 : decode cX10_free 33 = .ok (.invokevirtual 84, 3) := by decide +kernel
theorem dX10_free_36 : decode cX10_free 36 = .ok (.aload_n 0, 1) := by decide +kernel
theorem dX10_free_37 : decode cX10_free 37 = .ok (.iload_n 1, 1) := by decide +kernel
theorem dX10_free_38 : decode cX10_free 38 = .ok (.iconst 2, 1) := by decide +kernel
theorem dX10_free_39 : decode cX10_free 39 = .ok (.iconst 0, 1) := by decide +kernel
theorem dX10_free_40 : decode cX10_free 40 = .ok (.invokevirtual 88, 3) := by decide +kernel
theorem dX10_free_43 : decode cX10_free 43 = .ok (.aload_n 0, 1) := by decide +kernel
theorem dX10_free_44 : decode cX10_free 44 = .ok (.getfield 7, 3) := by decide +kernel
theorem dX10_free_47 : decode cX10_free 47 = .ok (.bipush 7, 2) := by decide +kernel
theorem dX10_free_49 : decode cX10_free 49 = .ok (.dup2, 1) := by decide +kernel
theorem dX10_free_50 : decode cX10_free 50 = .ok (.iaload, 1) := by decide +kernel
theorem dX10_free_51 : decode cX10_free 51 = .ok (.iconst 1, 1) := by decide +kernel
theorem dX10_free_52 : decode cX10_free 52 = .ok (.iadd, 1) := by decide +kernel
theorem dX10_free_53 : decode cX10_free 53 = .ok (.iastore, 1) := by decide +kernel
theorem dX10_free_54 : decode cX10_free 54 = .ok (.aload_n 0, 1) := by decide +kernel
theorem dX10_free_55 : decode cX10_free 55 = .ok (.iconst 1, 1) := by decide +kernel
theorem dX10_free_56 : decode cX10_free 56 = .ok (.invokevirtual 142, 3) := by decide +kernel
theorem dX10_free_59 : decode cX10_free 59 = .ok (.invokestatic 99, 3) := by decide +kernel
theorem dX10_free_62 : decode cX10_free 62 = .ok (.ireturn, 1) := by decide +kernel
theorem dX10_heldCount_0 : decode cX10_heldCount 0 = .ok (.aload_n 0, 1) := by decide +kernel
theorem dX10_heldCount_1 : decode cX10_heldCount 1 = .ok (.iconst 0, 1) := by decide +kernel
theorem dX10_heldCount_2 : decode cX10_heldCount 2 = .ok (.putfield 36, 3) := by decide +kernel
theorem dX10_heldCount_5 : decode cX10_heldCount 5 = .ok (.aload_n 0, 1) := by decide +kernel
theorem dX10_heldCount_6 : decode cX10_heldCount 6 = .ok (.iconst 1, 1) := by decide +kernel
theorem dX10_heldCount_7 : decode cX10_heldCount 7 = .ok (.invokevirtual 142, 3) := by decide +kernel
theorem dX10_heldCount_10 : decode cX10_heldCount 10 = .ok (.invokestatic 99, 3) := by decide +kernel
theorem dX10_heldCount_13 : decode cX10_heldCount 13 = .ok (.ireturn, 1) := by decide +kernel
theorem dX10_bestLanding_0 : decode cX10_bestLanding 0 = .ok (.aload_n 0, 1) := by decide +kernel
theorem dX10_bestLanding_1 : decode cX10_bestLanding 1 = .ok (.iconst 0, 1) := by decide +kernel
theorem dX10_bestLanding_2 : decode cX10_bestLanding 2 = .ok (.putfield 36, 3) := by decide +kernel
theorem dX10_bestLanding_5 : decode cX10_bestLanding 5 = .ok (.aload_n 0, 1) := by decide +kernel
theorem dX10_bestLanding_6 : decode cX10_bestLanding 6 = .ok (.aload_n 0, 1) := by decide +kernel
theorem dX10_bestLanding_7 : decode cX10_bestLanding 7 = .ok (.invokevirtual 166, 3) := by decide +kernel
theorem dX10_bestLanding_10 : decode cX10_bestLanding 10 = .ok (.invokevirtual 160, 3) := by decide +kernel
theorem dX10_bestLanding_13 : decode cX10_bestLanding 13 = .ok (.ireturn, 1) := by decide +kernel
theorem dX10_bestLandingBySets_0 : decode cX10_bestLandingBySets 0 = .ok (.aload_n 0, 1) := by decide +kernel
theorem dX10_bestLandingBySets_1 : decode cX10_bestLandingBySets 1 = .ok (.iconst 0, 1) := by decide +kernel
theorem dX10_bestLandingBySets_2 : decode cX10_bestLandingBySets 2 = .ok (.putfield 36, 3) := by decide +kernel
theorem dX10_bestLandingBySets_5 : decode cX10_bestLandingBySets 5 = .ok (.aload_n 0, 1) := by decide +kernel
theorem dX10_bestLandingBySets_6 : decode cX10_bestLandingBySets 6 = .ok (.aload_n 0, 1) := by decide +kernel
theorem dX10_bestLandingBySets_7 : decode cX10_bestLandingBySets 7 = .ok (.invokevirtual 166, 3) := by decide +kernel
theorem dX10_bestLandingBySets_10 : decode cX10_bestLandingBySets 10 = .ok (.invokevirtual 160, 3) := by decide +kernel
theorem dX10_bestLandingBySets_13 : decode cX10_bestLandingBySets 13 = .ok (.ireturn, 1) := by decide +kernel
theorem dX10_wouldLand_0 : decode cX10_wouldLand 0 = .ok (.aload_n 0, 1) := by decide +kernel
theorem dX10_wouldLand_1 : decode cX10_wouldLand 1 = .ok (.iload_n 1, 1) := by decide +kernel
theorem dX10_wouldLand_2 : decode cX10_wouldLand 2 = .ok (.invokevirtual 107, 3) := by decide +kernel
theorem dX10_wouldLand_5 : decode cX10_wouldLand 5 = .ok (.ifCond .ne 19, 3) := by decide +kernel
theorem dX10_wouldLand_8 : decode cX10_wouldLand 8 = .ok (.aload_n 0, 1) := by decide +kernel
theorem dX10_wouldLand_9 : decode cX10_wouldLand 9 = .ok (.invokevirtual 166, 3) := by decide +kernel
theorem dX10_wouldLand_12 : decode cX10_wouldLand 12 = .ok (.iload_n 1, 1) := by decide +kernel
theorem dX10_wouldLand_13 : decode cX10_wouldLand 13 = .ok (.ishr, 1) := by decide +kernel
theorem dX10_wouldLand_14 : decode cX10_wouldLand 14 = .ok (.iconst 1, 1) := by decide +kernel
theorem dX10_wouldLand_15 : decode cX10_wouldLand 15 = .ok (.iand, 1) := by decide +kernel
theorem dX10_wouldLand_16 : decode cX10_wouldLand 16 = .ok (.iconst 1, 1) := by decide +kernel
theorem dX10_wouldLand_17 : decode cX10_wouldLand 17 = .ok (.if_icmp .ne 7, 3) := by decide +kernel
theorem dX10_wouldLand_20 : decode cX10_wouldLand 20 = .ok (.iconst 1, 1) := by decide +kernel
theorem dX10_wouldLand_21 : decode cX10_wouldLand 21 = .ok (.goto 4, 3) := by decide +kernel
theorem dX10_wouldLand_24 : decode cX10_wouldLand 24 = .ok (.iconst 0, 1) := by decide +kernel
theorem dX10_wouldLand_25 : decode cX10_wouldLand 25 = .ok (.ireturn, 1) := by decide +kernel
theorem dX10_fee_0 : decode cX10_fee 0 = .ok (.iload_n 0, 1) := by decide +kernel
theorem dX10_fee_1 : decode cX10_fee 1 = .ok (.ifCond .ne 8, 3) := by decide +kernel
theorem dX10_fee_4 : decode cX10_fee 4 = .ok (.bipush 20, 2) := by decide +kernel
theorem dX10_fee_6 : decode cX10_fee 6 = .ok (.goto 25, 3) := by decide +kernel
theorem dX10_fee_9 : decode cX10_fee 9 = .ok (.iload_n 0, 1) := by decide +kernel
theorem dX10_fee_10 : decode cX10_fee 10 = .ok (.iconst 1, 1) := by decide +kernel
theorem dX10_fee_11 : decode cX10_fee 11 = .ok (.if_icmp .ne 8, 3) := by decide +kernel
theorem dX10_fee_14 : decode cX10_fee 14 = .ok (.bipush 30, 2) := by decide +kernel
theorem dX10_fee_16 : decode cX10_fee 16 = .ok (.goto 15, 3) := by decide +kernel
theorem dX10_fee_19 : decode cX10_fee 19 = .ok (.iload_n 0, 1) := by decide +kernel
theorem dX10_fee_20 : decode cX10_fee 20 = .ok (.iconst 2, 1) := by decide +kernel
theorem dX10_fee_21 : decode cX10_fee 21 = .ok (.if_icmp .ne 8, 3) := by decide +kernel
theorem dX10_fee_24 : decode cX10_fee 24 = .ok (.bipush 40, 2) := by decide +kernel
theorem dX10_fee_26 : decode cX10_fee 26 = .ok (.goto 5, 3) := by decide +kernel
theorem dX10_fee_29 : decode cX10_fee 29 = .ok (.bipush 10, 2) := by decide +kernel
theorem dX10_fee_31 : decode cX10_fee 31 = .ok (.ireturn, 1) := by decide +kernel
theorem dX10_buyLicence_0 : decode cX10_buyLicence 0 = .ok (.aload_n 0, 1) := by decide +kernel
theorem dX10_buyLicence_1 : decode cX10_buyLicence 1 = .ok (.invokevirtual 136, 3) := by decide +kernel
theorem dX10_buyLicence_4 : decode cX10_buyLicence 4 = .ok (.invokestatic 169, 3) := by decide +kernel
theorem dX10_buyLicence_7 : decode cX10_buyLicence 7 = .ok (.istore_n 1, 1) := by decide +kernel
theorem dX10_buyLicence_8 : decode cX10_buyLicence 8 = .ok (.aload_n 0, 1) := by decide +kernel
theorem dX10_buyLicence_9 : decode cX10_buyLicence 9 = .ok (.getfield 7, 3) := by decide +kernel
theorem dX10_buyLicence_12 : decode cX10_buyLicence 12 = .ok (.iconst 3, 1) := by decide +kernel
theorem dX10_buyLicence_13 : decode cX10_buyLicence 13 = .ok (.iaload, 1) := by decide +kernel
theorem dX10_buyLicence_14 : decode cX10_buyLicence 14 = .ok (.iconst 1, 1) := by decide +kernel
theorem dX10_buyLicence_15 : decode cX10_buyLicence 15 = .ok (.if_icmp .ne 15, 3) := by decide +kernel
theorem dX10_buyLicence_18 : decode cX10_buyLicence 18 = .ok (.aload_n 0, 1) := by decide +kernel
theorem dX10_buyLicence_19 : decode cX10_buyLicence 19 = .ok (.iconst 1, 1) := by decide +kernel
theorem dX10_buyLicence_20 : decode cX10_buyLicence 20 = .ok (.bipush 8, 2) := by decide +kernel
theorem dX10_buyLicence_22 : decode cX10_buyLicence 22 = .ok (.aload_n 0, 1) := by decide +kernel
theorem dX10_buyLicence_23 : decode cX10_buyLicence 23 = .ok (.invokevirtual 136, 3) := by decide +kernel
theorem dX10_buyLicence_26 : decode cX10_buyLicence 26 = .ok (.invokevirtual 80, 3) := by decide +kernel
theorem dX10_buyLicence_29 : decode cX10_buyLicence 29 = .ok (.ireturn, 1) := by decide +kernel
theorem dX10_buyLicence_30 : decode cX10_buyLicence 30 = .ok (.aload_n 0, 1) := by decide +kernel
theorem dX10_buyLicence_31 : decode cX10_buyLicence 31 = .ok (.getfield 7, 3) := by decide +kernel
theorem dX10_buyLicence_34 : decode cX10_buyLicence 34 = .ok (.iconst 4, 1) := by decide +kernel
theorem dX10_buyLicence_35 : decode cX10_buyLicence 35 = .ok (.iaload, 1) := by decide +kernel
theorem dX10_buyLicence_36 : decode cX10_buyLicence 36 = .ok (.iload_n 1, 1) := by decide +kernel
theorem dX10_buyLicence_37 : decode cX10_buyLicence 37 = .ok (.if_icmp .ge 19, 3) := by decide +kernel
theorem dX10_buyLicence_40 : decode cX10_buyLicence 40 = .ok (.aload_n 0, 1) := by decide +kernel
theorem dX10_buyLicence_41 : decode cX10_buyLicence 41 = .ok (.iconst 1, 1) := by decide +kernel
theorem dX10_buyLicence_42 : decode cX10_buyLicence 42 = .ok (.bipush 6, 2) := by decide +kernel
theorem dX10_buyLicence_44 : decode cX10_buyLicence 44 = .ok (.iload_n 1, 1) := by decide +kernel
theorem dX10_buyLicence_45 : decode cX10_buyLicence 45 = .ok (.aload_n 0, 1) := by decide +kernel
theorem dX10_buyLicence_46 : decode cX10_buyLicence 46 = .ok (.getfield 7, 3) := by decide +kernel
theorem dX10_buyLicence_49 : decode cX10_buyLicence 49 = .ok (.iconst 4, 1) := by decide +kernel
theorem dX10_buyLicence_50 : decode cX10_buyLicence 50 = .ok (.iaload, 1) := by decide +kernel
theorem dX10_buyLicence_51 : decode cX10_buyLicence 51 = .ok (.isub, 1) := by decide +kernel
theorem dX10_buyLicence_52 : decode cX10_buyLicence 52 = .ok (.invokevirtual 80, 3) := by decide +kernel
theorem dX10_buyLicence_55 : decode cX10_buyLicence 55 = .ok (.ireturn, 1) := by decide +kernel
theorem dX10_buyLicence_56 : decode cX10_buyLicence 56 = .ok (.aload_n 0, 1) := by decide +kernel
theorem dX10_buyLicence_57 : decode cX10_buyLicence 57 = .ok (.aload_n 0, 1) := by decide +kernel
theorem dX10_buyLicence_58 : decode cX10_buyLicence 58 = .ok (.getfield 7, 3) := by decide +kernel
theorem dX10_buyLicence_61 : decode cX10_buyLicence 61 = .ok (.invokevirtual 84, 3) := by decide +kernel
theorem dX10_buyLicence_64 : decode cX10_buyLicence 64 = .ok (.aload_n 0, 1) := by decide +kernel
theorem dX10_buyLicence_65 : decode cX10_buyLicence 65 = .ok (.getfield 7, 3) := by decide +kernel
theorem dX10_buyLicence_68 : decode cX10_buyLicence 68 = .ok (.iconst 3, 1) := by decide +kernel
theorem dX10_buyLicence_69 : decode cX10_buyLicence 69 = .ok (.iconst 1, 1) := by decide +kernel
theorem dX10_buyLicence_70 : decode cX10_buyLicence 70 = .ok (.iastore, 1) := by decide +kernel
theorem dX10_buyLicence_71 : decode cX10_buyLicence 71 = .ok (.aload_n 0, 1) := by decide +kernel
theorem dX10_buyLicence_72 : decode cX10_buyLicence 72 = .ok (.getfield 7, 3) := by decide +kernel
theorem dX10_buyLicence_75 : decode cX10_buyLicence 75 = .ok (.iconst 4, 1) := by decide +kernel
theorem dX10_buyLicence_76 : decode cX10_buyLicence 76 = .ok (.dup2, 1) := by decide +kernel
theorem dX10_buyLicence_77 : decode cX10_buyLicence 77 = .ok (.iaload, 1) := by decide +kernel
theorem dX10_buyLicence_78 : decode cX10_buyLicence 78 = .ok (.iload_n 1, 1) := by decide +kernel
theorem dX10_buyLicence_79 : decode cX10_buyLicence 79 = .ok (.isub, 1) := by decide +kernel
theorem dX10_buyLicence_80 : decode cX10_buyLicence 80 = .ok (.iastore, 1) := by decide +kernel
theorem dX10_buyLicence_81 : decode cX10_buyLicence 81 = .ok (.aload_n 0, 1) := by decide +kernel
theorem dX10_buyLicence_82 : decode cX10_buyLicence 82 = .ok (.getfield 7, 3) := by decide +kernel
theorem dX10_buyLicence_85 : decode cX10_buyLicence 85 = .ok (.iconst 4, 1) := by decide +kernel
theorem dX10_buyLicence_86 : decode cX10_buyLicence 86 = .ok (.iaload, 1) := by decide +kernel
theorem dX10_buyLicence_87 : decode cX10_buyLicence 87 = .ok (.ireturn, 1) := by decide +kernel
theorem dX10_goes_0 : decode cX10_goes 0 = .ok (.aload_n 0, 1) := by decide +kernel
theorem dX10_goes_1 : decode cX10_goes 1 = .ok (.invokevirtual 136, 3) := by decide +kernel
theorem dX10_goes_4 : decode cX10_goes 4 = .ok (.istore_n 1, 1) := by decide +kernel
theorem dX10_goes_5 : decode cX10_goes 5 = .ok (.aload_n 0, 1) := by decide +kernel
theorem dX10_goes_6 : decode cX10_goes 6 = .ok (.getfield 7, 3) := by decide +kernel
theorem dX10_goes_9 : decode cX10_goes 9 = .ok (.iconst 2, 1) := by decide +kernel
theorem dX10_goes_10 : decode cX10_goes 10 = .ok (.dup2, 1) := by decide +kernel
theorem dX10_goes_11 : decode cX10_goes 11 = .ok (.iaload, 1) := by decide +kernel
theorem dX10_goes_12 : decode cX10_goes 12 = .ok (.iconst 1, 1) := by decide +kernel
theorem dX10_goes_13 : decode cX10_goes 13 = .ok (.iadd, 1) := by decide +kernel
theorem dX10_goes_14 : decode cX10_goes 14 = .ok (.iastore, 1) := by decide +kernel
theorem dX10_goes_15 : decode cX10_goes 15 = .ok (.aload_n 0, 1) := by decide +kernel
theorem dX10_goes_16 : decode cX10_goes 16 = .ok (.invokevirtual 136, 3) := by decide +kernel
theorem dX10_goes_19 : decode cX10_goes 19 = .ok (.iload_n 1, 1) := by decide +kernel
theorem dX10_goes_20 : decode cX10_goes 20 = .ok (.if_icmp .eq 34, 3) := by decide +kernel
theorem dX10_goes_23 : decode cX10_goes 23 = .ok (.aload_n 0, 1) := by decide +kernel
theorem dX10_goes_24 : decode cX10_goes 24 = .ok (.getfield 7, 3) := by decide +kernel
theorem dX10_goes_27 : decode cX10_goes 27 = .ok (.iconst 3, 1) := by decide +kernel
theorem dX10_goes_28 : decode cX10_goes 28 = .ok (.iconst 0, 1) := by decide +kernel
theorem dX10_goes_29 : decode cX10_goes 29 = .ok (.iastore, 1) := by decide +kernel
theorem dX10_goes_30 : decode cX10_goes 30 = .ok (.iconst 0, 1) := by decide +kernel
theorem dX10_goes_31 : decode cX10_goes 31 = .ok (.istore_n 2, 1) := by decide +kernel
theorem dX10_goes_32 : decode cX10_goes 32 = .ok (.iload_n 2, 1) := by decide +kernel
theorem dX10_goes_33 : decode cX10_goes 33 = .ok (.bipush 12, 2) := by decide +kernel
theorem dX10_goes_35 : decode cX10_goes 35 = .ok (.if_icmp .ge 19, 3) := by decide +kernel
theorem dX10_goes_38 : decode cX10_goes 38 = .ok (.aload_n 0, 1) := by decide +kernel
theorem dX10_goes_39 : decode cX10_goes 39 = .ok (.getfield 7, 3) := by decide +kernel
theorem dX10_goes_42 : decode cX10_goes 42 = .ok (.bipush 32, 2) := by decide +kernel
theorem dX10_goes_44 : decode cX10_goes 44 = .ok (.iload_n 2, 1) := by decide +kernel
theorem dX10_goes_45 : decode cX10_goes 45 = .ok (.iadd, 1) := by decide +kernel
theorem dX10_goes_46 : decode cX10_goes 46 = .ok (.iconst 0, 1) := by decide +kernel
theorem dX10_goes_47 : decode cX10_goes 47 = .ok (.iastore, 1) := by decide +kernel
theorem dX10_goes_48 : decode cX10_goes 48 = .ok (.iinc 2 1, 3) := by decide +kernel
theorem dX10_goes_51 : decode cX10_goes 51 = .ok (.goto (-19), 3) := by decide +kernel
theorem dX10_goes_54 : decode cX10_goes 54 = .ok (.iconst 0, 1) := by decide +kernel
theorem dX10_goes_55 : decode cX10_goes 55 = .ok (.istore_n 2, 1) := by decide +kernel
theorem dX10_goes_56 : decode cX10_goes 56 = .ok (.iconst 0, 1) := by decide +kernel
theorem dX10_goes_57 : decode cX10_goes 57 = .ok (.istore_n 3, 1) := by decide +kernel
theorem dX10_goes_58 : decode cX10_goes 58 = .ok (.iload_n 3, 1) := by decide +kernel
theorem dX10_goes_59 : decode cX10_goes 59 = .ok (.aload_n 0, 1) := by decide +kernel
theorem dX10_goes_60 : decode cX10_goes 60 = .ok (.getfield 7, 3) := by decide +kernel
theorem dX10_goes_63 : decode cX10_goes 63 = .ok (.iconst 0, 1) := by decide +kernel
theorem dX10_goes_64 : decode cX10_goes 64 = .ok (.iaload, 1) := by decide +kernel
theorem dX10_goes_65 : decode cX10_goes 65 = .ok (.if_icmp .ge 80, 3) := by decide +kernel
theorem dX10_goes_68 : decode cX10_goes 68 = .ok (.aload_n 0, 1) := by decide +kernel
theorem dX10_goes_69 : decode cX10_goes 69 = .ok (.invokevirtual 136, 3) := by decide +kernel
theorem dX10_goes_72 : decode cX10_goes 72 = .ok (.iconst 3, 1) := by decide +kernel
theorem dX10_goes_73 : decode cX10_goes 73 = .ok (.if_icmp .eq 72, 3) := by decide +kernel
theorem dX10_goes_76 : decode cX10_goes 76 = .ok (.aload_n 0, 1) := by decide +kernel
theorem dX10_goes_77 : decode cX10_goes 77 = .ok (.iload_n 3, 1) := by decide +kernel
theorem dX10_goes_78 : decode cX10_goes 78 = .ok (.iconst 2, 1) := by decide +kernel
theorem dX10_goes_79 : decode cX10_goes 79 = .ok (.invokevirtual 73, 3) := by decide +kernel
theorem dX10_goes_82 : decode cX10_goes 82 = .ok (.ifCond .ne 20, 3) := by decide +kernel
theorem dX10_goes_85 : decode cX10_goes 85 = .ok (.aload_n 0, 1) := by decide +kernel
theorem dX10_goes_86 : decode cX10_goes 86 = .ok (.getfield 7, 3) := by decide +kernel
theorem dX10_goes_89 : decode cX10_goes 89 = .ok (.bipush 8, 2) := by decide +kernel
theorem dX10_goes_91 : decode cX10_goes 91 = .ok (.aload_n 0, 1) := by decide +kernel
theorem dX10_goes_92 : decode cX10_goes 92 = .ok (.iload_n 3, 1) := by decide +kernel
theorem dX10_goes_93 : decode cX10_goes 93 = .ok (.iconst 0, 1) := by decide +kernel
theorem dX10_goes_94 : decode cX10_goes 94 = .ok (.invokevirtual 73, 3) := by decide +kernel
theorem dX10_goes_97 : decode cX10_goes 97 = .ok (.iadd, 1) := by decide +kernel
theorem dX10_goes_98 : decode cX10_goes 98 = .ok (.iaload, 1) := by decide +kernel
theorem dX10_goes_99 : decode cX10_goes 99 = .ok (.goto 4, 3) := by decide +kernel
theorem dX10_goes_102 : decode cX10_goes 102 = .ok (.iconst 0, 1) := by decide +kernel
theorem dX10_goes_103 : decode cX10_goes 103 = .ok (.istore 4, 2) := by decide +kernel
theorem dX10_goes_105 : decode cX10_goes 105 = .ok (.aload_n 0, 1) := by decide +kernel
theorem dX10_goes_106 : decode cX10_goes 106 = .ok (.iload_n 3, 1) := by decide +kernel
theorem dX10_goes_107 : decode cX10_goes 107 = .ok (.iconst 0, 1) := by decide +kernel
theorem dX10_goes_108 : decode cX10_goes 108 = .ok (.aload_n 0, 1) := by decide +kernel
theorem dX10_goes_109 : decode cX10_goes 109 = .ok (.iload_n 3, 1) := by decide +kernel
theorem dX10_goes_110 : decode cX10_goes 110 = .ok (.iconst 0, 1) := by decide +kernel
theorem dX10_goes_111 : decode cX10_goes 111 = .ok (.invokevirtual 73, 3) := by decide +kernel
theorem dX10_goes_114 : decode cX10_goes 114 = .ok (.iload 4, 2) := by decide +kernel
theorem dX10_goes_116 : decode cX10_goes 116 = .ok (.iadd, 1) := by decide +kernel
theorem dX10_goes_117 : decode cX10_goes 117 = .ok (.bipush 12, 2) := by decide +kernel
theorem dX10_goes_119 : decode cX10_goes 119 = .ok (.iadd, 1) := by decide +kernel
theorem dX10_goes_120 : decode cX10_goes 120 = .ok (.bipush 12, 2) := by decide +kernel
theorem dX10_goes_122 : decode cX10_goes 122 = .ok (.irem, 1) := by decide +kernel
theorem dX10_goes_123 : decode cX10_goes 123 = .ok (.invokevirtual 88, 3) := by decide +kernel
theorem dX10_goes_126 : decode cX10_goes 126 = .ok (.iload_n 2, 1) := by decide +kernel
theorem dX10_goes_127 : decode cX10_goes 127 = .ok (.iload 4, 2) := by decide +kernel
theorem dX10_goes_129 : decode cX10_goes 129 = .ok (.ifCond .ne 7, 3) := by decide +kernel
theorem dX10_goes_132 : decode cX10_goes 132 = .ok (.iconst 0, 1) := by decide +kernel
theorem dX10_goes_133 : decode cX10_goes 133 = .ok (.goto 4, 3) := by decide +kernel
theorem dX10_goes_136 : decode cX10_goes 136 = .ok (.iconst 1, 1) := by decide +kernel
theorem dX10_goes_137 : decode cX10_goes 137 = .ok (.iadd, 1) := by decide +kernel
theorem dX10_goes_138 : decode cX10_goes 138 = .ok (.istore_n 2, 1) := by decide +kernel
theorem dX10_goes_139 : decode cX10_goes 139 = .ok (.iinc 3 1, 3) := by decide +kernel
theorem dX10_goes_142 : decode cX10_goes 142 = .ok (.goto (-84), 3) := by decide +kernel
theorem dX10_goes_145 : decode cX10_goes 145 = .ok (.iload_n 2, 1) := by decide +kernel
theorem dX10_goes_146 : decode cX10_goes 146 = .ok (.ireturn, 1) := by decide +kernel
theorem dX10_pass_0 : decode cX10_pass 0 = .ok (.aload_n 0, 1) := by decide +kernel
theorem dX10_pass_1 : decode cX10_pass 1 = .ok (.iload_n 1, 1) := by decide +kernel
theorem dX10_pass_2 : decode cX10_pass 2 = .ok (.iconst 1, 1) := by decide +kernel
theorem dX10_pass_3 : decode cX10_pass 3 = .ok (.bipush 40, 2) := by decide +kernel
theorem dX10_pass_5 : decode cX10_pass 5 = .ok (.invokestatic 62, 3) := by decide +kernel
theorem dX10_pass_8 : decode cX10_pass 8 = .ok (.ifCond .eq 7, 3) := by decide +kernel
theorem dX10_pass_11 : decode cX10_pass 11 = .ok (.iconst 0, 1) := by decide +kernel
theorem dX10_pass_12 : decode cX10_pass 12 = .ok (.goto 4, 3) := by decide +kernel
theorem dX10_pass_15 : decode cX10_pass 15 = .ok (.iconst 1, 1) := by decide +kernel
theorem dX10_pass_16 : decode cX10_pass 16 = .ok (.invokevirtual 70, 3) := by decide +kernel
theorem dX10_pass_19 : decode cX10_pass 19 = .ok (.ifCond .eq 5, 3) := by decide +kernel
theorem dX10_pass_22 : decode cX10_pass 22 = .ok (.iconst 0, 1) := by decide +kernel
theorem dX10_pass_23 : decode cX10_pass 23 = .ok (.ireturn, 1) := by decide +kernel
theorem dX10_pass_24 : decode cX10_pass 24 = .ok (.aload_n 0, 1) := by decide +kernel
theorem dX10_pass_25 : decode cX10_pass 25 = .ok (.aload_n 0, 1) := by decide +kernel
theorem dX10_pass_26 : decode cX10_pass 26 = .ok (.getfield 7, 3) := by decide +kernel
theorem dX10_pass_29 : decode cX10_pass 29 = .ok (.invokevirtual 84, 3) := by decide +kernel
theorem dX10_pass_32 : decode cX10_pass 32 = .ok (.iconst 0, 1) := by decide +kernel
