theorem dX6_heldOn_17 : decode cX6_heldOn 17 = .ok (.invokestatic 39, 3) := by decide +kernel
theorem dX6_heldOn_20 : decode cX6_heldOn 20 = .ok (.ifCond .eq 22, 3) := by decide +kernel
theorem dX6_heldOn_23 : decode cX6_heldOn 23 = .ok (.aload_n 0, 1) := by decide +kernel
theorem dX6_heldOn_24 : decode cX6_heldOn 24 = .ok (.getfield 43, 3) := by decide +kernel
theorem dX6_heldOn_27 : decode cX6_heldOn 27 = .ok (.iload 4, 2) := by decide +kernel
theorem dX6_heldOn_29 : decode cX6_heldOn 29 = .ok (.iaload, 1) := by decide +kernel
theorem dX6_heldOn_30 : decode cX6_heldOn 30 = .ok (.iload_n 2, 1) := by decide +kernel
theorem dX6_heldOn_31 : decode cX6_heldOn 31 = .ok (.if_icmp .ne 11, 3) := by decide +kernel
theorem dX6_heldOn_34 : decode cX6_heldOn 34 = .ok (.iload_n 3, 1) := by decide +kernel
theorem dX6_heldOn_35 : decode cX6_heldOn 35 = .ok (.iload 4, 2) := by decide +kernel
theorem dX6_heldOn_37 : decode cX6_heldOn 37 = .ok (.invokestatic 46, 3) := by decide +kernel
theorem dX6_heldOn_40 : decode cX6_heldOn 40 = .ok (.ior, 1) := by decide +kernel
theorem dX6_heldOn_41 : decode cX6_heldOn 41 = .ok (.istore_n 3, 1) := by decide +kernel
theorem dX6_heldOn_42 : decode cX6_heldOn 42 = .ok (.iinc 4 1, 3) := by decide +kernel
theorem dX6_heldOn_45 : decode cX6_heldOn 45 = .ok (.goto (-40), 3) := by decide +kernel
theorem dX6_heldOn_48 : decode cX6_heldOn 48 = .ok (.iload_n 3, 1) := by decide +kernel
theorem dX6_heldOn_49 : decode cX6_heldOn 49 = .ok (.ireturn, 1) := by decide +kernel
theorem dX6_chooseFrom_0 : decode cX6_chooseFrom 0 = .ok (.iload_n 3, 1) := by decide +kernel
theorem dX6_chooseFrom_1 : decode cX6_chooseFrom 1 = .ok (.sipush 198, 3) := by decide +kernel
theorem dX6_chooseFrom_4 : decode cX6_chooseFrom 4 = .ok (.invokestatic 49, 3) := by decide +kernel
theorem dX6_chooseFrom_7 : decode cX6_chooseFrom 7 = .ok (.istore 4, 2) := by decide +kernel
theorem dX6_chooseFrom_9 : decode cX6_chooseFrom 9 = .ok (.aload_n 0, 1) := by decide +kernel
theorem dX6_chooseFrom_10 : decode cX6_chooseFrom 10 = .ok (.getfield 9, 3) := by decide +kernel
theorem dX6_chooseFrom_13 : decode cX6_chooseFrom 13 = .ok (.iconst (-1), 1) := by decide +kernel
theorem dX6_chooseFrom_14 : decode cX6_chooseFrom 14 = .ok (.invokestatic 55, 3) := by decide +kernel
theorem dX6_chooseFrom_17 : decode cX6_chooseFrom 17 = .ok (.aload_n 0, 1) := by decide +kernel
theorem dX6_chooseFrom_18 : decode cX6_chooseFrom 18 = .ok (.getfield 9, 3) := by decide +kernel
theorem dX6_chooseFrom_21 : decode cX6_chooseFrom 21 = .ok (.iconst 0, 1) := by decide +kernel
theorem dX6_chooseFrom_22 : decode cX6_chooseFrom 22 = .ok (.iconst 0, 1) := by decide +kernel
theorem dX6_chooseFrom_23 : decode cX6_chooseFrom 23 = .ok (.iastore, 1) := by decide +kernel
theorem dX6_chooseFrom_24 : decode cX6_chooseFrom 24 = .ok (.iconst 0, 1) := by decide +kernel
theorem dX6_chooseFrom_25 : decode cX6_chooseFrom 25 = .ok (.istore 5, 2) := by decide +kernel
theorem dX6_chooseFrom_27 : decode cX6_chooseFrom 27 = .ok (.iload 5, 2) := by decide +kernel
theorem dX6_chooseFrom_29 : decode cX6_chooseFrom 29 = .ok (.aload_n 1, 1) := by decide +kernel
theorem dX6_chooseFrom_30 : decode cX6_chooseFrom 30 = .ok (.getfield 35, 3) := by decide +kernel
theorem dX6_chooseFrom_33 : decode cX6_chooseFrom 33 = .ok (.if_icmp .ge 39, 3) := by decide +kernel
theorem dX6_chooseFrom_36 : decode cX6_chooseFrom 36 = .ok (.iload_n 2, 1) := by decide +kernel
theorem dX6_chooseFrom_37 : decode cX6_chooseFrom 37 = .ok (.iload 5, 2) := by decide +kernel
theorem dX6_chooseFrom_39 : decode cX6_chooseFrom 39 = .ok (.invokestatic 39, 3) := by decide +kernel
theorem dX6_chooseFrom_42 : decode cX6_chooseFrom 42 = .ok (.ifCond .eq 24, 3) := by decide +kernel
theorem dX6_chooseFrom_45 : decode cX6_chooseFrom 45 = .ok (.aload_n 0, 1) := by decide +kernel
theorem dX6_chooseFrom_46 : decode cX6_chooseFrom 46 = .ok (.aload_n 1, 1) := by decide +kernel
theorem dX6_chooseFrom_47 : decode cX6_chooseFrom 47 = .ok (.getfield 61, 3) := by decide +kernel
theorem dX6_chooseFrom_50 : decode cX6_chooseFrom 50 = .ok (.iload 5, 2) := by decide +kernel
theorem dX6_chooseFrom_52 : decode cX6_chooseFrom 52 = .ok (.iaload, 1) := by decide +kernel
theorem dX6_chooseFrom_53 : decode cX6_chooseFrom 53 = .ok (.bipush 9, 2) := by decide +kernel
theorem dX6_chooseFrom_55 : decode cX6_chooseFrom 55 = .ok (.iload 5, 2) := by decide +kernel
theorem dX6_chooseFrom_57 : decode cX6_chooseFrom 57 = .ok (.isub, 1) := by decide +kernel
theorem dX6_chooseFrom_58 : decode cX6_chooseFrom 58 = .ok (.invokestatic 46, 3) := by decide +kernel
theorem dX6_chooseFrom_61 : decode cX6_chooseFrom 61 = .ok (.iload 4, 2) := by decide +kernel
theorem dX6_chooseFrom_63 : decode cX6_chooseFrom 63 = .ok (.invokevirtual 64, 3) := by decide +kernel
theorem dX6_chooseFrom_66 : decode cX6_chooseFrom 66 = .ok (.iinc 5 1, 3) := by decide +kernel
theorem dX6_chooseFrom_69 : decode cX6_chooseFrom 69 = .ok (.goto (-42), 3) := by decide +kernel
theorem dX6_chooseFrom_72 : decode cX6_chooseFrom 72 = .ok (.iload 4, 2) := by decide +kernel
theorem dX6_chooseFrom_74 : decode cX6_chooseFrom 74 = .ok (.istore 5, 2) := by decide +kernel
theorem dX6_chooseFrom_76 : decode cX6_chooseFrom 76 = .ok (.iload 5, 2) := by decide +kernel
theorem dX6_chooseFrom_78 : decode cX6_chooseFrom 78 = .ok (.ifCond .le 19, 3) := by decide +kernel
theorem dX6_chooseFrom_81 : decode cX6_chooseFrom 81 = .ok (.aload_n 0, 1) := by decide +kernel
theorem dX6_chooseFrom_82 : decode cX6_chooseFrom 82 = .ok (.getfield 9, 3) := by decide +kernel
theorem dX6_chooseFrom_85 : decode cX6_chooseFrom 85 = .ok (.iload 5, 2) := by decide +kernel
theorem dX6_chooseFrom_87 : decode cX6_chooseFrom 87 = .ok (.iaload, 1) := by decide +kernel
theorem dX6_chooseFrom_88 : decode cX6_chooseFrom 88 = .ok (.ifCond .ge 9, 3) := by decide +kernel
theorem dX6_chooseFrom_91 : decode cX6_chooseFrom 91 = .ok (.iinc 5 (-1), 3) := by decide +kernel
theorem dX6_chooseFrom_94 : decode cX6_chooseFrom 94 = .ok (.goto (-18), 3) := by decide +kernel
theorem dX6_chooseFrom_97 : decode cX6_chooseFrom 97 = .ok (.aload_n 0, 1) := by decide +kernel
theorem dX6_chooseFrom_98 : decode cX6_chooseFrom 98 = .ok (.getfield 9, 3) := by decide +kernel
theorem dX6_chooseFrom_101 : decode cX6_chooseFrom 101 = .ok (.iload 5, 2) := by decide +kernel
theorem dX6_chooseFrom_103 : decode cX6_chooseFrom 103 = .ok (.iaload, 1) := by decide +kernel
theorem dX6_chooseFrom_104 : decode cX6_chooseFrom 104 = .ok (.invokestatic 68, 3) := by decide +kernel
theorem dX6_chooseFrom_107 : decode cX6_chooseFrom 107 = .ok (.ireturn, 1) := by decide +kernel
theorem dX6_tryWith_0 : decode cX6_tryWith 0 = .ok (.iload_n 3, 1) := by decide +kernel
theorem dX6_tryWith_1 : decode cX6_tryWith 1 = .ok (.istore 4, 2) := by decide +kernel
theorem dX6_tryWith_3 : decode cX6_tryWith 3 = .ok (.iload 4, 2) := by decide +kernel
theorem dX6_tryWith_5 : decode cX6_tryWith 5 = .ok (.iload_n 1, 1) := by decide +kernel
theorem dX6_tryWith_6 : decode cX6_tryWith 6 = .ok (.if_icmp .lt 46, 3) := by decide +kernel
theorem dX6_tryWith_9 : decode cX6_tryWith 9 = .ok (.aload_n 0, 1) := by decide +kernel
theorem dX6_tryWith_10 : decode cX6_tryWith 10 = .ok (.getfield 9, 3) := by decide +kernel
theorem dX6_tryWith_13 : decode cX6_tryWith 13 = .ok (.iload 4, 2) := by decide +kernel
theorem dX6_tryWith_15 : decode cX6_tryWith 15 = .ok (.iload_n 1, 1) := by decide +kernel
theorem dX6_tryWith_16 : decode cX6_tryWith 16 = .ok (.isub, 1) := by decide +kernel
theorem dX6_tryWith_17 : decode cX6_tryWith 17 = .ok (.iaload, 1) := by decide +kernel
theorem dX6_tryWith_18 : decode cX6_tryWith 18 = .ok (.istore 5, 2) := by decide +kernel
theorem dX6_tryWith_20 : decode cX6_tryWith 20 = .ok (.iload 5, 2) := by decide +kernel
theorem dX6_tryWith_22 : decode cX6_tryWith 22 = .ok (.ifCond .lt 24, 3) := by decide +kernel
theorem dX6_tryWith_25 : decode cX6_tryWith 25 = .ok (.aload_n 0, 1) := by decide +kernel
theorem dX6_tryWith_26 : decode cX6_tryWith 26 = .ok (.getfield 9, 3) := by decide +kernel
theorem dX6_tryWith_29 : decode cX6_tryWith 29 = .ok (.iload 4, 2) := by decide +kernel
theorem dX6_tryWith_31 : decode cX6_tryWith 31 = .ok (.aload_n 0, 1) := by decide +kernel
theorem dX6_tryWith_32 : decode cX6_tryWith 32 = .ok (.getfield 9, 3) := by decide +kernel
theorem dX6_tryWith_35 : decode cX6_tryWith 35 = .ok (.iload 4, 2) := by decide +kernel
theorem dX6_tryWith_37 : decode cX6_tryWith 37 = .ok (.iaload, 1) := by decide +kernel
theorem dX6_tryWith_38 : decode cX6_tryWith 38 = .ok (.iload 5, 2) := by decide +kernel
theorem dX6_tryWith_40 : decode cX6_tryWith 40 = .ok (.iload_n 2, 1) := by decide +kernel
theorem dX6_tryWith_41 : decode cX6_tryWith 41 = .ok (.ior, 1) := by decide +kernel
theorem dX6_tryWith_42 : decode cX6_tryWith 42 = .ok (.invokestatic 71, 3) := by decide +kernel
theorem dX6_tryWith_45 : decode cX6_tryWith 45 = .ok (.iastore, 1) := by decide +kernel
theorem dX6_tryWith_46 : decode cX6_tryWith 46 = .ok (.iinc 4 (-1), 3) := by decide +kernel
theorem dX6_tryWith_49 : decode cX6_tryWith 49 = .ok (.goto (-46), 3) := by decide +kernel
theorem dX6_tryWith_52 : decode cX6_tryWith 52 = .ok (.return_, 1) := by decide +kernel
theorem dX6_turned_0 : decode cX6_turned 0 = .ok (.iconst 0, 1) := by decide +kernel
theorem dX6_turned_1 : decode cX6_turned 1 = .ok (.istore_n 1, 1) := by decide +kernel
theorem dX6_turned_2 : decode cX6_turned 2 = .ok (.iconst 0, 1) := by decide +kernel
theorem dX6_turned_3 : decode cX6_turned 3 = .ok (.istore_n 2, 1) := by decide +kernel
theorem dX6_turned_4 : decode cX6_turned 4 = .ok (.iload_n 2, 1) := by decide +kernel
theorem dX6_turned_5 : decode cX6_turned 5 = .ok (.bipush 10, 2) := by decide +kernel
theorem dX6_turned_7 : decode cX6_turned 7 = .ok (.if_icmp .ge 27, 3) := by decide +kernel
theorem dX6_turned_10 : decode cX6_turned 10 = .ok (.iload_n 0, 1) := by decide +kernel
theorem dX6_turned_11 : decode cX6_turned 11 = .ok (.bipush 9, 2) := by decide +kernel
theorem dX6_turned_13 : decode cX6_turned 13 = .ok (.iload_n 2, 1) := by decide +kernel
theorem dX6_turned_14 : decode cX6_turned 14 = .ok (.isub, 1) := by decide +kernel
theorem dX6_turned_15 : decode cX6_turned 15 = .ok (.invokestatic 39, 3) := by decide +kernel
theorem dX6_turned_18 : decode cX6_turned 18 = .ok (.ifCond .eq 10, 3) := by decide +kernel
theorem dX6_turned_21 : decode cX6_turned 21 = .ok (.iload_n 1, 1) := by decide +kernel
theorem dX6_turned_22 : decode cX6_turned 22 = .ok (.iload_n 2, 1) := by decide +kernel
theorem dX6_turned_23 : decode cX6_turned 23 = .ok (.invokestatic 46, 3) := by decide +kernel
theorem dX6_turned_26 : decode cX6_turned 26 = .ok (.ior, 1) := by decide +kernel
theorem dX6_turned_27 : decode cX6_turned 27 = .ok (.istore_n 1, 1) := by decide +kernel
theorem dX6_turned_28 : decode cX6_turned 28 = .ok (.iinc 2 1, 3) := by decide +kernel
theorem dX6_turned_31 : decode cX6_turned 31 = .ok (.goto (-27), 3) := by decide +kernel
theorem dX6_turned_34 : decode cX6_turned 34 = .ok (.iload_n 1, 1) := by decide +kernel
theorem dX6_turned_35 : decode cX6_turned 35 = .ok (.ireturn, 1) := by decide +kernel
theorem dX6_heaviestSet_0 : decode cX6_heaviestSet 0 = .ok (.aload_n 1, 1) := by decide +kernel
theorem dX6_heaviestSet_1 : decode cX6_heaviestSet 1 = .ok (.bipush 104, 2) := by decide +kernel
theorem dX6_heaviestSet_3 : decode cX6_heaviestSet 3 = .ok (.invokevirtual 18, 3) := by decide +kernel
theorem dX6_heaviestSet_6 : decode cX6_heaviestSet 6 = .ok (.istore_n 2, 1) := by decide +kernel
theorem dX6_heaviestSet_7 : decode cX6_heaviestSet 7 = .ok (.iconst 0, 1) := by decide +kernel
theorem dX6_heaviestSet_8 : decode cX6_heaviestSet 8 = .ok (.istore_n 3, 1) := by decide +kernel
theorem dX6_heaviestSet_9 : decode cX6_heaviestSet 9 = .ok (.iconst 1, 1) := by decide +kernel
theorem dX6_heaviestSet_10 : decode cX6_heaviestSet 10 = .ok (.istore 4, 2) := by decide +kernel
theorem dX6_heaviestSet_12 : decode cX6_heaviestSet 12 = .ok (.iload 4, 2) := by decide +kernel
theorem dX6_heaviestSet_14 : decode cX6_heaviestSet 14 = .ok (.iload_n 2, 1) := by decide +kernel
theorem dX6_heaviestSet_15 : decode cX6_heaviestSet 15 = .ok (.if_icmp .gt 39, 3) := by decide +kernel
theorem dX6_heaviestSet_18 : decode cX6_heaviestSet 18 = .ok (.iload 4, 2) := by decide +kernel
theorem dX6_heaviestSet_20 : decode cX6_heaviestSet 20 = .ok (.iload_n 2, 1) := by decide +kernel
theorem dX6_heaviestSet_21 : decode cX6_heaviestSet 21 = .ok (.iconst (-1), 1) := by decide +kernel
theorem dX6_heaviestSet_22 : decode cX6_heaviestSet 22 = .ok (.ixor, 1) := by decide +kernel
theorem dX6_heaviestSet_23 : decode cX6_heaviestSet 23 = .ok (.iand, 1) := by decide +kernel
theorem dX6_heaviestSet_24 : decode cX6_heaviestSet 24 = .ok (.ifCond .ne 24, 3) := by decide +kernel
theorem dX6_heaviestSet_27 : decode cX6_heaviestSet 27 = .ok (.aload_n 0, 1) := by decide +kernel
theorem dX6_heaviestSet_28 : decode cX6_heaviestSet 28 = .ok (.aload_n 1, 1) := by decide +kernel
theorem dX6_heaviestSet_29 : decode cX6_heaviestSet 29 = .ok (.iload 4, 2) := by decide +kernel
theorem dX6_heaviestSet_31 : decode cX6_heaviestSet 31 = .ok (.invokevirtual 74, 3) := by decide +kernel
theorem dX6_heaviestSet_34 : decode cX6_heaviestSet 34 = .ok (.ifCond .eq 14, 3) := by decide +kernel
theorem dX6_heaviestSet_37 : decode cX6_heaviestSet 37 = .ok (.iload_n 3, 1) := by decide +kernel
theorem dX6_heaviestSet_38 : decode cX6_heaviestSet 38 = .ok (.aload_n 1, 1) := by decide +kernel
theorem dX6_heaviestSet_39 : decode cX6_heaviestSet 39 = .ok (.iload 4, 2) := by decide +kernel
theorem dX6_heaviestSet_41 : decode cX6_heaviestSet 41 = .ok (.invokevirtual 78, 3) := by decide +kernel
theorem dX6_heaviestSet_44 : decode cX6_heaviestSet 44 = .ok (.invokestatic 71, 3) := by decide +kernel
theorem dX6_heaviestSet_47 : decode cX6_heaviestSet 47 = .ok (.istore_n 3, 1) := by decide +kernel
theorem dX6_heaviestSet_48 : decode cX6_heaviestSet 48 = .ok (.iinc 4 1, 3) := by decide +kernel
theorem dX6_heaviestSet_51 : decode cX6_heaviestSet 51 = .ok (.goto (-39), 3) := by decide +kernel
theorem dX6_heaviestSet_54 : decode cX6_heaviestSet 54 = .ok (.iload_n 3, 1) := by decide +kernel
theorem dX6_heaviestSet_55 : decode cX6_heaviestSet 55 = .ok (.ireturn, 1) := by decide +kernel
theorem dX6_fits_0 : decode cX6_fits 0 = .ok (.iconst 0, 1) := by decide +kernel
theorem dX6_fits_1 : decode cX6_fits 1 = .ok (.istore_n 3, 1) := by decide +kernel
theorem dX6_fits_2 : decode cX6_fits 2 = .ok (.iload_n 3, 1) := by decide +kernel
theorem dX6_fits_3 : decode cX6_fits 3 = .ok (.bipush 12, 2) := by decide +kernel
theorem dX6_fits_5 : decode cX6_fits 5 = .ok (.if_icmp .ge 20, 3) := by decide +kernel
theorem dX6_fits_8 : decode cX6_fits 8 = .ok (.aload_n 0, 1) := by decide +kernel
theorem dX6_fits_9 : decode cX6_fits 9 = .ok (.getfield 15, 3) := by decide +kernel
theorem dX6_fits_12 : decode cX6_fits 12 = .ok (.iload_n 3, 1) := by decide +kernel
theorem dX6_fits_13 : decode cX6_fits 13 = .ok (.aload_n 1, 1) := by decide +kernel
theorem dX6_fits_14 : decode cX6_fits 14 = .ok (.iload_n 3, 1) := by decide +kernel
theorem dX6_fits_15 : decode cX6_fits 15 = .ok (.invokevirtual 28, 3) := by decide +kernel
theorem dX6_fits_18 : decode cX6_fits 18 = .ok (.iastore, 1) := by decide +kernel
theorem dX6_fits_19 : decode cX6_fits 19 = .ok (.iinc 3 1, 3) := by decide +kernel
theorem dX6_fits_22 : decode cX6_fits 22 = .ok (.goto (-20), 3) := by decide +kernel
theorem dX6_fits_25 : decode cX6_fits 25 = .ok (.iconst 0, 1) := by decide +kernel
theorem dX6_fits_26 : decode cX6_fits 26 = .ok (.istore_n 3, 1) := by decide +kernel
theorem dX6_fits_27 : decode cX6_fits 27 = .ok (.iload_n 3, 1) := by decide +kernel
theorem dX6_fits_28 : decode cX6_fits 28 = .ok (.aload_n 1, 1) := by decide +kernel
theorem dX6_fits_29 : decode cX6_fits 29 = .ok (.getfield 35, 3) := by decide +kernel
theorem dX6_fits_32 : decode cX6_fits 32 = .ok (.if_icmp .ge 53, 3) := by decide +kernel
theorem dX6_fits_35 : decode cX6_fits 35 = .ok (.iload_n 2, 1) := by decide +kernel
theorem dX6_fits_36 : decode cX6_fits 36 = .ok (.iload_n 3, 1) := by decide +kernel
theorem dX6_fits_37 : decode cX6_fits 37 = .ok (.invokestatic 39, 3) := by decide +kernel
theorem dX6_fits_40 : decode cX6_fits 40 = .ok (.ifCond .eq 39, 3) := by decide +kernel
theorem dX6_fits_43 : decode cX6_fits 43 = .ok (.aload_n 0, 1) := by decide +kernel
theorem dX6_fits_44 : decode cX6_fits 44 = .ok (.getfield 15, 3) := by decide +kernel
theorem dX6_fits_47 : decode cX6_fits 47 = .ok (.aload_n 1, 1) := by decide +kernel
theorem dX6_fits_48 : decode cX6_fits 48 = .ok (.getfield 43, 3) := by decide +kernel
theorem dX6_fits_51 : decode cX6_fits 51 = .ok (.iload_n 3, 1) := by decide +kernel
theorem dX6_fits_52 : decode cX6_fits 52 = .ok (.iaload, 1) := by decide +kernel
theorem dX6_fits_53 : decode cX6_fits 53 = .ok (.dup2, 1) := by decide +kernel
theorem dX6_fits_54 : decode cX6_fits 54 = .ok (.iaload, 1) := by decide +kernel
theorem dX6_fits_55 : decode cX6_fits 55 = .ok (.aload_n 1, 1) := by decide +kernel
theorem dX6_fits_56 : decode cX6_fits 56 = .ok (.getfield 61, 3) := by decide +kernel
theorem dX6_fits_59 : decode cX6_fits 59 = .ok (.iload_n 3, 1) := by decide +kernel
theorem dX6_fits_60 : decode cX6_fits 60 = .ok (.iaload, 1) := by decide +kernel
theorem dX6_fits_61 : decode cX6_fits 61 = .ok (.isub, 1) := by decide +kernel
theorem dX6_fits_62 : decode cX6_fits 62 = .ok (.iastore, 1) := by decide +kernel
theorem dX6_fits_63 : decode cX6_fits 63 = .ok (.aload_n 0, 1) := by decide +kernel
theorem dX6_fits_64 : decode cX6_fits 64 = .ok (.getfield 15, 3) := by decide +kernel
theorem dX6_fits_67 : decode cX6_fits 67 = .ok (.aload_n 1, 1) := by decide +kernel
theorem dX6_fits_68 : decode cX6_fits 68 = .ok (.getfield 43, 3) := by decide +kernel
theorem dX6_fits_71 : decode cX6_fits 71 = .ok (.iload_n 3, 1) := by decide +kernel
theorem dX6_fits_72 : decode cX6_fits 72 = .ok (.iaload, 1) := by decide +kernel
theorem dX6_fits_73 : decode cX6_fits 73 = .ok (.iaload, 1) := by decide +kernel
theorem dX6_fits_74 : decode cX6_fits 74 = .ok (.ifCond .ge 5, 3) := by decide +kernel
theorem dX6_fits_77 : decode cX6_fits 77 = .ok (.iconst 0, 1) := by decide +kernel
theorem dX6_fits_78 : decode cX6_fits 78 = .ok (.ireturn, 1) := by decide +kernel
theorem dX6_fits_79 : decode cX6_fits 79 = .ok (.iinc 3 1, 3) := by decide +kernel
theorem dX6_fits_82 : decode cX6_fits 82 = .ok (.goto (-55), 3) := by decide +kernel
theorem dX6_fits_85 : decode cX6_fits 85 = .ok (.iconst 1, 1) := by decide +kernel
theorem dX6_fits_86 : decode cX6_fits 86 = .ok (.ireturn, 1) := by decide +kernel
theorem dX7_init_0 : decode cX7_init 0 = .ok (.aload_n 0, 1) := by decide +kernel
theorem dX7_init_1 : decode cX7_init 1 = .ok (.invokespecial 3, 3) := by decide +kernel
theorem dX7_init_4 : decode cX7_init 4 = .ok (.aload_n 0, 1) := by decide +kernel
theorem dX7_init_5 : decode cX7_init 5 = .ok (.bipush 10, 2) := by decide +kernel
theorem dX7_init_7 : decode cX7_init 7 = .ok (.newarray .int, 2) := by decide +kernel
theorem dX7_init_9 : decode cX7_init 9 = .ok (.putfield 9, 3) := by decide +kernel
theorem dX7_init_12 : decode cX7_init 12 = .ok (.aload_n 0, 1) := by decide +kernel
theorem dX7_init_13 : decode cX7_init 13 = .ok (.bipush 10, 2) := by decide +kernel
theorem dX7_init_15 : decode cX7_init 15 = .ok (.newarray .int, 2) := by decide +kernel
theorem dX7_init_17 : decode cX7_init 17 = .ok (.putfield 15, 3) := by decide +kernel
theorem dX7_init_20 : decode cX7_init 20 = .ok (.aload_n 0, 1) := by decide +kernel
theorem dX7_init_21 : decode cX7_init 21 = .ok (.bipush 10, 2) := by decide +kernel
theorem dX7_init_23 : decode cX7_init 23 = .ok (.newarray .char, 2) := by decide +kernel
theorem dX7_init_25 : decode cX7_init 25 = .ok (.putfield 18, 3) := by decide +kernel
theorem dX7_init_28 : decode cX7_init 28 = .ok (.aload_n 0, 1) := by decide +kernel
theorem dX7_init_29 : decode cX7_init 29 = .ok (.bipush 10, 2) := by decide +kernel
theorem dX7_init_31 : decode cX7_init 31 = .ok (.newarray .int, 2) := by decide +kernel
theorem dX7_init_33 : decode cX7_init 33 = .ok (.putfield 22, 3) := by decide +kernel
theorem dX7_init_36 : decode cX7_init 36 = .ok (.aload_n 0, 1) := by decide +kernel
theorem dX7_init_37 : decode cX7_init 37 = .ok (.bipush 12, 2) := by decide +kernel
theorem dX7_init_39 : decode cX7_init 39 = .ok (.newarray .int, 2) := by decide +kernel
theorem dX7_init_41 : decode cX7_init 41 = .ok (.putfield 25, 3) := by decide +kernel
theorem dX7_init_44 : decode cX7_init 44 = .ok (.aload_n 0, 1) := by decide +kernel
theorem dX7_init_45 : decode cX7_init 45 = .ok (.bipush 12, 2) := by decide +kernel
theorem dX7_init_47 : decode cX7_init 47 = .ok (.newarray .int, 2) := by decide +kernel
theorem dX7_init_49 : decode cX7_init 49 = .ok (.putfield 28, 3) := by decide +kernel
theorem dX7_init_52 : decode cX7_init 52 = .ok (.aload_n 0, 1) := by decide +kernel
theorem dX7_init_53 : decode cX7_init 53 = .ok (.bipush 12, 2) := by decide +kernel
theorem dX7_init_55 : decode cX7_init 55 = .ok (.newarray .int, 2) := by decide +kernel
theorem dX7_init_57 : decode cX7_init 57 = .ok (.putfield 31, 3) := by decide +kernel
theorem dX7_init_60 : decode cX7_init 60 = .ok (.aload_n 0, 1) := by decide +kernel
theorem dX7_init_61 : decode cX7_init 61 = .ok (.iconst 5, 1) := by decide +kernel
theorem dX7_init_62 : decode cX7_init 62 = .ok (.newarray .int, 2) := by decide +kernel
theorem dX7_init_64 : decode cX7_init 64 = .ok (.putfield 34, 3) := by decide +kernel
theorem dX7_init_67 : decode cX7_init 67 = .ok (.aload_n 0, 1) := by decide +kernel
theorem dX7_init_68 : decode cX7_init 68 = .ok (.iconst 5, 1) := by decide +kernel
theorem dX7_init_69 : decode cX7_init 69 = .ok (.newarray .int, 2) := by decide +kernel
theorem dX7_init_71 : decode cX7_init 71 = .ok (.putfield 37, 3) := by decide +kernel
theorem dX7_init_74 : decode cX7_init 74 = .ok (.aload_n 0, 1) := by decide +kernel
theorem dX7_init_75 : decode cX7_init 75 = .ok (.iconst 5, 1) := by decide +kernel
theorem dX7_init_76 : decode cX7_init 76 = .ok (.newarray .int, 2) := by decide +kernel
theorem dX7_init_78 : decode cX7_init 78 = .ok (.putfield 40, 3) := by decide +kernel
theorem dX7_init_81 : decode cX7_init 81 = .ok (.aload_n 0, 1) := by decide +kernel
theorem dX7_init_82 : decode cX7_init 82 = .ok (.bipush 100, 2) := by decide +kernel
theorem dX7_init_84 : decode cX7_init 84 = .ok (.putfield 43, 3) := by decide +kernel
theorem dX7_init_87 : decode cX7_init 87 = .ok (.aload_n 0, 1) := by decide +kernel
theorem dX7_init_88 : decode cX7_init 88 = .ok (.getfield 28, 3) := by decide +kernel
theorem dX7_init_91 : decode cX7_init 91 = .ok (.bipush 20, 2) := by decide +kernel
theorem dX7_init_93 : decode cX7_init 93 = .ok (.invokestatic 47, 3) := by decide +kernel
theorem dX7_init_96 : decode cX7_init 96 = .ok (.return_, 1) := by decide +kernel
theorem dX7_copyFrom_0 : decode cX7_copyFrom 0 = .ok (.aload_n 0, 1) := by decide +kernel
theorem dX7_copyFrom_1 : decode cX7_copyFrom 1 = .ok (.aload_n 1, 1) := by decide +kernel
theorem dX7_copyFrom_2 : decode cX7_copyFrom 2 = .ok (.getfield 53, 3) := by decide +kernel
theorem dX7_copyFrom_5 : decode cX7_copyFrom 5 = .ok (.putfield 53, 3) := by decide +kernel
theorem dX7_copyFrom_8 : decode cX7_copyFrom 8 = .ok (.aload_n 1, 1) := by decide +kernel
theorem dX7_copyFrom_9 : decode cX7_copyFrom 9 = .ok (.getfield 9, 3) := by decide +kernel
theorem dX7_copyFrom_12 : decode cX7_copyFrom 12 = .ok (.iconst 0, 1) := by decide +kernel
theorem dX7_copyFrom_13 : decode cX7_copyFrom 13 = .ok (.aload_n 0, 1) := by decide +kernel
theorem dX7_copyFrom_14 : decode cX7_copyFrom 14 = .ok (.getfield 9, 3) := by decide +kernel
theorem dX7_copyFrom_17 : decode cX7_copyFrom 17 = .ok (.iconst 0, 1) := by decide +kernel
theorem dX7_copyFrom_18 : decode cX7_copyFrom 18 = .ok (.bipush 10, 2) := by decide +kernel
theorem dX7_copyFrom_20 : decode cX7_copyFrom 20 = .ok (.invokestatic 56, 3) := by decide +kernel
theorem dX7_copyFrom_23 : decode cX7_copyFrom 23 = .ok (.aload_n 1, 1) := by decide +kernel
theorem dX7_copyFrom_24 : decode cX7_copyFrom 24 = .ok (.getfield 15, 3) := by decide +kernel
theorem dX7_copyFrom_27 : decode cX7_copyFrom 27 = .ok (.iconst 0, 1) := by decide +kernel
theorem dX7_copyFrom_28 : decode cX7_copyFrom 28 = .ok (.aload_n 0, 1) := by decide +kernel
theorem dX7_copyFrom_29 : decode cX7_copyFrom 29 = .ok (.getfield 15, 3) := by decide +kernel
theorem dX7_copyFrom_32 : decode cX7_copyFrom 32 = .ok (.iconst 0, 1) := by decide +kernel
theorem dX7_copyFrom_33 : decode cX7_copyFrom 33 = .ok (.bipush 10, 2) := by decide +kernel
theorem dX7_copyFrom_35 : decode cX7_copyFrom 35 = .ok (.invokestatic 56, 3) := by decide +kernel
theorem dX7_copyFrom_38 : decode cX7_copyFrom 38 = .ok (.aload_n 1, 1) := by decide +kernel
theorem dX7_copyFrom_39 : decode cX7_copyFrom 39 = .ok (.getfield 18, 3) := by decide +kernel
theorem dX7_copyFrom_42 : decode cX7_copyFrom 42 = .ok (.iconst 0, 1) := by decide +kernel
theorem dX7_copyFrom_43 : decode cX7_copyFrom 43 = .ok (.aload_n 0, 1) := by decide +kernel
theorem dX7_copyFrom_44 : decode cX7_copyFrom 44 = .ok (.getfield 18, 3) := by decide +kernel
theorem dX7_copyFrom_47 : decode cX7_copyFrom 47 = .ok (.iconst 0, 1) := by decide +kernel
theorem dX7_copyFrom_48 : decode cX7_copyFrom 48 = .ok (.bipush 10, 2) := by decide +kernel
theorem dX7_copyFrom_50 : decode cX7_copyFrom 50 = .ok (.invokestatic 56, 3) := by decide +kernel
theorem dX7_copyFrom_53 : decode cX7_copyFrom 53 = .ok (.aload_n 1, 1) := by decide +kernel
theorem dX7_copyFrom_54 : decode cX7_copyFrom 54 = .ok (.getfield 22, 3) := by decide +kernel
theorem dX7_copyFrom_57 : decode cX7_copyFrom 57 = .ok (.iconst 0, 1) := by decide +kernel
theorem dX7_copyFrom_58 : decode cX7_copyFrom 58 = .ok (.aload_n 0, 1) := by decide +kernel
theorem dX7_copyFrom_59 : decode cX7_copyFrom 59 = .ok (.getfield 22, 3) := by decide +kernel
theorem dX7_copyFrom_62 : decode cX7_copyFrom 62 = .ok (.iconst 0, 1) := by decide +kernel
theorem dX7_copyFrom_63 : decode cX7_copyFrom 63 = .ok (.bipush 10, 2) := by decide +kernel
theorem dX7_copyFrom_65 : decode cX7_copyFrom 65 = .ok (.invokestatic 56, 3) := by decide +kernel
theorem dX7_copyFrom_68 : decode cX7_copyFrom 68 = .ok (.aload_n 1, 1) := by decide +kernel
theorem dX7_copyFrom_69 : decode cX7_copyFrom 69 = .ok (.getfield 25, 3) := by decide +kernel
theorem dX7_copyFrom_72 : decode cX7_copyFrom 72 = .ok (.iconst 0, 1) := by decide +kernel
theorem dX7_copyFrom_73 : decode cX7_copyFrom 73 = .ok (.aload_n 0, 1) := by decide +kernel
theorem dX7_copyFrom_74 : decode cX7_copyFrom 74 = .ok (.getfield 25, 3) := by decide +kernel
theorem dX7_copyFrom_77 : decode cX7_copyFrom 77 = .ok (.iconst 0, 1) := by decide +kernel
theorem dX7_copyFrom_78 : decode cX7_copyFrom 78 = .ok (.bipush 12, 2) := by decide +kernel
theorem dX7_copyFrom_80 : decode cX7_copyFrom 80 = .ok (.invokestatic 56, 3) := by decide +kernel
theorem dX7_copyFrom_83 : decode cX7_copyFrom 83 = .ok (.aload_n 1, 1) := by decide +kernel
theorem dX7_copyFrom_84 : decode cX7_copyFrom 84 = .ok (.getfield 28, 3) := by decide +kernel
theorem dX7_copyFrom_87 : decode cX7_copyFrom 87 = .ok (.iconst 0, 1) := by decide +kernel
theorem dX7_copyFrom_88 : decode cX7_copyFrom 88 = .ok (.aload_n 0, 1) := by decide +kernel
theorem dX7_copyFrom_89 : decode cX7_copyFrom 89 = .ok (.getfield 28, 3) := by decide +kernel
theorem dX7_copyFrom_92 : decode cX7_copyFrom 92 = .ok (.iconst 0, 1) := by decide +kernel
theorem dX7_copyFrom_93 : decode cX7_copyFrom 93 = .ok (.bipush 12, 2) := by decide +kernel
theorem dX7_copyFrom_95 : decode cX7_copyFrom 95 = .ok (.invokestatic 56, 3) := by decide +kernel
theorem dX7_copyFrom_98 : decode cX7_copyFrom 98 = .ok (.aload_n 1, 1) := by decide +kernel
theorem dX7_copyFrom_99 : decode cX7_copyFrom 99 = .ok (.getfield 31, 3) := by decide +kernel
theorem dX7_copyFrom_102 : decode cX7_copyFrom 102 = .ok (.iconst 0, 1) := by decide +kernel
theorem dX7_copyFrom_103 : decode cX7_copyFrom 103 = .ok (.aload_n 0, 1) := by decide +kernel
theorem dX7_copyFrom_104 : decode cX7_copyFrom 104 = .ok (.getfield 31, 3) := by decide +kernel
theorem dX7_copyFrom_107 : decode cX7_copyFrom 107 = .ok (.iconst 0, 1) := by decide +kernel
theorem dX7_copyFrom_108 : decode cX7_copyFrom 108 = .ok (.bipush 12, 2) := by decide +kernel
theorem dX7_copyFrom_110 : decode cX7_copyFrom 110 = .ok (.invokestatic 56, 3) := by decide +kernel
theorem dX7_copyFrom_113 : decode cX7_copyFrom 113 = .ok (.aload_n 0, 1) := by decide +kernel
theorem dX7_copyFrom_114 : decode cX7_copyFrom 114 = .ok (.aload_n 1, 1) := by decide +kernel
theorem dX7_copyFrom_115 : decode cX7_copyFrom 115 = .ok (.getfield 62, 3) := by decide +kernel
theorem dX7_copyFrom_118 : decode cX7_copyFrom 118 = .ok (.putfield 62, 3) := by decide +kernel
theorem dX7_copyFrom_121 : decode cX7_copyFrom 121 = .ok (.aload_n 1, 1) := by decide +kernel
theorem dX7_copyFrom_122 : decode cX7_copyFrom 122 = .ok (.getfield 34, 3) := by decide +kernel
theorem dX7_copyFrom_125 : decode cX7_copyFrom 125 = .ok (.iconst 0, 1) := by decide +kernel
theorem dX7_copyFrom_126 : decode cX7_copyFrom 126 = .ok (.aload_n 0, 1) := by decide +kernel
theorem dX7_copyFrom_127 : decode cX7_copyFrom 127 = .ok (.getfield 34, 3) := by decide +kernel
theorem dX7_copyFrom_130 : decode cX7_copyFrom 130 = .ok (.iconst 0, 1) := by decide +kernel
theorem dX7_copyFrom_131 : decode cX7_copyFrom 131 = .ok (.iconst 5, 1) := by decide +kernel
theorem dX7_copyFrom_132 : decode cX7_copyFrom 132 = .ok (.invokestatic 56, 3) := by decide +kernel
theorem dX7_copyFrom_135 : decode cX7_copyFrom 135 = .ok (.aload_n 1, 1) := by decide +kernel
theorem dX7_copyFrom_136 : decode cX7_copyFrom 136 = .ok (.getfield 37, 3) := by decide +kernel
theorem dX7_copyFrom_139 : decode cX7_copyFrom 139 = .ok (.iconst 0, 1) := by decide +kernel
theorem dX7_copyFrom_140 : decode cX7_copyFrom 140 = .ok (.aload_n 0, 1) := by decide +kernel
theorem dX7_copyFrom_141 : decode cX7_copyFrom 141 = .ok (.getfield 37, 3) := by decide +kernel
theorem dX7_copyFrom_144 : decode cX7_copyFrom 144 = .ok (.iconst 0, 1) := by decide +kernel
theorem dX7_copyFrom_145 : decode cX7_copyFrom 145 = .ok (.iconst 5, 1) := by decide +kernel
theorem dX7_copyFrom_146 : decode cX7_copyFrom 146 = .ok (.invokestatic 56, 3) := by decide +kernel
theorem dX7_copyFrom_149 : decode cX7_copyFrom 149 = .ok (.aload_n 1, 1) := by decide +kernel
theorem dX7_copyFrom_150 : decode cX7_copyFrom 150 = .ok (.getfield 40, 3) := by decide +kernel
theorem dX7_copyFrom_153 : decode cX7_copyFrom 153 = .ok (.iconst 0, 1) := by decide +kernel
theorem dX7_copyFrom_154 : decode cX7_copyFrom 154 = .ok (.aload_n 0, 1) := by decide +kernel
theorem dX7_copyFrom_155 : decode cX7_copyFrom 155 = .ok (.getfield 40, 3) := by decide +kernel
theorem dX7_copyFrom_158 : decode cX7_copyFrom 158 = .ok (.iconst 0, 1) := by decide +kernel
theorem dX7_copyFrom_159 : decode cX7_copyFrom 159 = .ok (.iconst 5, 1) := by decide +kernel
theorem dX7_copyFrom_160 : decode cX7_copyFrom 160 = .ok (.invokestatic 56, 3) := by decide +kernel
theorem dX7_copyFrom_163 : decode cX7_copyFrom 163 = .ok (.aload_n 0, 1) := by decide +kernel
theorem dX7_copyFrom_164 : decode cX7_copyFrom 164 = .ok (.aload_n 1, 1) := by decide +kernel
theorem dX7_copyFrom_165 : decode cX7_copyFrom 165 = .ok (.getfield 65, 3) := by decide +kernel
theorem dX7_copyFrom_168 : decode cX7_copyFrom 168 = .ok (.putfield 65, 3) := by decide +kernel
theorem dX7_copyFrom_171 : decode cX7_copyFrom 171 = .ok (.aload_n 0, 1) := by decide +kernel
theorem dX7_copyFrom_172 : decode cX7_copyFrom 172 = .ok (.aload_n 1, 1) := by decide +kernel
theorem dX7_copyFrom_173 : decode cX7_copyFrom 173 = .ok (.getfield 69, 3) := by decide +kernel
theorem dX7_copyFrom_176 : decode cX7_copyFrom 176 = .ok (.putfield 69, 3) := by decide +kernel
theorem dX7_copyFrom_179 : decode cX7_copyFrom 179 = .ok (.aload_n 0, 1) := by decide +kernel
theorem dX7_copyFrom_180 : decode cX7_copyFrom 180 = .ok (.aload_n 1, 1) := by decide +kernel
theorem dX7_copyFrom_181 : decode cX7_copyFrom 181 = .ok (.getfield 43, 3) := by decide +kernel
theorem dX7_copyFrom_184 : decode cX7_copyFrom 184 = .ok (.putfield 43, 3) := by decide +kernel
theorem dX7_copyFrom_187 : decode cX7_copyFrom 187 = .ok (.aload_n 0, 1) := by decide +kernel
theorem dX7_copyFrom_188 : decode cX7_copyFrom 188 = .ok (.aload_n 1, 1) := by decide +kernel
theorem dX7_copyFrom_189 : decode cX7_copyFrom 189 = .ok (.getfield 72, 3) := by decide +kernel
theorem dX7_copyFrom_192 : decode cX7_copyFrom 192 = .ok (.putfield 72, 3) := by decide +kernel
theorem dX7_copyFrom_195 : decode cX7_copyFrom 195 = .ok (.aload_n 0, 1) := by decide +kernel
theorem dX7_copyFrom_196 : decode cX7_copyFrom 196 = .ok (.aload_n 1, 1) := by decide +kernel
theorem dX7_copyFrom_197 : decode cX7_copyFrom 197 = .ok (.getfield 75, 3) := by decide +kernel
theorem dX7_copyFrom_200 : decode cX7_copyFrom 200 = .ok (.putfield 75, 3) := by decide +kernel
theorem dX7_copyFrom_203 : decode cX7_copyFrom 203 = .ok (.return_, 1) := by decide +kernel
theorem dX7_hasNote_0 : decode cX7_hasNote 0 = .ok (.iload_n 1, 1) := by decide +kernel
theorem dX7_hasNote_1 : decode cX7_hasNote 1 = .ok (.ifCond .lt 15, 3) := by decide +kernel
theorem dX7_hasNote_4 : decode cX7_hasNote 4 = .ok (.iload_n 1, 1) := by decide +kernel
theorem dX7_hasNote_5 : decode cX7_hasNote 5 = .ok (.aload_n 0, 1) := by decide +kernel
theorem dX7_hasNote_6 : decode cX7_hasNote 6 = .ok (.getfield 53, 3) := by decide +kernel
theorem dX7_hasNote_9 : decode cX7_hasNote 9 = .ok (.if_icmp .ge 7, 3) := by decide +kernel
theorem dX7_hasNote_12 : decode cX7_hasNote 12 = .ok (.iconst 1, 1) := by decide +kernel
theorem dX7_hasNote_13 : decode cX7_hasNote 13 = .ok (.goto 4, 3) := by decide +kernel
theorem dX7_hasNote_16 : decode cX7_hasNote 16 = .ok (.iconst 0, 1) := by decide +kernel
theorem dX7_hasNote_17 : decode cX7_hasNote 17 = .ok (.ireturn, 1) := by decide +kernel
theorem dX7_hasNet_0 : decode cX7_hasNet 0 = .ok (.iload_n 1, 1) := by decide +kernel
theorem dX7_hasNet_1 : decode cX7_hasNet 1 = .ok (.ifCond .lt 15, 3) := by decide +kernel
theorem dX7_hasNet_4 : decode cX7_hasNet 4 = .ok (.iload_n 1, 1) := by decide +kernel
theorem dX7_hasNet_5 : decode cX7_hasNet 5 = .ok (.aload_n 0, 1) := by decide +kernel
theorem dX7_hasNet_6 : decode cX7_hasNet 6 = .ok (.getfield 62, 3) := by decide +kernel
theorem dX7_hasNet_9 : decode cX7_hasNet 9 = .ok (.if_icmp .ge 7, 3) := by decide +kernel
theorem dX7_hasNet_12 : decode cX7_hasNet 12 = .ok (.iconst 1, 1) := by decide +kernel
theorem dX7_hasNet_13 : decode cX7_hasNet 13 = .ok (.goto 4, 3) := by decide +kernel
theorem dX7_hasNet_16 : decode cX7_hasNet 16 = .ok (.iconst 0, 1) := by decide +kernel
theorem dX7_hasNet_17 : decode cX7_hasNet 17 = .ok (.ireturn, 1) := by decide +kernel
theorem dX7_presentSeason_0 : decode cX7_presentSeason 0 = .ok (.aload_n 0, 1) := by decide +kernel
theorem dX7_presentSeason_1 : decode cX7_presentSeason 1 = .ok (.getfield 69, 3) := by decide +kernel
theorem dX7_presentSeason_4 : decode cX7_presentSeason 4 = .ok (.bipush 30, 2) := by decide +kernel
theorem dX7_presentSeason_6 : decode cX7_presentSeason 6 = .ok (.idiv, 1) := by decide +kernel
theorem dX7_presentSeason_7 : decode cX7_presentSeason 7 = .ok (.iconst 4, 1) := by decide +kernel
theorem dX7_presentSeason_8 : decode cX7_presentSeason 8 = .ok (.invokestatic 78, 3) := by decide +kernel
theorem dX7_presentSeason_11 : decode cX7_presentSeason 11 = .ok (.ireturn, 1) := by decide +kernel
theorem dX7_licencePrice_0 : decode cX7_licencePrice 0 = .ok (.getstatic 84, 3) := by decide +kernel
theorem dX7_licencePrice_3 : decode cX7_licencePrice 3 = .ok (.aload_n 0, 1) := by decide +kernel
theorem dX7_licencePrice_4 : decode cX7_licencePrice 4 = .ok (.invokevirtual 87, 3) := by decide +kernel
theorem dX7_licencePrice_7 : decode cX7_licencePrice 7 = .ok (.iaload, 1) := by decide +kernel
theorem dX7_licencePrice_8 : decode cX7_licencePrice 8 = .ok (.ireturn, 1) := by decide +kernel
theorem dX7_setOf_0 : decode cX7_setOf 0 = .ok (.iconst 0, 1) := by decide +kernel
theorem dX7_setOf_1 : decode cX7_setOf 1 = .ok (.istore_n 2, 1) := by decide +kernel
theorem dX7_setOf_2 : decode cX7_setOf 2 = .ok (.iconst 0, 1) := by decide +kernel
theorem dX7_setOf_3 : decode cX7_setOf 3 = .ok (.istore_n 3, 1) := by decide +kernel
theorem dX7_setOf_4 : decode cX7_setOf 4 = .ok (.iload_n 3, 1) := by decide +kernel
theorem dX7_setOf_5 : decode cX7_setOf 5 = .ok (.aload_n 0, 1) := by decide +kernel
theorem dX7_setOf_6 : decode cX7_setOf 6 = .ok (.getfield 53, 3) := by decide +kernel
theorem dX7_setOf_9 : decode cX7_setOf 9 = .ok (.if_icmp .ge 26, 3) := by decide +kernel
theorem dX7_setOf_12 : decode cX7_setOf 12 = .ok (.aload_n 0, 1) := by decide +kernel
theorem dX7_setOf_13 : decode cX7_setOf 13 = .ok (.getfield 18, 3) := by decide +kernel
theorem dX7_setOf_16 : decode cX7_setOf 16 = .ok (.iload_n 3, 1) := by decide +kernel
theorem dX7_setOf_17 : decode cX7_setOf 17 = .ok (.caload, 1) := by decide +kernel
theorem dX7_setOf_18 : decode cX7_setOf 18 = .ok (.iload_n 1, 1) := by decide +kernel
theorem dX7_setOf_19 : decode cX7_setOf 19 = .ok (.if_icmp .ne 10, 3) := by decide +kernel
theorem dX7_setOf_22 : decode cX7_setOf 22 = .ok (.iload_n 2, 1) := by decide +kernel
theorem dX7_setOf_23 : decode cX7_setOf 23 = .ok (.iload_n 3, 1) := by decide +kernel
theorem dX7_setOf_24 : decode cX7_setOf 24 = .ok (.invokestatic 91, 3) := by decide +kernel
theorem dX7_setOf_27 : decode cX7_setOf 27 = .ok (.ior, 1) := by decide +kernel
theorem dX7_setOf_28 : decode cX7_setOf 28 = .ok (.istore_n 2, 1) := by decide +kernel
theorem dX7_setOf_29 : decode cX7_setOf 29 = .ok (.iinc 3 1, 3) := by decide +kernel
theorem dX7_setOf_32 : decode cX7_setOf 32 = .ok (.goto (-28), 3) := by decide +kernel
theorem dX7_setOf_35 : decode cX7_setOf 35 = .ok (.iload_n 2, 1) := by decide +kernel
theorem dX7_setOf_36 : decode cX7_setOf 36 = .ok (.ireturn, 1) := by decide +kernel
theorem dX7_count_0 : decode cX7_count 0 = .ok (.aload_n 0, 1) := by decide +kernel
theorem dX7_count_1 : decode cX7_count 1 = .ok (.iload_n 1, 1) := by decide +kernel
theorem dX7_count_2 : decode cX7_count 2 = .ok (.invokevirtual 95, 3) := by decide +kernel
theorem dX7_count_5 : decode cX7_count 5 = .ok (.invokestatic 99, 3) := by decide +kernel
theorem dX7_count_8 : decode cX7_count 8 = .ok (.ireturn, 1) := by decide +kernel
theorem dX7_weightOfAll_0 : decode cX7_weightOfAll 0 = .ok (.iconst 0, 1) := by decide +kernel
theorem dX7_weightOfAll_1 : decode cX7_weightOfAll 1 = .ok (.istore_n 2, 1) := by decide +kernel
theorem dX7_weightOfAll_2 : decode cX7_weightOfAll 2 = .ok (.iconst 0, 1) := by decide +kernel
theorem dX7_weightOfAll_3 : decode cX7_weightOfAll 3 = .ok (.istore_n 3, 1) := by decide +kernel
theorem dX7_weightOfAll_4 : decode cX7_weightOfAll 4 = .ok (.iload_n 3, 1) := by decide +kernel
theorem dX7_weightOfAll_5 : decode cX7_weightOfAll 5 = .ok (.aload_n 0, 1) := by decide +kernel
theorem dX7_weightOfAll_6 : decode cX7_weightOfAll 6 = .ok (.getfield 53, 3) := by decide +kernel
theorem dX7_weightOfAll_9 : decode cX7_weightOfAll 9 = .ok (.if_icmp .ge 26, 3) := by decide +kernel
theorem dX7_weightOfAll_12 : decode cX7_weightOfAll 12 = .ok (.iload_n 1, 1) := by decide +kernel
theorem dX7_weightOfAll_13 : decode cX7_weightOfAll 13 = .ok (.iload_n 3, 1) := by decide +kernel
theorem dX7_weightOfAll_14 : decode cX7_weightOfAll 14 = .ok (.invokestatic 104, 3) := by decide +kernel
theorem dX7_weightOfAll_17 : decode cX7_weightOfAll 17 = .ok (.ifCond .eq 12, 3) := by decide +kernel
theorem dX7_weightOfAll_20 : decode cX7_weightOfAll 20 = .ok (.iload_n 2, 1) := by decide +kernel
theorem dX7_weightOfAll_21 : decode cX7_weightOfAll 21 = .ok (.aload_n 0, 1) := by decide +kernel
theorem dX7_weightOfAll_22 : decode cX7_weightOfAll 22 = .ok (.getfield 15, 3) := by decide +kernel
theorem dX7_weightOfAll_25 : decode cX7_weightOfAll 25 = .ok (.iload_n 3, 1) := by decide +kernel
theorem dX7_weightOfAll_26 : decode cX7_weightOfAll 26 = .ok (.iaload, 1) := by decide +kernel
theorem dX7_weightOfAll_27 : decode cX7_weightOfAll 27 = .ok (.iadd, 1) := by decide +kernel
theorem dX7_weightOfAll_28 : decode cX7_weightOfAll 28 = .ok (.istore_n 2, 1) := by decide +kernel
theorem dX7_weightOfAll_29 : decode cX7_weightOfAll 29 = .ok (.iinc 3 1, 3) := by decide +kernel
theorem dX7_weightOfAll_32 : decode cX7_weightOfAll 32 = .ok (.goto (-28), 3) := by decide +kernel
theorem dX7_weightOfAll_35 : decode cX7_weightOfAll 35 = .ok (.iload_n 2, 1) := by decide +kernel
theorem dX7_weightOfAll_36 : decode cX7_weightOfAll 36 = .ok (.ireturn, 1) := by decide +kernel
theorem dX7_countFloatingOn_0 : decode cX7_countFloatingOn 0 = .ok (.iconst 0, 1) := by decide +kernel
theorem dX7_countFloatingOn_1 : decode cX7_countFloatingOn 1 = .ok (.istore_n 2, 1) := by decide +kernel
theorem dX7_countFloatingOn_2 : decode cX7_countFloatingOn 2 = .ok (.iconst 0, 1) := by decide +kernel
theorem dX7_countFloatingOn_3 : decode cX7_countFloatingOn 3 = .ok (.istore_n 3, 1) := by decide +kernel
theorem dX7_countFloatingOn_4 : decode cX7_countFloatingOn 4 = .ok (.iload_n 3, 1) := by decide +kernel
theorem dX7_countFloatingOn_5 : decode cX7_countFloatingOn 5 = .ok (.aload_n 0, 1) := by decide +kernel
theorem dX7_countFloatingOn_6 : decode cX7_countFloatingOn 6 = .ok (.getfield 53, 3) := by decide +kernel
theorem dX7_countFloatingOn_9 : decode cX7_countFloatingOn 9 = .ok (.if_icmp .ge 33, 3) := by decide +kernel
theorem dX7_countFloatingOn_12 : decode cX7_countFloatingOn 12 = .ok (.aload_n 0, 1) := by decide +kernel
theorem dX7_countFloatingOn_13 : decode cX7_countFloatingOn 13 = .ok (.getfield 18, 3) := by decide +kernel
theorem dX7_countFloatingOn_16 : decode cX7_countFloatingOn 16 = .ok (.iload_n 3, 1) := by decide +kernel
theorem dX7_countFloatingOn_17 : decode cX7_countFloatingOn 17 = .ok (.caload, 1) := by decide +kernel
theorem dX7_countFloatingOn_18 : decode cX7_countFloatingOn 18 = .ok (.bipush 102, 2) := by decide +kernel
theorem dX7_countFloatingOn_20 : decode cX7_countFloatingOn 20 = .ok (.if_icmp .ne 16, 3) := by decide +kernel
theorem dX7_countFloatingOn_23 : decode cX7_countFloatingOn 23 = .ok (.aload_n 0, 1) := by decide +kernel
theorem dX7_countFloatingOn_24 : decode cX7_countFloatingOn 24 = .ok (.getfield 9, 3) := by decide +kernel
theorem dX7_countFloatingOn_27 : decode cX7_countFloatingOn 27 = .ok (.iload_n 3, 1) := by decide +kernel
theorem dX7_countFloatingOn_28 : decode cX7_countFloatingOn 28 = .ok (.iaload, 1) := by decide +kernel
theorem dX7_countFloatingOn_29 : decode cX7_countFloatingOn 29 = .ok (.iload_n 1, 1) := by decide +kernel
theorem dX7_countFloatingOn_30 : decode cX7_countFloatingOn 30 = .ok (.if_icmp .ne 6, 3) := by decide +kernel
theorem dX7_countFloatingOn_33 : decode cX7_countFloatingOn 33 = .ok (.iinc 2 1, 3) := by decide +kernel
theorem dX7_countFloatingOn_36 : decode cX7_countFloatingOn 36 = .ok (.iinc 3 1, 3) := by decide +kernel
theorem dX7_countFloatingOn_39 : decode cX7_countFloatingOn 39 = .ok (.goto (-35), 3) := by decide +kernel
theorem dX7_countFloatingOn_42 : decode cX7_countFloatingOn 42 = .ok (.iload_n 2, 1) := by decide +kernel
theorem dX7_countFloatingOn_43 : decode cX7_countFloatingOn 43 = .ok (.ireturn, 1) := by decide +kernel
theorem dX7_countCiting_0 : decode cX7_countCiting 0 = .ok (.iconst 0, 1) := by decide +kernel
theorem dX7_countCiting_1 : decode cX7_countCiting 1 = .ok (.istore_n 2, 1) := by decide +kernel
theorem dX7_countCiting_2 : decode cX7_countCiting 2 = .ok (.iconst 0, 1) := by decide +kernel
theorem dX7_countCiting_3 : decode cX7_countCiting 3 = .ok (.istore_n 3, 1) := by decide +kernel
theorem dX7_countCiting_4 : decode cX7_countCiting 4 = .ok (.iload_n 3, 1) := by decide +kernel
theorem dX7_countCiting_5 : decode cX7_countCiting 5 = .ok (.aload_n 0, 1) := by decide +kernel
theorem dX7_countCiting_6 : decode cX7_countCiting 6 = .ok (.getfield 53, 3) := by decide +kernel
theorem dX7_countCiting_9 : decode cX7_countCiting 9 = .ok (.if_icmp .ge 25, 3) := by decide +kernel
theorem dX7_countCiting_12 : decode cX7_countCiting 12 = .ok (.aload_n 0, 1) := by decide +kernel
theorem dX7_countCiting_13 : decode cX7_countCiting 13 = .ok (.getfield 22, 3) := by decide +kernel
theorem dX7_countCiting_16 : decode cX7_countCiting 16 = .ok (.iload_n 3, 1) := by decide +kernel
theorem dX7_countCiting_17 : decode cX7_countCiting 17 = .ok (.iaload, 1) := by decide +kernel
theorem dX7_countCiting_18 : decode cX7_countCiting 18 = .ok (.iload_n 1, 1) := by decide +kernel
theorem dX7_countCiting_19 : decode cX7_countCiting 19 = .ok (.invokestatic 104, 3) := by decide +kernel
theorem dX7_countCiting_22 : decode cX7_countCiting 22 = .ok (.ifCond .eq 6, 3) := by decide +kernel
theorem dX7_countCiting_25 : decode cX7_countCiting 25 = .ok (.iinc 2 1, 3) := by decide +kernel
theorem dX7_countCiting_28 : decode cX7_countCiting 28 = .ok (.iinc 3 1, 3) := by decide +kernel
theorem dX7_countCiting_31 : decode cX7_countCiting 31 = .ok (.goto (-27), 3) := by decide +kernel
theorem dX7_countCiting_34 : decode cX7_countCiting 34 = .ok (.iload_n 2, 1) := by decide +kernel
theorem dX7_countCiting_35 : decode cX7_countCiting 35 = .ok (.ireturn, 1) := by decide +kernel
theorem dX7_countCitedFrom_0 : decode cX7_countCitedFrom 0 = .ok (.aload_n 0, 1) := by decide +kernel
theorem dX7_countCitedFrom_1 : decode cX7_countCitedFrom 1 = .ok (.getfield 22, 3) := by decide +kernel
theorem dX7_countCitedFrom_4 : decode cX7_countCitedFrom 4 = .ok (.iload_n 1, 1) := by decide +kernel
theorem dX7_countCitedFrom_5 : decode cX7_countCitedFrom 5 = .ok (.iaload, 1) := by decide +kernel
theorem dX7_countCitedFrom_6 : decode cX7_countCitedFrom 6 = .ok (.invokestatic 99, 3) := by decide +kernel
theorem dX7_countCitedFrom_9 : decode cX7_countCitedFrom 9 = .ok (.ireturn, 1) := by decide +kernel
theorem dX7_roomOn_0 : decode cX7_roomOn 0 = .ok (.aload_n 0, 1) := by decide +kernel
theorem dX7_roomOn_1 : decode cX7_roomOn 1 = .ok (.invokevirtual 87, 3) := by decide +kernel
theorem dX7_roomOn_4 : decode cX7_roomOn 4 = .ok (.iconst 2, 1) := by decide +kernel
theorem dX7_roomOn_5 : decode cX7_roomOn 5 = .ok (.if_icmp .ne 14, 3) := by decide +kernel
theorem dX7_roomOn_8 : decode cX7_roomOn 8 = .ok (.iconst 2, 1) := by decide +kernel
theorem dX7_roomOn_9 : decode cX7_roomOn 9 = .ok (.aload_n 0, 1) := by decide +kernel
theorem dX7_roomOn_10 : decode cX7_roomOn 10 = .ok (.getfield 28, 3) := by decide +kernel
theorem dX7_roomOn_13 : decode cX7_roomOn 13 = .ok (.iload_n 1, 1) := by decide +kernel
theorem dX7_roomOn_14 : decode cX7_roomOn 14 = .ok (.iaload, 1) := by decide +kernel
theorem dX7_roomOn_15 : decode cX7_roomOn 15 = .ok (.imul, 1) := by decide +kernel
theorem dX7_roomOn_16 : decode cX7_roomOn 16 = .ok (.goto 9, 3) := by decide +kernel
theorem dX7_roomOn_19 : decode cX7_roomOn 19 = .ok (.aload_n 0, 1) := by decide +kernel
theorem dX7_roomOn_20 : decode cX7_roomOn 20 = .ok (.getfield 28, 3) := by decide +kernel
theorem dX7_roomOn_23 : decode cX7_roomOn 23 = .ok (.iload_n 1, 1) := by decide +kernel
theorem dX7_roomOn_24 : decode cX7_roomOn 24 = .ok (.iaload, 1) := by decide +kernel
theorem dX7_roomOn_25 : decode cX7_roomOn 25 = .ok (.istore_n 2, 1) := by decide +kernel
theorem dX7_roomOn_26 : decode cX7_roomOn 26 = .ok (.iload_n 2, 1) := by decide +kernel
theorem dX7_roomOn_27 : decode cX7_roomOn 27 = .ok (.aload_n 0, 1) := by decide +kernel
theorem dX7_roomOn_28 : decode cX7_roomOn 28 = .ok (.getfield 31, 3) := by decide +kernel
theorem dX7_roomOn_31 : decode cX7_roomOn 31 = .ok (.iload_n 1, 1) := by decide +kernel
theorem dX7_roomOn_32 : decode cX7_roomOn 32 = .ok (.iaload, 1) := by decide +kernel
theorem dX7_roomOn_33 : decode cX7_roomOn 33 = .ok (.isub, 1) := by decide +kernel
theorem dX7_roomOn_34 : decode cX7_roomOn 34 = .ok (.iconst 0, 1) := by decide +kernel
theorem dX7_roomOn_35 : decode cX7_roomOn 35 = .ok (.invokestatic 108, 3) := by decide +kernel
theorem dX7_roomOn_38 : decode cX7_roomOn 38 = .ok (.ireturn, 1) := by decide +kernel
theorem dX7_isCovered_0 : decode cX7_isCovered 0 = .ok (.iload_n 2, 1) := by decide +kernel
theorem dX7_isCovered_1 : decode cX7_isCovered 1 = .ok (.aload_n 0, 1) := by decide +kernel
theorem dX7_isCovered_2 : decode cX7_isCovered 2 = .ok (.getfield 34, 3) := by decide +kernel
theorem dX7_isCovered_5 : decode cX7_isCovered 5 = .ok (.iload_n 1, 1) := by decide +kernel
theorem dX7_isCovered_6 : decode cX7_isCovered 6 = .ok (.iaload, 1) := by decide +kernel
theorem dX7_isCovered_7 : decode cX7_isCovered 7 = .ok (.isub, 1) := by decide +kernel
theorem dX7_isCovered_8 : decode cX7_isCovered 8 = .ok (.bipush 12, 2) := by decide +kernel
theorem dX7_isCovered_10 : decode cX7_isCovered 10 = .ok (.iadd, 1) := by decide +kernel
theorem dX7_isCovered_11 : decode cX7_isCovered 11 = .ok (.bipush 12, 2) := by decide +kernel
theorem dX7_isCovered_13 : decode cX7_isCovered 13 = .ok (.irem, 1) := by decide +kernel
theorem dX7_isCovered_14 : decode cX7_isCovered 14 = .ok (.aload_n 0, 1) := by decide +kernel
theorem dX7_isCovered_15 : decode cX7_isCovered 15 = .ok (.getfield 37, 3) := by decide +kernel
theorem dX7_isCovered_18 : decode cX7_isCovered 18 = .ok (.iload_n 1, 1) := by decide +kernel
theorem dX7_isCovered_19 : decode cX7_isCovered 19 = .ok (.iaload, 1) := by decide +kernel
theorem dX7_isCovered_20 : decode cX7_isCovered 20 = .ok (.if_icmp .ge 7, 3) := by decide +kernel
theorem dX7_isCovered_23 : decode cX7_isCovered 23 = .ok (.iconst 1, 1) := by decide +kernel
theorem dX7_isCovered_24 : decode cX7_isCovered 24 = .ok (.goto 4, 3) := by decide +kernel
theorem dX7_isCovered_27 : decode cX7_isCovered 27 = .ok (.iconst 0, 1) := by decide +kernel
theorem dX7_isCovered_28 : decode cX7_isCovered 28 = .ok (.ireturn, 1) := by decide +kernel
theorem dX7_catchOf_0 : decode cX7_catchOf 0 = .ok (.aload_n 0, 1) := by decide +kernel
theorem dX7_catchOf_1 : decode cX7_catchOf 1 = .ok (.iload_n 1, 1) := by decide +kernel
theorem dX7_catchOf_2 : decode cX7_catchOf 2 = .ok (.invokevirtual 111, 3) := by decide +kernel
theorem dX7_catchOf_5 : decode cX7_catchOf 5 = .ok (.istore_n 2, 1) := by decide +kernel
theorem dX7_catchOf_6 : decode cX7_catchOf 6 = .ok (.iconst 0, 1) := by decide +kernel
theorem dX7_catchOf_7 : decode cX7_catchOf 7 = .ok (.istore_n 3, 1) := by decide +kernel
theorem dX7_catchOf_8 : decode cX7_catchOf 8 = .ok (.iconst 0, 1) := by decide +kernel
theorem dX7_catchOf_9 : decode cX7_catchOf 9 = .ok (.istore 4, 2) := by decide +kernel
theorem dX7_catchOf_11 : decode cX7_catchOf 11 = .ok (.iload 4, 2) := by decide +kernel
theorem dX7_catchOf_13 : decode cX7_catchOf 13 = .ok (.aload_n 0, 1) := by decide +kernel
theorem dX7_catchOf_14 : decode cX7_catchOf 14 = .ok (.getfield 53, 3) := by decide +kernel
theorem dX7_catchOf_17 : decode cX7_catchOf 17 = .ok (.if_icmp .ge 42, 3) := by decide +kernel
theorem dX7_catchOf_20 : decode cX7_catchOf 20 = .ok (.iload_n 2, 1) := by decide +kernel
theorem dX7_catchOf_21 : decode cX7_catchOf 21 = .ok (.iload 4, 2) := by decide +kernel
theorem dX7_catchOf_23 : decode cX7_catchOf 23 = .ok (.invokestatic 104, 3) := by decide +kernel
theorem dX7_catchOf_26 : decode cX7_catchOf 26 = .ok (.ifCond .eq 27, 3) := by decide +kernel
theorem dX7_catchOf_29 : decode cX7_catchOf 29 = .ok (.aload_n 0, 1) := by decide +kernel
theorem dX7_catchOf_30 : decode cX7_catchOf 30 = .ok (.getfield 15, 3) := by decide +kernel
theorem dX7_catchOf_33 : decode cX7_catchOf 33 = .ok (.iload 4, 2) := by decide +kernel
theorem dX7_catchOf_35 : decode cX7_catchOf 35 = .ok (.iaload, 1) := by decide +kernel
theorem dX7_catchOf_36 : decode cX7_catchOf 36 = .ok (.aload_n 0, 1) := by decide +kernel
theorem dX7_catchOf_37 : decode cX7_catchOf 37 = .ok (.getfield 40, 3) := by decide +kernel
theorem dX7_catchOf_40 : decode cX7_catchOf 40 = .ok (.iload_n 1, 1) := by decide +kernel
theorem dX7_catchOf_41 : decode cX7_catchOf 41 = .ok (.iaload, 1) := by decide +kernel
theorem dX7_catchOf_42 : decode cX7_catchOf 42 = .ok (.if_icmp .lt 11, 3) := by decide +kernel
theorem dX7_catchOf_45 : decode cX7_catchOf 45 = .ok (.iload_n 3, 1) := by decide +kernel
theorem dX7_catchOf_46 : decode cX7_catchOf 46 = .ok (.iload 4, 2) := by decide +kernel
theorem dX7_catchOf_48 : decode cX7_catchOf 48 = .ok (.invokestatic 91, 3) := by decide +kernel
theorem dX7_catchOf_51 : decode cX7_catchOf 51 = .ok (.ior, 1) := by decide +kernel
theorem dX7_catchOf_52 : decode cX7_catchOf 52 = .ok (.istore_n 3, 1) := by decide +kernel
theorem dX7_catchOf_53 : decode cX7_catchOf 53 = .ok (.iinc 4 1, 3) := by decide +kernel
theorem dX7_catchOf_56 : decode cX7_catchOf 56 = .ok (.goto (-45), 3) := by decide +kernel
theorem dX7_catchOf_59 : decode cX7_catchOf 59 = .ok (.iconst 0, 1) := by decide +kernel
theorem dX7_catchOf_60 : decode cX7_catchOf 60 = .ok (.istore 4, 2) := by decide +kernel
theorem dX7_catchOf_62 : decode cX7_catchOf 62 = .ok (.iload 4, 2) := by decide +kernel
theorem dX7_catchOf_64 : decode cX7_catchOf 64 = .ok (.aload_n 0, 1) := by decide +kernel
theorem dX7_catchOf_65 : decode cX7_catchOf 65 = .ok (.getfield 53, 3) := by decide +kernel
theorem dX7_catchOf_68 : decode cX7_catchOf 68 = .ok (.if_icmp .ge 19, 3) := by decide +kernel
theorem dX7_catchOf_71 : decode cX7_catchOf 71 = .ok (.iload_n 3, 1) := by decide +kernel
theorem dX7_catchOf_72 : decode cX7_catchOf 72 = .ok (.aload_n 0, 1) := by decide +kernel
theorem dX7_catchOf_73 : decode cX7_catchOf 73 = .ok (.iload_n 3, 1) := by decide +kernel
theorem dX7_catchOf_74 : decode cX7_catchOf 74 = .ok (.invokevirtual 114, 3) := by decide +kernel
theorem dX7_catchOf_77 : decode cX7_catchOf 77 = .ok (.iload_n 2, 1) := by decide +kernel
theorem dX7_catchOf_78 : decode cX7_catchOf 78 = .ok (.iand, 1) := by decide +kernel
theorem dX7_catchOf_79 : decode cX7_catchOf 79 = .ok (.ior, 1) := by decide +kernel
theorem dX7_catchOf_80 : decode cX7_catchOf 80 = .ok (.istore_n 3, 1) := by decide +kernel
theorem dX7_catchOf_81 : decode cX7_catchOf 81 = .ok (.iinc 4 1, 3) := by decide +kernel
theorem dX7_catchOf_84 : decode cX7_catchOf 84 = .ok (.goto (-22), 3) := by decide +kernel
theorem dX7_catchOf_87 : decode cX7_catchOf 87 = .ok (.iload_n 3, 1) := by decide +kernel
theorem dX7_catchOf_88 : decode cX7_catchOf 88 = .ok (.ireturn, 1) := by decide +kernel
theorem dX7_floatingWithin_0 : decode cX7_floatingWithin 0 = .ok (.iconst 0, 1) := by decide +kernel
theorem dX7_floatingWithin_1 : decode cX7_floatingWithin 1 = .ok (.istore_n 2, 1) := by decide +kernel
theorem dX7_floatingWithin_2 : decode cX7_floatingWithin 2 = .ok (.iconst 0, 1) := by decide +kernel
theorem dX7_floatingWithin_3 : decode cX7_floatingWithin 3 = .ok (.istore_n 3, 1) := by decide +kernel
theorem dX7_floatingWithin_4 : decode cX7_floatingWithin 4 = .ok (.iload_n 3, 1) := by decide +kernel
theorem dX7_floatingWithin_5 : decode cX7_floatingWithin 5 = .ok (.aload_n 0, 1) := by decide +kernel
theorem dX7_floatingWithin_6 : decode cX7_floatingWithin 6 = .ok (.getfield 53, 3) := by decide +kernel
theorem dX7_floatingWithin_9 : decode cX7_floatingWithin 9 = .ok (.if_icmp .ge 41, 3) := by decide +kernel
theorem dX7_floatingWithin_12 : decode cX7_floatingWithin 12 = .ok (.aload_n 0, 1) := by decide +kernel
theorem dX7_floatingWithin_13 : decode cX7_floatingWithin 13 = .ok (.getfield 18, 3) := by decide +kernel
theorem dX7_floatingWithin_16 : decode cX7_floatingWithin 16 = .ok (.iload_n 3, 1) := by decide +kernel
theorem dX7_floatingWithin_17 : decode cX7_floatingWithin 17 = .ok (.caload, 1) := by decide +kernel
theorem dX7_floatingWithin_18 : decode cX7_floatingWithin 18 = .ok (.bipush 102, 2) := by decide +kernel
theorem dX7_floatingWithin_20 : decode cX7_floatingWithin 20 = .ok (.if_icmp .ne 24, 3) := by decide +kernel
theorem dX7_floatingWithin_23 : decode cX7_floatingWithin 23 = .ok (.aload_n 0, 1) := by decide +kernel
theorem dX7_floatingWithin_24 : decode cX7_floatingWithin 24 = .ok (.iload_n 1, 1) := by decide +kernel
theorem dX7_floatingWithin_25 : decode cX7_floatingWithin 25 = .ok (.aload_n 0, 1) := by decide +kernel
theorem dX7_floatingWithin_26 : decode cX7_floatingWithin 26 = .ok (.getfield 9, 3) := by decide +kernel
theorem dX7_floatingWithin_29 : decode cX7_floatingWithin 29 = .ok (.iload_n 3, 1) := by decide +kernel
theorem dX7_floatingWithin_30 : decode cX7_floatingWithin 30 = .ok (.iaload, 1) := by decide +kernel
theorem dX7_floatingWithin_31 : decode cX7_floatingWithin 31 = .ok (.invokevirtual 117, 3) := by decide +kernel
theorem dX7_floatingWithin_34 : decode cX7_floatingWithin 34 = .ok (.ifCond .eq 10, 3) := by decide +kernel
theorem dX7_floatingWithin_37 : decode cX7_floatingWithin 37 = .ok (.iload_n 2, 1) := by decide +kernel
theorem dX7_floatingWithin_38 : decode cX7_floatingWithin 38 = .ok (.iload_n 3, 1) := by decide +kernel
theorem dX7_floatingWithin_39 : decode cX7_floatingWithin 39 = .ok (.invokestatic 91, 3) := by decide +kernel
theorem dX7_floatingWithin_42 : decode cX7_floatingWithin 42 = .ok (.ior, 1) := by decide +kernel
theorem dX7_floatingWithin_43 : decode cX7_floatingWithin 43 = .ok (.istore_n 2, 1) := by decide +kernel
theorem dX7_floatingWithin_44 : decode cX7_floatingWithin 44 = .ok (.iinc 3 1, 3) := by decide +kernel
theorem dX7_floatingWithin_47 : decode cX7_floatingWithin 47 = .ok (.goto (-43), 3) := by decide +kernel
theorem dX7_floatingWithin_50 : decode cX7_floatingWithin 50 = .ok (.iload_n 2, 1) := by decide +kernel
theorem dX7_floatingWithin_51 : decode cX7_floatingWithin 51 = .ok (.ireturn, 1) := by decide +kernel
theorem dX7_citedFromSet_0 : decode cX7_citedFromSet 0 = .ok (.iconst 0, 1) := by decide +kernel
theorem dX7_citedFromSet_1 : decode cX7_citedFromSet 1 = .ok (.istore_n 2, 1) := by decide +kernel
theorem dX7_citedFromSet_2 : decode cX7_citedFromSet 2 = .ok (.iconst 0, 1) := by decide +kernel
theorem dX7_citedFromSet_3 : decode cX7_citedFromSet 3 = .ok (.istore_n 3, 1) := by decide +kernel
theorem dX7_citedFromSet_4 : decode cX7_citedFromSet 4 = .ok (.iload_n 3, 1) := by decide +kernel
theorem dX7_citedFromSet_5 : decode cX7_citedFromSet 5 = .ok (.aload_n 0, 1) := by decide +kernel
theorem dX7_citedFromSet_6 : decode cX7_citedFromSet 6 = .ok (.getfield 53, 3) := by decide +kernel
theorem dX7_citedFromSet_9 : decode cX7_citedFromSet 9 = .ok (.if_icmp .ge 26, 3) := by decide +kernel
theorem dX7_citedFromSet_12 : decode cX7_citedFromSet 12 = .ok (.iload_n 1, 1) := by decide +kernel
theorem dX7_citedFromSet_13 : decode cX7_citedFromSet 13 = .ok (.iload_n 3, 1) := by decide +kernel
theorem dX7_citedFromSet_14 : decode cX7_citedFromSet 14 = .ok (.invokestatic 104, 3) := by decide +kernel
theorem dX7_citedFromSet_17 : decode cX7_citedFromSet 17 = .ok (.ifCond .eq 12, 3) := by decide +kernel
theorem dX7_citedFromSet_20 : decode cX7_citedFromSet 20 = .ok (.iload_n 2, 1) := by decide +kernel
theorem dX7_citedFromSet_21 : decode cX7_citedFromSet 21 = .ok (.aload_n 0, 1) := by decide +kernel
theorem dX7_citedFromSet_22 : decode cX7_citedFromSet 22 = .ok (.getfield 22, 3) := by decide +kernel
theorem dX7_citedFromSet_25 : decode cX7_citedFromSet 25 = .ok (.iload_n 3, 1) := by decide +kernel
theorem dX7_citedFromSet_26 : decode cX7_citedFromSet 26 = .ok (.iaload, 1) := by decide +kernel
theorem dX7_citedFromSet_27 : decode cX7_citedFromSet 27 = .ok (.ior, 1) := by decide +kernel
theorem dX7_citedFromSet_28 : decode cX7_citedFromSet 28 = .ok (.istore_n 2, 1) := by decide +kernel
theorem dX7_citedFromSet_29 : decode cX7_citedFromSet 29 = .ok (.iinc 3 1, 3) := by decide +kernel
theorem dX7_citedFromSet_32 : decode cX7_citedFromSet 32 = .ok (.goto (-28), 3) := by decide +kernel
theorem dX7_citedFromSet_35 : decode cX7_citedFromSet 35 = .ok (.iload_n 2, 1) := by decide +kernel
theorem dX7_citedFromSet_36 : decode cX7_citedFromSet 36 = .ok (.ireturn, 1) := by decide +kernel
theorem dX7_heaviestNet_0 : decode cX7_heaviestNet 0 = .ok (.iconst (-1), 1) := by decide +kernel
theorem dX7_heaviestNet_1 : decode cX7_heaviestNet 1 = .ok (.istore_n 1, 1) := by decide +kernel
theorem dX7_heaviestNet_2 : decode cX7_heaviestNet 2 = .ok (.iconst 0, 1) := by decide +kernel
theorem dX7_heaviestNet_3 : decode cX7_heaviestNet 3 = .ok (.istore_n 2, 1) := by decide +kernel
theorem dX7_heaviestNet_4 : decode cX7_heaviestNet 4 = .ok (.iconst 0, 1) := by decide +kernel
theorem dX7_heaviestNet_5 : decode cX7_heaviestNet 5 = .ok (.istore_n 3, 1) := by decide +kernel
theorem dX7_heaviestNet_6 : decode cX7_heaviestNet 6 = .ok (.iload_n 3, 1) := by decide +kernel
theorem dX7_heaviestNet_7 : decode cX7_heaviestNet 7 = .ok (.aload_n 0, 1) := by decide +kernel
theorem dX7_heaviestNet_8 : decode cX7_heaviestNet 8 = .ok (.getfield 62, 3) := by decide +kernel
theorem dX7_heaviestNet_11 : decode cX7_heaviestNet 11 = .ok (.if_icmp .ge 31, 3) := by decide +kernel
theorem dX7_heaviestNet_14 : decode cX7_heaviestNet 14 = .ok (.aload_n 0, 1) := by decide +kernel
theorem dX7_heaviestNet_15 : decode cX7_heaviestNet 15 = .ok (.aload_n 0, 1) := by decide +kernel
theorem dX7_heaviestNet_16 : decode cX7_heaviestNet 16 = .ok (.iload_n 3, 1) := by decide +kernel
theorem dX7_heaviestNet_17 : decode cX7_heaviestNet 17 = .ok (.invokevirtual 120, 3) := by decide +kernel
theorem dX7_heaviestNet_20 : decode cX7_heaviestNet 20 = .ok (.invokevirtual 123, 3) := by decide +kernel
theorem dX7_heaviestNet_23 : decode cX7_heaviestNet 23 = .ok (.istore 4, 2) := by decide +kernel
theorem dX7_heaviestNet_25 : decode cX7_heaviestNet 25 = .ok (.iload 4, 2) := by decide +kernel
theorem dX7_heaviestNet_27 : decode cX7_heaviestNet 27 = .ok (.iload_n 2, 1) := by decide +kernel
theorem dX7_heaviestNet_28 : decode cX7_heaviestNet 28 = .ok (.if_icmp .le 8, 3) := by decide +kernel
theorem dX7_heaviestNet_31 : decode cX7_heaviestNet 31 = .ok (.iload 4, 2) := by decide +kernel
theorem dX7_heaviestNet_33 : decode cX7_heaviestNet 33 = .ok (.istore_n 2, 1) := by decide +kernel
theorem dX7_heaviestNet_34 : decode cX7_heaviestNet 34 = .ok (.iload_n 3, 1) := by decide +kernel
theorem dX7_heaviestNet_35 : decode cX7_heaviestNet 35 = .ok (.istore_n 1, 1) := by decide +kernel
theorem dX7_heaviestNet_36 : decode cX7_heaviestNet 36 = .ok (.iinc 3 1, 3) := by decide +kernel
theorem dX7_heaviestNet_39 : decode cX7_heaviestNet 39 = .ok (.goto (-33), 3) := by decide +kernel
theorem dX7_heaviestNet_42 : decode cX7_heaviestNet 42 = .ok (.iload_n 1, 1) := by decide +kernel
theorem dX7_heaviestNet_43 : decode cX7_heaviestNet 43 = .ok (.ireturn, 1) := by decide +kernel
theorem dX8_init_0 : decode cX8_init 0 = .ok (.aload_n 0, 1) := by decide +kernel
theorem dX8_init_1 : decode cX8_init 1 = .ok (.invokespecial 3, 3) := by decide +kernel
theorem dX8_init_4 : decode cX8_init 4 = .ok (.aload_n 0, 1) := by decide +kernel
theorem dX8_init_5 : decode cX8_init 5 = .ok (.bipush 60, 2) := by decide +kernel
theorem dX8_init_7 : decode cX8_init 7 = .ok (.newarray .char, 2) := by decide +kernel
theorem dX8_init_9 : decode cX8_init 9 = .ok (.putfield 9, 3) := by decide +kernel
theorem dX8_init_12 : decode cX8_init 12 = .ok (.aload_n 0, 1) := by decide +kernel
theorem dX8_init_13 : decode cX8_init 13 = .ok (.iconst (-1), 1) := by decide +kernel
theorem dX8_init_14 : decode cX8_init 14 = .ok (.putfield 15, 3) := by decide +kernel
theorem dX8_init_17 : decode cX8_init 17 = .ok (.aload_n 0, 1) := by decide +kernel
theorem dX8_init_18 : decode cX8_init 18 = .ok (.bipush 15, 2) := by decide +kernel
theorem dX8_init_20 : decode cX8_init 20 = .ok (.newarray .int, 2) := by decide +kernel
theorem dX8_init_22 : decode cX8_init 22 = .ok (.putfield 19, 3) := by decide +kernel
theorem dX8_init_25 : decode cX8_init 25 = .ok (.aload_n 0, 1) := by decide +kernel
theorem dX8_init_26 : decode cX8_init 26 = .ok (.bipush 15, 2) := by decide +kernel
theorem dX8_init_28 : decode cX8_init 28 = .ok (.newarray .int, 2) := by decide +kernel
theorem dX8_init_30 : decode cX8_init 30 = .ok (.putfield 23, 3) := by decide +kernel
theorem dX8_init_33 : decode cX8_init 33 = .ok (.aload_n 0, 1) := by decide +kernel
theorem dX8_init_34 : decode cX8_init 34 = .ok (.bipush 15, 2) := by decide +kernel
theorem dX8_init_36 : decode cX8_init 36 = .ok (.newarray .int, 2) := by decide +kernel
theorem dX8_init_38 : decode cX8_init 38 = .ok (.putfield 26, 3) := by decide +kernel
theorem dX8_init_41 : decode cX8_init 41 = .ok (.aload_n 0, 1) := by decide +kernel
theorem dX8_init_42 : decode cX8_init 42 = .ok (.bipush 15, 2) := by decide +kernel
theorem dX8_init_44 : decode cX8_init 44 = .ok (.newarray .int, 2) := by decide +kernel
theorem dX8_init_46 : decode cX8_init 46 = .ok (.putfield 29, 3) := by decide +kernel
theorem dX8_init_49 : decode cX8_init 49 = .ok (.aload_n 0, 1) := by decide +kernel
theorem dX8_init_50 : decode cX8_init 50 = .ok (.iconst 3, 1) := by decide +kernel
theorem dX8_init_51 : decode cX8_init 51 = .ok (.newarray .int, 2) := by decide +kernel
theorem dX8_init_53 : decode cX8_init 53 = .ok (.putfield 32, 3) := by decide +kernel
theorem dX8_init_56 : decode cX8_init 56 = .ok (.return_, 1) := by decide +kernel
theorem dX8_isFull_0 : decode cX8_isFull 0 = .ok (.aload_n 0, 1) := by decide +kernel
theorem dX8_isFull_1 : decode cX8_isFull 1 = .ok (.getfield 35, 3) := by decide +kernel
theorem dX8_isFull_4 : decode cX8_isFull 4 = .ok (.bipush 60, 2) := by decide +kernel
theorem dX8_isFull_6 : decode cX8_isFull 6 = .ok (.if_icmp .lt 7, 3) := by decide +kernel
theorem dX8_isFull_9 : decode cX8_isFull 9 = .ok (.iconst 1, 1) := by decide +kernel
theorem dX8_isFull_10 : decode cX8_isFull 10 = .ok (.goto 4, 3) := by decide +kernel
theorem dX8_isFull_13 : decode cX8_isFull 13 = .ok (.iconst 0, 1) := by decide +kernel
theorem dX8_isFull_14 : decode cX8_isFull 14 = .ok (.ireturn, 1) := by decide +kernel
theorem dX8_append_0 : decode cX8_append 0 = .ok (.aload_n 0, 1) := by decide +kernel
theorem dX8_append_1 : decode cX8_append 1 = .ok (.invokevirtual 38, 3) := by decide +kernel
theorem dX8_append_4 : decode cX8_append 4 = .ok (.ifCond .ne 23, 3) := by decide +kernel
theorem dX8_append_7 : decode cX8_append 7 = .ok (.aload_n 0, 1) := by decide +kernel
theorem dX8_append_8 : decode cX8_append 8 = .ok (.getfield 9, 3) := by decide +kernel
theorem dX8_append_11 : decode cX8_append 11 = .ok (.aload_n 0, 1) := by decide +kernel
theorem dX8_append_12 : decode cX8_append 12 = .ok (.getfield 35, 3) := by decide +kernel
theorem dX8_append_15 : decode cX8_append 15 = .ok (.iload_n 1, 1) := by decide +kernel
theorem dX8_append_16 : decode cX8_append 16 = .ok (.castore, 1) := by decide +kernel
theorem dX8_append_17 : decode cX8_append 17 = .ok (.aload_n 0, 1) := by decide +kernel
theorem dX8_append_18 : decode cX8_append 18 = .ok (.dup, 1) := by decide +kernel
theorem dX8_append_19 : decode cX8_append 19 = .ok (.getfield 35, 3) := by decide +kernel
theorem dX8_append_22 : decode cX8_append 22 = .ok (.iconst 1, 1) := by decide +kernel
theorem dX8_append_23 : decode cX8_append 23 = .ok (.iadd, 1) := by decide +kernel
theorem dX8_append_24 : decode cX8_append 24 = .ok (.putfield 35, 3) := by decide +kernel
theorem dX8_append_27 : decode cX8_append 27 = .ok (.return_, 1) := by decide +kernel
theorem dX8_empty_0 : decode cX8_empty 0 = .ok (.aload_n 0, 1) := by decide +kernel
theorem dX8_empty_1 : decode cX8_empty 1 = .ok (.iconst 0, 1) := by decide +kernel
theorem dX8_empty_2 : decode cX8_empty 2 = .ok (.putfield 35, 3) := by decide +kernel
theorem dX8_empty_5 : decode cX8_empty 5 = .ok (.return_, 1) := by decide +kernel
theorem dX8_parse_0 : decode cX8_parse 0 = .ok (.aload_n 0, 1) := by decide +kernel
theorem dX8_parse_1 : decode cX8_parse 1 = .ok (.iconst 0, 1) := by decide +kernel
theorem dX8_parse_2 : decode cX8_parse 2 = .ok (.putfield 42, 3) := by decide +kernel
theorem dX8_parse_5 : decode cX8_parse 5 = .ok (.iconst 0, 1) := by decide +kernel
theorem dX8_parse_6 : decode cX8_parse 6 = .ok (.istore_n 1, 1) := by decide +kernel
theorem dX8_parse_7 : decode cX8_parse 7 = .ok (.iconst 0, 1) := by decide +kernel
theorem dX8_parse_8 : decode cX8_parse 8 = .ok (.istore_n 2, 1) := by decide +kernel
theorem dX8_parse_9 : decode cX8_parse 9 = .ok (.iload_n 2, 1) := by decide +kernel
theorem dX8_parse_10 : decode cX8_parse 10 = .ok (.bipush 15, 2) := by decide +kernel
theorem dX8_parse_12 : decode cX8_parse 12 = .ok (.if_icmp .ge 63, 3) := by decide +kernel
theorem dX8_parse_15 : decode cX8_parse 15 = .ok (.aload_n 0, 1) := by decide +kernel
theorem dX8_parse_16 : decode cX8_parse 16 = .ok (.iload_n 1, 1) := by decide +kernel
theorem dX8_parse_17 : decode cX8_parse 17 = .ok (.invokevirtual 45, 3) := by decide +kernel
theorem dX8_parse_20 : decode cX8_parse 20 = .ok (.ifCond .ne 5, 3) := by decide +kernel
theorem dX8_parse_23 : decode cX8_parse 23 = .ok (.iconst 0, 1) := by decide +kernel
theorem dX8_parse_24 : decode cX8_parse 24 = .ok (.ireturn, 1) := by decide +kernel
theorem dX8_parse_25 : decode cX8_parse 25 = .ok (.aload_n 0, 1) := by decide +kernel
theorem dX8_parse_26 : decode cX8_parse 26 = .ok (.getfield 49, 3) := by decide +kernel
theorem dX8_parse_29 : decode cX8_parse 29 = .ok (.aload_n 0, 1) := by decide +kernel
theorem dX8_parse_30 : decode cX8_parse 30 = .ok (.getfield 35, 3) := by decide +kernel
theorem dX8_parse_33 : decode cX8_parse 33 = .ok (.if_icmp .ne 5, 3) := by decide +kernel
theorem dX8_parse_36 : decode cX8_parse 36 = .ok (.iconst 1, 1) := by decide +kernel
theorem dX8_parse_37 : decode cX8_parse 37 = .ok (.ireturn, 1) := by decide +kernel
theorem dX8_parse_38 : decode cX8_parse 38 = .ok (.aload_n 0, 1) := by decide +kernel
theorem dX8_parse_39 : decode cX8_parse 39 = .ok (.getfield 9, 3) := by decide +kernel
theorem dX8_parse_42 : decode cX8_parse 42 = .ok (.aload_n 0, 1) := by decide +kernel
theorem dX8_parse_43 : decode cX8_parse 43 = .ok (.getfield 49, 3) := by decide +kernel
theorem dX8_parse_46 : decode cX8_parse 46 = .ok (.caload, 1) := by decide +kernel
theorem dX8_parse_47 : decode cX8_parse 47 = .ok (.bipush 59, 2) := by decide +kernel
theorem dX8_parse_49 : decode cX8_parse 49 = .ok (.if_icmp .eq 13, 3) := by decide +kernel
theorem dX8_parse_52 : decode cX8_parse 52 = .ok (.aload_n 0, 1) := by decide +kernel
theorem dX8_parse_53 : decode cX8_parse 53 = .ok (.aload_n 0, 1) := by decide +kernel
theorem dX8_parse_54 : decode cX8_parse 54 = .ok (.getfield 49, 3) := by decide +kernel
theorem dX8_parse_57 : decode cX8_parse 57 = .ok (.putfield 15, 3) := by decide +kernel
theorem dX8_parse_60 : decode cX8_parse 60 = .ok (.iconst 0, 1) := by decide +kernel
theorem dX8_parse_61 : decode cX8_parse 61 = .ok (.ireturn, 1) := by decide +kernel
theorem dX8_parse_62 : decode cX8_parse 62 = .ok (.aload_n 0, 1) := by decide +kernel
theorem dX8_parse_63 : decode cX8_parse 63 = .ok (.getfield 49, 3) := by decide +kernel
theorem dX8_parse_66 : decode cX8_parse 66 = .ok (.iconst 1, 1) := by decide +kernel
theorem dX8_parse_67 : decode cX8_parse 67 = .ok (.iadd, 1) := by decide +kernel
theorem dX8_parse_68 : decode cX8_parse 68 = .ok (.istore_n 1, 1) := by decide +kernel
theorem dX8_parse_69 : decode cX8_parse 69 = .ok (.iinc 2 1, 3) := by decide +kernel
theorem dX8_parse_72 : decode cX8_parse 72 = .ok (.goto (-63), 3) := by decide +kernel
theorem dX8_parse_75 : decode cX8_parse 75 = .ok (.aload_n 0, 1) := by decide +kernel
theorem dX8_parse_76 : decode cX8_parse 76 = .ok (.aload_n 0, 1) := by decide +kernel
theorem dX8_parse_77 : decode cX8_parse 77 = .ok (.getfield 35, 3) := by decide +kernel
theorem dX8_parse_80 : decode cX8_parse 80 = .ok (.putfield 15, 3) := by decide +kernel
theorem dX8_parse_83 : decode cX8_parse 83 = .ok (.iconst 0, 1) := by decide +kernel
theorem dX8_parse_84 : decode cX8_parse 84 = .ok (.ireturn, 1) := by decide +kernel
theorem dX8_parseCommand_0 : decode cX8_parseCommand 0 = .ok (.iload_n 1, 1) := by decide +kernel
theorem dX8_parseCommand_1 : decode cX8_parseCommand 1 = .ok (.istore_n 2, 1) := by decide +kernel
theorem dX8_parseCommand_2 : decode cX8_parseCommand 2 = .ok (.iconst 0, 1) := by decide +kernel
theorem dX8_parseCommand_3 : decode cX8_parseCommand 3 = .ok (.istore_n 3, 1) := by decide +kernel
theorem dX8_parseCommand_4 : decode cX8_parseCommand 4 = .ok (.iload_n 3, 1) := by decide +kernel
theorem dX8_parseCommand_5 : decode cX8_parseCommand 5 = .ok (.bipush 12, 2) := by decide +kernel
theorem dX8_parseCommand_7 : decode cX8_parseCommand 7 = .ok (.if_icmp .ge 37, 3) := by decide +kernel
theorem dX8_parseCommand_10 : decode cX8_parseCommand 10 = .ok (.aload_n 0, 1) := by decide +kernel
theorem dX8_parseCommand_11 : decode cX8_parseCommand 11 = .ok (.iload_n 3, 1) := by decide +kernel
theorem dX8_parseCommand_12 : decode cX8_parseCommand 12 = .ok (.invokestatic 52, 3) := by decide +kernel
theorem dX8_parseCommand_15 : decode cX8_parseCommand 15 = .ok (.iload_n 1, 1) := by decide +kernel
theorem dX8_parseCommand_16 : decode cX8_parseCommand 16 = .ok (.invokevirtual 56, 3) := by decide +kernel
theorem dX8_parseCommand_19 : decode cX8_parseCommand 19 = .ok (.ifCond .eq 10, 3) := by decide +kernel
theorem dX8_parseCommand_22 : decode cX8_parseCommand 22 = .ok (.aload_n 0, 1) := by decide +kernel
theorem dX8_parseCommand_23 : decode cX8_parseCommand 23 = .ok (.iload_n 3, 1) := by decide +kernel
theorem dX8_parseCommand_24 : decode cX8_parseCommand 24 = .ok (.invokevirtual 60, 3) := by decide +kernel
theorem dX8_parseCommand_27 : decode cX8_parseCommand 27 = .ok (.iconst 1, 1) := by decide +kernel
theorem dX8_parseCommand_28 : decode cX8_parseCommand 28 = .ok (.ireturn, 1) := by decide +kernel
theorem dX8_parseCommand_29 : decode cX8_parseCommand 29 = .ok (.iload_n 2, 1) := by decide +kernel
theorem dX8_parseCommand_30 : decode cX8_parseCommand 30 = .ok (.aload_n 0, 1) := by decide +kernel
theorem dX8_parseCommand_31 : decode cX8_parseCommand 31 = .ok (.getfield 49, 3) := by decide +kernel
theorem dX8_parseCommand_34 : decode cX8_parseCommand 34 = .ok (.invokestatic 64, 3) := by decide +kernel
theorem dX8_parseCommand_37 : decode cX8_parseCommand 37 = .ok (.istore_n 2, 1) := by decide +kernel
theorem dX8_parseCommand_38 : decode cX8_parseCommand 38 = .ok (.iinc 3 1, 3) := by decide +kernel
theorem dX8_parseCommand_41 : decode cX8_parseCommand 41 = .ok (.goto (-37), 3) := by decide +kernel
theorem dX8_parseCommand_44 : decode cX8_parseCommand 44 = .ok (.aload_n 0, 1) := by decide +kernel
theorem dX8_parseCommand_45 : decode cX8_parseCommand 45 = .ok (.iload_n 2, 1) := by decide +kernel
theorem dX8_parseCommand_46 : decode cX8_parseCommand 46 = .ok (.putfield 15, 3) := by decide +kernel
theorem dX8_parseCommand_49 : decode cX8_parseCommand 49 = .ok (.iconst 0, 1) := by decide +kernel
theorem dX8_parseCommand_50 : decode cX8_parseCommand 50 = .ok (.ireturn, 1) := by decide +kernel
theorem dX8_templateOf_0 : decode cX8_templateOf 0 = .ok (.iload_n 0, 1) := by decide +kernel
theorem dX8_templateOf_1 : decode cX8_templateOf 1 = .ok (.tableswitch 92 0 10 #[59, 62, 65, 68, 71, 74, 77, 80, 83, 86, 89], 59) := by decide +kernel
theorem dX8_templateOf_60 : decode cX8_templateOf 60 = .ok (.ldc 70, 2) := by decide +kernel
theorem dX8_templateOf_62 : decode cX8_templateOf 62 = .ok (.areturn, 1) := by decide +kernel
theorem dX8_templateOf_63 : decode cX8_templateOf 63 = .ok (.ldc 72, 2) := by decide +kernel
theorem dX8_templateOf_65 : decode cX8_templateOf 65 = .ok (.areturn, 1) := by decide +kernel
theorem dX8_templateOf_66 : decode cX8_templateOf 66 = .ok (.ldc 74, 2) := by decide +kernel
theorem dX8_templateOf_68 : decode cX8_templateOf 68 = .ok (.areturn, 1) := by decide +kernel
theorem dX8_templateOf_69 : decode cX8_templateOf 69 = .ok (.ldc 76, 2) := by decide +kernel
theorem dX8_templateOf_71 : decode cX8_templateOf 71 = .ok (.areturn, 1) := by decide +kernel
theorem dX8_templateOf_72 : decode cX8_templateOf 72 = .ok (.ldc 78, 2) := by decide +kernel
theorem dX8_templateOf_74 : decode cX8_templateOf 74 = .ok (.areturn, 1) := by decide +kernel
theorem dX8_templateOf_75 : decode cX8_templateOf 75 = .ok (.ldc 80, 2) := by decide +kernel
theorem dX8_templateOf_77 : decode cX8_templateOf 77 = .ok (.areturn, 1) := by decide +kernel
theorem dX8_templateOf_78 : decode cX8_templateOf 78 = .ok (.ldc 82, 2) := by decide +kernel
theorem dX8_templateOf_80 : decode cX8_templateOf 80 = .ok (.areturn, 1) := by decide +kernel
theorem dX8_templateOf_81 : decode cX8_templateOf 81 = .ok (.ldc 84, 2) := by decide +kernel
theorem dX8_templateOf_83 : decode cX8_templateOf 83 = .ok (.areturn, 1) := by decide +kernel
theorem dX8_templateOf_84 : decode cX8_templateOf 84 = .ok (.ldc 86, 2) := by decide +kernel
theorem dX8_templateOf_86 : decode cX8_templateOf 86 = .ok (.areturn, 1) := by decide +kernel
theorem dX8_templateOf_87 : decode cX8_templateOf 87 = .ok (.ldc 88, 2) := by decide +kernel
theorem dX8_templateOf_89 : decode cX8_templateOf 89 = .ok (.areturn, 1) := by decide +kernel
theorem dX8_templateOf_90 : decode cX8_templateOf 90 = .ok (.ldc 90, 2) := by decide +kernel
theorem dX8_templateOf_92 : decode cX8_templateOf 92 = .ok (.areturn, 1) := by decide +kernel
theorem dX8_templateOf_93 : decode cX8_templateOf 93 = .ok (.ldc 92, 2) := by decide +kernel
theorem dX8_templateOf_95 : decode cX8_templateOf 95 = .ok (.areturn, 1) := by decide +kernel
theorem dX8_addCommand_0 : decode cX8_addCommand 0 = .ok (.aload_n 0, 1) := by decide +kernel
theorem dX8_addCommand_1 : decode cX8_addCommand 1 = .ok (.getfield 42, 3) := by decide +kernel
theorem dX8_addCommand_4 : decode cX8_addCommand 4 = .ok (.bipush 15, 2) := by decide +kernel
theorem dX8_addCommand_6 : decode cX8_addCommand 6 = .ok (.if_icmp .ge 68, 3) := by decide +kernel
theorem dX8_addCommand_9 : decode cX8_addCommand 9 = .ok (.aload_n 0, 1) := by decide +kernel
theorem dX8_addCommand_10 : decode cX8_addCommand 10 = .ok (.getfield 19, 3) := by decide +kernel
theorem dX8_addCommand_13 : decode cX8_addCommand 13 = .ok (.aload_n 0, 1) := by decide +kernel
theorem dX8_addCommand_14 : decode cX8_addCommand 14 = .ok (.getfield 42, 3) := by decide +kernel
theorem dX8_addCommand_17 : decode cX8_addCommand 17 = .ok (.iload_n 1, 1) := by decide +kernel
theorem dX8_addCommand_18 : decode cX8_addCommand 18 = .ok (.iastore, 1) := by decide +kernel
theorem dX8_addCommand_19 : decode cX8_addCommand 19 = .ok (.aload_n 0, 1) := by decide +kernel
theorem dX8_addCommand_20 : decode cX8_addCommand 20 = .ok (.getfield 23, 3) := by decide +kernel
theorem dX8_addCommand_23 : decode cX8_addCommand 23 = .ok (.aload_n 0, 1) := by decide +kernel
theorem dX8_addCommand_24 : decode cX8_addCommand 24 = .ok (.getfield 42, 3) := by decide +kernel
theorem dX8_addCommand_27 : decode cX8_addCommand 27 = .ok (.aload_n 0, 1) := by decide +kernel
theorem dX8_addCommand_28 : decode cX8_addCommand 28 = .ok (.getfield 32, 3) := by decide +kernel
theorem dX8_addCommand_31 : decode cX8_addCommand 31 = .ok (.iconst 0, 1) := by decide +kernel
theorem dX8_addCommand_32 : decode cX8_addCommand 32 = .ok (.iaload, 1) := by decide +kernel
theorem dX8_addCommand_33 : decode cX8_addCommand 33 = .ok (.iastore, 1) := by decide +kernel
theorem dX8_addCommand_34 : decode cX8_addCommand 34 = .ok (.aload_n 0, 1) := by decide +kernel
theorem dX8_addCommand_35 : decode cX8_addCommand 35 = .ok (.getfield 26, 3) := by decide +kernel
theorem dX8_addCommand_38 : decode cX8_addCommand 38 = .ok (.aload_n 0, 1) := by decide +kernel
theorem dX8_addCommand_39 : decode cX8_addCommand 39 = .ok (.getfield 42, 3) := by decide +kernel
theorem dX8_addCommand_42 : decode cX8_addCommand 42 = .ok (.aload_n 0, 1) := by decide +kernel
theorem dX8_addCommand_43 : decode cX8_addCommand 43 = .ok (.getfield 32, 3) := by decide +kernel
theorem dX8_addCommand_46 : decode cX8_addCommand 46 = .ok (.iconst 1, 1) := by decide +kernel
theorem dX8_addCommand_47 : decode cX8_addCommand 47 = .ok (.iaload, 1) := by decide +kernel
theorem dX8_addCommand_48 : decode cX8_addCommand 48 = .ok (.iastore, 1) := by decide +kernel
theorem dX8_addCommand_49 : decode cX8_addCommand 49 = .ok (.aload_n 0, 1) := by decide +kernel
theorem dX8_addCommand_50 : decode cX8_addCommand 50 = .ok (.getfield 29, 3) := by decide +kernel
theorem dX8_addCommand_53 : decode cX8_addCommand 53 = .ok (.aload_n 0, 1) := by decide +kernel
theorem dX8_addCommand_54 : decode cX8_addCommand 54 = .ok (.getfield 42, 3) := by decide +kernel
theorem dX8_addCommand_57 : decode cX8_addCommand 57 = .ok (.aload_n 0, 1) := by decide +kernel
theorem dX8_addCommand_58 : decode cX8_addCommand 58 = .ok (.getfield 32, 3) := by decide +kernel
theorem dX8_addCommand_61 : decode cX8_addCommand 61 = .ok (.iconst 2, 1) := by decide +kernel
theorem dX8_addCommand_62 : decode cX8_addCommand 62 = .ok (.iaload, 1) := by decide +kernel
theorem dX8_addCommand_63 : decode cX8_addCommand 63 = .ok (.iastore, 1) := by decide +kernel
theorem dX8_addCommand_64 : decode cX8_addCommand 64 = .ok (.aload_n 0, 1) := by decide +kernel
theorem dX8_addCommand_65 : decode cX8_addCommand 65 = .ok (.dup, 1) := by decide +kernel
theorem dX8_addCommand_66 : decode cX8_addCommand 66 = .ok (.getfield 42, 3) := by decide +kernel
theorem dX8_addCommand_69 : decode cX8_addCommand 69 = .ok (.iconst 1, 1) := by decide +kernel
theorem dX8_addCommand_70 : decode cX8_addCommand 70 = .ok (.iadd, 1) := by decide +kernel
theorem dX8_addCommand_71 : decode cX8_addCommand 71 = .ok (.putfield 42, 3) := by decide +kernel
theorem dX8_addCommand_74 : decode cX8_addCommand 74 = .ok (.return_, 1) := by decide +kernel
theorem dX8_matches_0 : decode cX8_matches 0 = .ok (.aload_n 0, 1) := by decide +kernel
theorem dX8_matches_1 : decode cX8_matches 1 = .ok (.iload_n 2, 1) := by decide +kernel
theorem dX8_matches_2 : decode cX8_matches 2 = .ok (.putfield 49, 3) := by decide +kernel
theorem dX8_matches_5 : decode cX8_matches 5 = .ok (.aload_n 0, 1) := by decide +kernel
theorem dX8_matches_6 : decode cX8_matches 6 = .ok (.iconst 0, 1) := by decide +kernel
theorem dX8_matches_7 : decode cX8_matches 7 = .ok (.putfield 94, 3) := by decide +kernel
theorem dX8_matches_10 : decode cX8_matches 10 = .ok (.aload_n 0, 1) := by decide +kernel
theorem dX8_matches_11 : decode cX8_matches 11 = .ok (.getfield 32, 3) := by decide +kernel
theorem dX8_matches_14 : decode cX8_matches 14 = .ok (.iconst 0, 1) := by decide +kernel
theorem dX8_matches_15 : decode cX8_matches 15 = .ok (.invokestatic 97, 3) := by decide +kernel
theorem dX8_matches_18 : decode cX8_matches 18 = .ok (.iconst 0, 1) := by decide +kernel
theorem dX8_matches_19 : decode cX8_matches 19 = .ok (.istore_n 3, 1) := by decide +kernel
theorem dX8_matches_20 : decode cX8_matches 20 = .ok (.iload_n 3, 1) := by decide +kernel
theorem dX8_matches_21 : decode cX8_matches 21 = .ok (.aload_n 1, 1) := by decide +kernel
theorem dX8_matches_22 : decode cX8_matches 22 = .ok (.invokevirtual 103, 3) := by decide +kernel
theorem dX8_matches_25 : decode cX8_matches 25 = .ok (.if_icmp .ge 23, 3) := by decide +kernel
theorem dX8_matches_28 : decode cX8_matches 28 = .ok (.aload_n 0, 1) := by decide +kernel
theorem dX8_matches_29 : decode cX8_matches 29 = .ok (.aload_n 1, 1) := by decide +kernel
theorem dX8_matches_30 : decode cX8_matches 30 = .ok (.iload_n 3, 1) := by decide +kernel
theorem dX8_matches_31 : decode cX8_matches 31 = .ok (.invokevirtual 108, 3) := by decide +kernel
theorem dX8_matches_34 : decode cX8_matches 34 = .ok (.invokevirtual 112, 3) := by decide +kernel
theorem dX8_matches_37 : decode cX8_matches 37 = .ok (.ifCond .ne 5, 3) := by decide +kernel
theorem dX8_matches_40 : decode cX8_matches 40 = .ok (.iconst 0, 1) := by decide +kernel
theorem dX8_matches_41 : decode cX8_matches 41 = .ok (.ireturn, 1) := by decide +kernel
theorem dX8_matches_42 : decode cX8_matches 42 = .ok (.iinc 3 1, 3) := by decide +kernel
theorem dX8_matches_45 : decode cX8_matches 45 = .ok (.goto (-25), 3) := by decide +kernel
theorem dX8_matches_48 : decode cX8_matches 48 = .ok (.iconst 1, 1) := by decide +kernel
theorem dX8_matches_49 : decode cX8_matches 49 = .ok (.ireturn, 1) := by decide +kernel
theorem dX8_matchesPart_0 : decode cX8_matchesPart 0 = .ok (.iload_n 1, 1) := by decide +kernel
theorem dX8_matchesPart_1 : decode cX8_matchesPart 1 = .ok (.bipush 78, 2) := by decide +kernel
theorem dX8_matchesPart_3 : decode cX8_matchesPart 3 = .ok (.if_icmp .ne 8, 3) := by decide +kernel
theorem dX8_matchesPart_6 : decode cX8_matchesPart 6 = .ok (.aload_n 0, 1) := by decide +kernel
theorem dX8_matchesPart_7 : decode cX8_matchesPart 7 = .ok (.invokevirtual 116, 3) := by decide +kernel
theorem dX8_matchesPart_10 : decode cX8_matchesPart 10 = .ok (.ireturn, 1) := by decide +kernel
theorem dX8_matchesPart_11 : decode cX8_matchesPart 11 = .ok (.iload_n 1, 1) := by decide +kernel
theorem dX8_matchesPart_12 : decode cX8_matchesPart 12 = .ok (.bipush 68, 2) := by decide +kernel
theorem dX8_matchesPart_14 : decode cX8_matchesPart 14 = .ok (.if_icmp .ne 9, 3) := by decide +kernel
theorem dX8_matchesPart_17 : decode cX8_matchesPart 17 = .ok (.aload_n 0, 1) := by decide +kernel
theorem dX8_matchesPart_18 : decode cX8_matchesPart 18 = .ok (.iconst 1, 1) := by decide +kernel
theorem dX8_matchesPart_19 : decode cX8_matchesPart 19 = .ok (.invokevirtual 119, 3) := by decide +kernel
theorem dX8_matchesPart_22 : decode cX8_matchesPart 22 = .ok (.ireturn, 1) := by decide +kernel
theorem dX8_matchesPart_23 : decode cX8_matchesPart 23 = .ok (.iload_n 1, 1) := by decide +kernel
theorem dX8_matchesPart_24 : decode cX8_matchesPart 24 = .ok (.bipush 83, 2) := by decide +kernel
theorem dX8_matchesPart_26 : decode cX8_matchesPart 26 = .ok (.if_icmp .ne 22, 3) := by decide +kernel
theorem dX8_matchesPart_29 : decode cX8_matchesPart 29 = .ok (.aload_n 0, 1) := by decide +kernel
theorem dX8_matchesPart_30 : decode cX8_matchesPart 30 = .ok (.aload_n 0, 1) := by decide +kernel
theorem dX8_matchesPart_31 : decode cX8_matchesPart 31 = .ok (.bipush 45, 2) := by decide +kernel
theorem dX8_matchesPart_33 : decode cX8_matchesPart 33 = .ok (.invokevirtual 122, 3) := by decide +kernel
theorem dX8_matchesPart_36 : decode cX8_matchesPart 36 = .ok (.ifCond .eq 7, 3) := by decide +kernel
theorem dX8_matchesPart_39 : decode cX8_matchesPart 39 = .ok (.iconst (-1), 1) := by decide +kernel
theorem dX8_matchesPart_40 : decode cX8_matchesPart 40 = .ok (.goto 4, 3) := by decide +kernel
theorem dX8_matchesPart_43 : decode cX8_matchesPart 43 = .ok (.iconst 1, 1) := by decide +kernel
theorem dX8_matchesPart_44 : decode cX8_matchesPart 44 = .ok (.invokevirtual 119, 3) := by decide +kernel
theorem dX8_matchesPart_47 : decode cX8_matchesPart 47 = .ok (.ireturn, 1) := by decide +kernel
theorem dX8_matchesPart_48 : decode cX8_matchesPart 48 = .ok (.aload_n 0, 1) := by decide +kernel
theorem dX8_matchesPart_49 : decode cX8_matchesPart 49 = .ok (.iload_n 1, 1) := by decide +kernel
theorem dX8_matchesPart_50 : decode cX8_matchesPart 50 = .ok (.invokevirtual 122, 3) := by decide +kernel
theorem dX8_matchesPart_53 : decode cX8_matchesPart 53 = .ok (.ireturn, 1) := by decide +kernel
theorem dX8_matchesNumber_0 : decode cX8_matchesNumber 0 = .ok (.aload_n 0, 1) := by decide +kernel
theorem dX8_matchesNumber_1 : decode cX8_matchesNumber 1 = .ok (.invokevirtual 125, 3) := by decide +kernel
theorem dX8_matchesNumber_4 : decode cX8_matchesNumber 4 = .ok (.ifCond .ne 5, 3) := by decide +kernel
theorem dX8_matchesNumber_7 : decode cX8_matchesNumber 7 = .ok (.iconst 0, 1) := by decide +kernel
theorem dX8_matchesNumber_8 : decode cX8_matchesNumber 8 = .ok (.ireturn, 1) := by decide +kernel
theorem dX8_matchesNumber_9 : decode cX8_matchesNumber 9 = .ok (.aload_n 0, 1) := by decide +kernel
theorem dX8_matchesNumber_10 : decode cX8_matchesNumber 10 = .ok (.invokevirtual 128, 3) := by decide +kernel
theorem dX8_matchesNumber_13 : decode cX8_matchesNumber 13 = .ok (.istore_n 1, 1) := by decide +kernel
theorem dX8_matchesNumber_14 : decode cX8_matchesNumber 14 = .ok (.aload_n 0, 1) := by decide +kernel
theorem dX8_matchesNumber_15 : decode cX8_matchesNumber 15 = .ok (.invokevirtual 125, 3) := by decide +kernel
theorem dX8_matchesNumber_18 : decode cX8_matchesNumber 18 = .ok (.ifCond .eq 13, 3) := by decide +kernel
theorem dX8_matchesNumber_21 : decode cX8_matchesNumber 21 = .ok (.bipush 10, 2) := by decide +kernel
theorem dX8_matchesNumber_23 : decode cX8_matchesNumber 23 = .ok (.iload_n 1, 1) := by decide +kernel
theorem dX8_matchesNumber_24 : decode cX8_matchesNumber 24 = .ok (.imul, 1) := by decide +kernel
theorem dX8_matchesNumber_25 : decode cX8_matchesNumber 25 = .ok (.aload_n 0, 1) := by decide +kernel
theorem dX8_matchesNumber_26 : decode cX8_matchesNumber 26 = .ok (.invokevirtual 128, 3) := by decide +kernel
theorem dX8_matchesNumber_29 : decode cX8_matchesNumber 29 = .ok (.iadd, 1) := by decide +kernel
theorem dX8_matchesNumber_30 : decode cX8_matchesNumber 30 = .ok (.istore_n 1, 1) := by decide +kernel
theorem dX8_matchesNumber_31 : decode cX8_matchesNumber 31 = .ok (.aload_n 0, 1) := by decide +kernel
theorem dX8_matchesNumber_32 : decode cX8_matchesNumber 32 = .ok (.iload_n 1, 1) := by decide +kernel
theorem dX8_matchesNumber_33 : decode cX8_matchesNumber 33 = .ok (.invokevirtual 131, 3) := by decide +kernel
theorem dX8_matchesNumber_36 : decode cX8_matchesNumber 36 = .ok (.iconst 1, 1) := by decide +kernel
theorem dX8_matchesNumber_37 : decode cX8_matchesNumber 37 = .ok (.ireturn, 1) := by decide +kernel
theorem dX8_matchesDigit_0 : decode cX8_matchesDigit 0 = .ok (.aload_n 0, 1) := by decide +kernel
theorem dX8_matchesDigit_1 : decode cX8_matchesDigit 1 = .ok (.invokevirtual 125, 3) := by decide +kernel
theorem dX8_matchesDigit_4 : decode cX8_matchesDigit 4 = .ok (.ifCond .ne 5, 3) := by decide +kernel
theorem dX8_matchesDigit_7 : decode cX8_matchesDigit 7 = .ok (.iconst 0, 1) := by decide +kernel
theorem dX8_matchesDigit_8 : decode cX8_matchesDigit 8 = .ok (.ireturn, 1) := by decide +kernel
theorem dX8_matchesDigit_9 : decode cX8_matchesDigit 9 = .ok (.aload_n 0, 1) := by decide +kernel
theorem dX8_matchesDigit_10 : decode cX8_matchesDigit 10 = .ok (.iload_n 1, 1) := by decide +kernel
theorem dX8_matchesDigit_11 : decode cX8_matchesDigit 11 = .ok (.aload_n 0, 1) := by decide +kernel
theorem dX8_matchesDigit_12 : decode cX8_matchesDigit 12 = .ok (.invokevirtual 128, 3) := by decide +kernel
theorem dX8_matchesDigit_15 : decode cX8_matchesDigit 15 = .ok (.imul, 1) := by decide +kernel
theorem dX8_matchesDigit_16 : decode cX8_matchesDigit 16 = .ok (.invokevirtual 131, 3) := by decide +kernel
theorem dX8_matchesDigit_19 : decode cX8_matchesDigit 19 = .ok (.iconst 1, 1) := by decide +kernel
theorem dX8_matchesDigit_20 : decode cX8_matchesDigit 20 = .ok (.ireturn, 1) := by decide +kernel
theorem dX8_takes_0 : decode cX8_takes 0 = .ok (.aload_n 0, 1) := by decide +kernel
theorem dX8_takes_1 : decode cX8_takes 1 = .ok (.getfield 49, 3) := by decide +kernel
theorem dX8_takes_4 : decode cX8_takes 4 = .ok (.aload_n 0, 1) := by decide +kernel
theorem dX8_takes_5 : decode cX8_takes 5 = .ok (.getfield 35, 3) := by decide +kernel
theorem dX8_takes_8 : decode cX8_takes 8 = .ok (.if_icmp .ge 16, 3) := by decide +kernel
theorem dX8_takes_11 : decode cX8_takes 11 = .ok (.aload_n 0, 1) := by decide +kernel
theorem dX8_takes_12 : decode cX8_takes 12 = .ok (.getfield 9, 3) := by decide +kernel
theorem dX8_takes_15 : decode cX8_takes 15 = .ok (.aload_n 0, 1) := by decide +kernel
theorem dX8_takes_16 : decode cX8_takes 16 = .ok (.getfield 49, 3) := by decide +kernel
theorem dX8_takes_19 : decode cX8_takes 19 = .ok (.caload, 1) := by decide +kernel
theorem dX8_takes_20 : decode cX8_takes 20 = .ok (.iload_n 1, 1) := by decide +kernel
theorem dX8_takes_21 : decode cX8_takes 21 = .ok (.if_icmp .eq 5, 3) := by decide +kernel
theorem dX8_takes_24 : decode cX8_takes 24 = .ok (.iconst 0, 1) := by decide +kernel
theorem dX8_takes_25 : decode cX8_takes 25 = .ok (.ireturn, 1) := by decide +kernel
theorem dX8_takes_26 : decode cX8_takes 26 = .ok (.aload_n 0, 1) := by decide +kernel
theorem dX8_takes_27 : decode cX8_takes 27 = .ok (.dup, 1) := by decide +kernel
theorem dX8_takes_28 : decode cX8_takes 28 = .ok (.getfield 49, 3) := by decide +kernel
theorem dX8_takes_31 : decode cX8_takes 31 = .ok (.iconst 1, 1) := by decide +kernel
theorem dX8_takes_32 : decode cX8_takes 32 = .ok (.iadd, 1) := by decide +kernel
theorem dX8_takes_33 : decode cX8_takes 33 = .ok (.putfield 49, 3) := by decide +kernel
theorem dX8_takes_36 : decode cX8_takes 36 = .ok (.iconst 1, 1) := by decide +kernel
theorem dX8_takes_37 : decode cX8_takes 37 = .ok (.ireturn, 1) := by decide +kernel
theorem dX8_isDigitNext_0 : decode cX8_isDigitNext 0 = .ok (.aload_n 0, 1) := by decide +kernel
theorem dX8_isDigitNext_1 : decode cX8_isDigitNext 1 = .ok (.getfield 49, 3) := by decide +kernel
theorem dX8_isDigitNext_4 : decode cX8_isDigitNext 4 = .ok (.aload_n 0, 1) := by decide +kernel
theorem dX8_isDigitNext_5 : decode cX8_isDigitNext 5 = .ok (.getfield 35, 3) := by decide +kernel
theorem dX8_isDigitNext_8 : decode cX8_isDigitNext 8 = .ok (.if_icmp .ge 35, 3) := by decide +kernel
theorem dX8_isDigitNext_11 : decode cX8_isDigitNext 11 = .ok (.aload_n 0, 1) := by decide +kernel
theorem dX8_isDigitNext_12 : decode cX8_isDigitNext 12 = .ok (.getfield 9, 3) := by decide +kernel
theorem dX8_isDigitNext_15 : decode cX8_isDigitNext 15 = .ok (.aload_n 0, 1) := by decide +kernel
theorem dX8_isDigitNext_16 : decode cX8_isDigitNext 16 = .ok (.getfield 49, 3) := by decide +kernel
theorem dX8_isDigitNext_19 : decode cX8_isDigitNext 19 = .ok (.caload, 1) := by decide +kernel
theorem dX8_isDigitNext_20 : decode cX8_isDigitNext 20 = .ok (.bipush 48, 2) := by decide +kernel
theorem dX8_isDigitNext_22 : decode cX8_isDigitNext 22 = .ok (.if_icmp .lt 21, 3) := by decide +kernel
theorem dX8_isDigitNext_25 : decode cX8_isDigitNext 25 = .ok (.aload_n 0, 1) := by decide +kernel
theorem dX8_isDigitNext_26 : decode cX8_isDigitNext 26 = .ok (.getfield 9, 3) := by decide +kernel
theorem dX8_isDigitNext_29 : decode cX8_isDigitNext 29 = .ok (.aload_n 0, 1) := by decide +kernel
theorem dX8_isDigitNext_30 : decode cX8_isDigitNext 30 = .ok (.getfield 49, 3) := by decide +kernel
theorem dX8_isDigitNext_33 : decode cX8_isDigitNext 33 = .ok (.caload, 1) := by decide +kernel
theorem dX8_isDigitNext_34 : decode cX8_isDigitNext 34 = .ok (.bipush 57, 2) := by decide +kernel
theorem dX8_isDigitNext_36 : decode cX8_isDigitNext 36 = .ok (.if_icmp .gt 7, 3) := by decide +kernel
theorem dX8_isDigitNext_39 : decode cX8_isDigitNext 39 = .ok (.iconst 1, 1) := by decide +kernel
theorem dX8_isDigitNext_40 : decode cX8_isDigitNext 40 = .ok (.goto 4, 3) := by decide +kernel
theorem dX8_isDigitNext_43 : decode cX8_isDigitNext 43 = .ok (.iconst 0, 1) := by decide +kernel
theorem dX8_isDigitNext_44 : decode cX8_isDigitNext 44 = .ok (.ireturn, 1) := by decide +kernel
theorem dX8_takeDigit_0 : decode cX8_takeDigit 0 = .ok (.aload_n 0, 1) := by decide +kernel
theorem dX8_takeDigit_1 : decode cX8_takeDigit 1 = .ok (.getfield 9, 3) := by decide +kernel
theorem dX8_takeDigit_4 : decode cX8_takeDigit 4 = .ok (.aload_n 0, 1) := by decide +kernel
theorem dX8_takeDigit_5 : decode cX8_takeDigit 5 = .ok (.getfield 49, 3) := by decide +kernel
theorem dX8_takeDigit_8 : decode cX8_takeDigit 8 = .ok (.caload, 1) := by decide +kernel
theorem dX8_takeDigit_9 : decode cX8_takeDigit 9 = .ok (.bipush 48, 2) := by decide +kernel
theorem dX8_takeDigit_11 : decode cX8_takeDigit 11 = .ok (.isub, 1) := by decide +kernel
theorem dX8_takeDigit_12 : decode cX8_takeDigit 12 = .ok (.istore_n 1, 1) := by decide +kernel
theorem dX8_takeDigit_13 : decode cX8_takeDigit 13 = .ok (.aload_n 0, 1) := by decide +kernel
theorem dX8_takeDigit_14 : decode cX8_takeDigit 14 = .ok (.dup, 1) := by decide +kernel
theorem dX8_takeDigit_15 : decode cX8_takeDigit 15 = .ok (.getfield 49, 3) := by decide +kernel
theorem dX8_takeDigit_18 : decode cX8_takeDigit 18 = .ok (.iconst 1, 1) := by decide +kernel
theorem dX8_takeDigit_19 : decode cX8_takeDigit 19 = .ok (.iadd, 1) := by decide +kernel
theorem dX8_takeDigit_20 : decode cX8_takeDigit 20 = .ok (.putfield 49, 3) := by decide +kernel
theorem dX8_takeDigit_23 : decode cX8_takeDigit 23 = .ok (.iload_n 1, 1) := by decide +kernel
theorem dX8_takeDigit_24 : decode cX8_takeDigit 24 = .ok (.ireturn, 1) := by decide +kernel
theorem dX8_addValue_0 : decode cX8_addValue 0 = .ok (.aload_n 0, 1) := by decide +kernel
theorem dX8_addValue_1 : decode cX8_addValue 1 = .ok (.getfield 94, 3) := by decide +kernel
theorem dX8_addValue_4 : decode cX8_addValue 4 = .ok (.aload_n 0, 1) := by decide +kernel
theorem dX8_addValue_5 : decode cX8_addValue 5 = .ok (.getfield 32, 3) := by decide +kernel
theorem dX8_addValue_8 : decode cX8_addValue 8 = .ok (.arraylength, 1) := by decide +kernel
theorem dX8_addValue_9 : decode cX8_addValue 9 = .ok (.if_icmp .ge 23, 3) := by decide +kernel
theorem dX8_addValue_12 : decode cX8_addValue 12 = .ok (.aload_n 0, 1) := by decide +kernel
theorem dX8_addValue_13 : decode cX8_addValue 13 = .ok (.getfield 32, 3) := by decide +kernel
theorem dX8_addValue_16 : decode cX8_addValue 16 = .ok (.aload_n 0, 1) := by decide +kernel
theorem dX8_addValue_17 : decode cX8_addValue 17 = .ok (.getfield 94, 3) := by decide +kernel
theorem dX8_addValue_20 : decode cX8_addValue 20 = .ok (.iload_n 1, 1) := by decide +kernel
theorem dX8_addValue_21 : decode cX8_addValue 21 = .ok (.iastore, 1) := by decide +kernel
theorem dX8_addValue_22 : decode cX8_addValue 22 = .ok (.aload_n 0, 1) := by decide +kernel
theorem dX8_addValue_23 : decode cX8_addValue 23 = .ok (.dup, 1) := by decide +kernel
theorem dX8_addValue_24 : decode cX8_addValue 24 = .ok (.getfield 94, 3) := by decide +kernel
theorem dX8_addValue_27 : decode cX8_addValue 27 = .ok (.iconst 1, 1) := by decide +kernel
theorem dX8_addValue_28 : decode cX8_addValue 28 = .ok (.iadd, 1) := by decide +kernel
theorem dX8_addValue_29 : decode cX8_addValue 29 = .ok (.putfield 94, 3) := by decide +kernel
theorem dX8_addValue_32 : decode cX8_addValue 32 = .ok (.return_, 1) := by decide +kernel
theorem dX9_init_0 : decode cX9_init 0 = .ok (.aload_n 0, 1) := by decide +kernel
theorem dX9_init_1 : decode cX9_init 1 = .ok (.invokespecial 3, 3) := by decide +kernel
theorem dX9_init_4 : decode cX9_init 4 = .ok (.aload_n 0, 1) := by decide +kernel
theorem dX9_init_5 : decode cX9_init 5 = .ok (.new 9, 3) := by decide +kernel
theorem dX9_init_8 : decode cX9_init 8 = .ok (.dup, 1) := by decide +kernel
theorem dX9_init_9 : decode cX9_init 9 = .ok (.invokespecial 11, 3) := by decide +kernel
theorem dX9_init_12 : decode cX9_init 12 = .ok (.putfield 12, 3) := by decide +kernel
theorem dX9_init_15 : decode cX9_init 15 = .ok (.aload_n 0, 1) := by decide +kernel
theorem dX9_init_16 : decode cX9_init 16 = .ok (.new 9, 3) := by decide +kernel
theorem dX9_init_19 : decode cX9_init 19 = .ok (.dup, 1) := by decide +kernel
theorem dX9_init_20 : decode cX9_init 20 = .ok (.invokespecial 11, 3) := by decide +kernel
theorem dX9_init_23 : decode cX9_init 23 = .ok (.putfield 16, 3) := by decide +kernel
theorem dX9_init_26 : decode cX9_init 26 = .ok (.aload_n 0, 1) := by decide +kernel
theorem dX9_init_27 : decode cX9_init 27 = .ok (.new 19, 3) := by decide +kernel
theorem dX9_init_30 : decode cX9_init 30 = .ok (.dup, 1) := by decide +kernel
theorem dX9_init_31 : decode cX9_init 31 = .ok (.invokespecial 21, 3) := by decide +kernel
theorem dX9_init_34 : decode cX9_init 34 = .ok (.putfield 22, 3) := by decide +kernel
theorem dX9_init_37 : decode cX9_init 37 = .ok (.aload_n 0, 1) := by decide +kernel
theorem dX9_init_38 : decode cX9_init 38 = .ok (.new 26, 3) := by decide +kernel
theorem dX9_init_41 : decode cX9_init 41 = .ok (.dup, 1) := by decide +kernel
theorem dX9_init_42 : decode cX9_init 42 = .ok (.invokespecial 28, 3) := by decide +kernel
theorem dX9_init_45 : decode cX9_init 45 = .ok (.putfield 29, 3) := by decide +kernel
theorem dX9_init_48 : decode cX9_init 48 = .ok (.aload_n 0, 1) := by decide +kernel
theorem dX9_init_49 : decode cX9_init 49 = .ok (.new 33, 3) := by decide +kernel
theorem dX9_init_52 : decode cX9_init 52 = .ok (.dup, 1) := by decide +kernel
theorem dX9_init_53 : decode cX9_init 53 = .ok (.invokespecial 35, 3) := by decide +kernel
theorem dX9_init_56 : decode cX9_init 56 = .ok (.putfield 36, 3) := by decide +kernel
theorem dX9_init_59 : decode cX9_init 59 = .ok (.aload_n 0, 1) := by decide +kernel
theorem dX9_init_60 : decode cX9_init 60 = .ok (.new 40, 3) := by decide +kernel
theorem dX9_init_63 : decode cX9_init 63 = .ok (.dup, 1) := by decide +kernel
theorem dX9_init_64 : decode cX9_init 64 = .ok (.invokespecial 42, 3) := by decide +kernel
theorem dX9_init_67 : decode cX9_init 67 = .ok (.putfield 43, 3) := by decide +kernel
theorem dX9_init_70 : decode cX9_init 70 = .ok (.aload_n 0, 1) := by decide +kernel
theorem dX9_init_71 : decode cX9_init 71 = .ok (.new 47, 3) := by decide +kernel
theorem dX9_init_74 : decode cX9_init 74 = .ok (.dup, 1) := by decide +kernel
theorem dX9_init_75 : decode cX9_init 75 = .ok (.invokespecial 49, 3) := by decide +kernel
theorem dX9_init_78 : decode cX9_init 78 = .ok (.putfield 50, 3) := by decide +kernel
theorem dX9_init_81 : decode cX9_init 81 = .ok (.aload_n 0, 1) := by decide +kernel
theorem dX9_init_82 : decode cX9_init 82 = .ok (.new 54, 3) := by decide +kernel
theorem dX9_init_85 : decode cX9_init 85 = .ok (.dup, 1) := by decide +kernel
theorem dX9_init_86 : decode cX9_init 86 = .ok (.invokespecial 56, 3) := by decide +kernel
theorem dX9_init_89 : decode cX9_init 89 = .ok (.putfield 57, 3) := by decide +kernel
theorem dX9_init_92 : decode cX9_init 92 = .ok (.return_, 1) := by decide +kernel
theorem dX9_addNote_0 : decode cX9_addNote 0 = .ok (.aload_n 0, 1) := by decide +kernel
theorem dX9_addNote_1 : decode cX9_addNote 1 = .ok (.iconst 0, 1) := by decide +kernel
theorem dX9_addNote_2 : decode cX9_addNote 2 = .ok (.iload_n 1, 1) := by decide +kernel
theorem dX9_addNote_3 : decode cX9_addNote 3 = .ok (.iload_n 2, 1) := by decide +kernel
theorem dX9_addNote_4 : decode cX9_addNote 4 = .ok (.iconst 0, 1) := by decide +kernel
theorem dX9_addNote_5 : decode cX9_addNote 5 = .ok (.invokevirtual 61, 3) := by decide +kernel
theorem dX9_addNote_8 : decode cX9_addNote 8 = .ok (.ireturn, 1) := by decide +kernel
theorem dX9_cite_0 : decode cX9_cite 0 = .ok (.aload_n 0, 1) := by decide +kernel
theorem dX9_cite_1 : decode cX9_cite 1 = .ok (.iconst 1, 1) := by decide +kernel
theorem dX9_cite_2 : decode cX9_cite 2 = .ok (.iload_n 1, 1) := by decide +kernel
theorem dX9_cite_3 : decode cX9_cite 3 = .ok (.iload_n 2, 1) := by decide +kernel
theorem dX9_cite_4 : decode cX9_cite 4 = .ok (.iconst 0, 1) := by decide +kernel
theorem dX9_cite_5 : decode cX9_cite 5 = .ok (.invokevirtual 61, 3) := by decide +kernel
theorem dX9_cite_8 : decode cX9_cite 8 = .ok (.ireturn, 1) := by decide +kernel
theorem dX9_uncite_0 : decode cX9_uncite 0 = .ok (.aload_n 0, 1) := by decide +kernel
theorem dX9_uncite_1 : decode cX9_uncite 1 = .ok (.iconst 2, 1) := by decide +kernel
theorem dX9_uncite_2 : decode cX9_uncite 2 = .ok (.iload_n 1, 1) := by decide +kernel
theorem dX9_uncite_3 : decode cX9_uncite 3 = .ok (.iload_n 2, 1) := by decide +kernel
theorem dX9_uncite_4 : decode cX9_uncite 4 = .ok (.iconst 0, 1) := by decide +kernel
theorem dX9_uncite_5 : decode cX9_uncite 5 = .ok (.invokevirtual 61, 3) := by decide +kernel
theorem dX9_uncite_8 : decode cX9_uncite 8 = .ok (.ireturn, 1) := by decide +kernel
theorem dX9_noteCount_0 : decode cX9_noteCount 0 = .ok (.aload_n 0, 1) := by decide +kernel
theorem dX9_noteCount_1 : decode cX9_noteCount 1 = .ok (.getfield 12, 3) := by decide +kernel
theorem dX9_noteCount_4 : decode cX9_noteCount 4 = .ok (.getfield 65, 3) := by decide +kernel
theorem dX9_noteCount_7 : decode cX9_noteCount 7 = .ok (.ireturn, 1) := by decide +kernel
theorem dX9_pageOf_0 : decode cX9_pageOf 0 = .ok (.aload_n 0, 1) := by decide +kernel
theorem dX9_pageOf_1 : decode cX9_pageOf 1 = .ok (.iload_n 1, 1) := by decide +kernel
theorem dX9_pageOf_2 : decode cX9_pageOf 2 = .ok (.invokevirtual 69, 3) := by decide +kernel
theorem dX9_pageOf_5 : decode cX9_pageOf 5 = .ok (.aload_n 0, 1) := by decide +kernel
theorem dX9_pageOf_6 : decode cX9_pageOf 6 = .ok (.getfield 12, 3) := by decide +kernel
theorem dX9_pageOf_9 : decode cX9_pageOf 9 = .ok (.getfield 73, 3) := by decide +kernel
theorem dX9_pageOf_12 : decode cX9_pageOf 12 = .ok (.iload_n 1, 1) := by decide +kernel
theorem dX9_pageOf_13 : decode cX9_pageOf 13 = .ok (.iaload, 1) := by decide +kernel
theorem dX9_pageOf_14 : decode cX9_pageOf 14 = .ok (.ireturn, 1) := by decide +kernel
theorem dX9_weightOf_0 : decode cX9_weightOf 0 = .ok (.aload_n 0, 1) := by decide +kernel
theorem dX9_weightOf_1 : decode cX9_weightOf 1 = .ok (.iload_n 1, 1) := by decide +kernel
theorem dX9_weightOf_2 : decode cX9_weightOf 2 = .ok (.invokevirtual 69, 3) := by decide +kernel
theorem dX9_weightOf_5 : decode cX9_weightOf 5 = .ok (.aload_n 0, 1) := by decide +kernel
theorem dX9_weightOf_6 : decode cX9_weightOf 6 = .ok (.getfield 12, 3) := by decide +kernel
theorem dX9_weightOf_9 : decode cX9_weightOf 9 = .ok (.getfield 77, 3) := by decide +kernel
theorem dX9_weightOf_12 : decode cX9_weightOf 12 = .ok (.iload_n 1, 1) := by decide +kernel
theorem dX9_weightOf_13 : decode cX9_weightOf 13 = .ok (.iaload, 1) := by decide +kernel
theorem dX9_weightOf_14 : decode cX9_weightOf 14 = .ok (.ireturn, 1) := by decide +kernel
theorem dX9_stateOf_0 : decode cX9_stateOf 0 = .ok (.aload_n 0, 1) := by decide +kernel
theorem dX9_stateOf_1 : decode cX9_stateOf 1 = .ok (.iload_n 1, 1) := by decide +kernel
theorem dX9_stateOf_2 : decode cX9_stateOf 2 = .ok (.invokevirtual 69, 3) := by decide +kernel
theorem dX9_stateOf_5 : decode cX9_stateOf 5 = .ok (.aload_n 0, 1) := by decide +kernel
theorem dX9_stateOf_6 : decode cX9_stateOf 6 = .ok (.getfield 12, 3) := by decide +kernel
theorem dX9_stateOf_9 : decode cX9_stateOf 9 = .ok (.getfield 80, 3) := by decide +kernel
theorem dX9_stateOf_12 : decode cX9_stateOf 12 = .ok (.iload_n 1, 1) := by decide +kernel
theorem dX9_stateOf_13 : decode cX9_stateOf 13 = .ok (.caload, 1) := by decide +kernel
theorem dX9_stateOf_14 : decode cX9_stateOf 14 = .ok (.ireturn, 1) := by decide +kernel
theorem dX9_citedBy_0 : decode cX9_citedBy 0 = .ok (.aload_n 0, 1) := by decide +kernel
theorem dX9_citedBy_1 : decode cX9_citedBy 1 = .ok (.iload_n 1, 1) := by decide +kernel
theorem dX9_citedBy_2 : decode cX9_citedBy 2 = .ok (.invokevirtual 69, 3) := by decide +kernel
theorem dX9_citedBy_5 : decode cX9_citedBy 5 = .ok (.aload_n 0, 1) := by decide +kernel
theorem dX9_citedBy_6 : decode cX9_citedBy 6 = .ok (.getfield 12, 3) := by decide +kernel
theorem dX9_citedBy_9 : decode cX9_citedBy 9 = .ok (.iload_n 1, 1) := by decide +kernel
theorem dX9_citedBy_10 : decode cX9_citedBy 10 = .ok (.invokevirtual 84, 3) := by decide +kernel
theorem dX9_citedBy_13 : decode cX9_citedBy 13 = .ok (.ireturn, 1) := by decide +kernel
theorem dX9_doesCite_0 : decode cX9_doesCite 0 = .ok (.aload_n 0, 1) := by decide +kernel
theorem dX9_doesCite_1 : decode cX9_doesCite 1 = .ok (.iload_n 1, 1) := by decide +kernel
theorem dX9_doesCite_2 : decode cX9_doesCite 2 = .ok (.invokevirtual 69, 3) := by decide +kernel
theorem dX9_doesCite_5 : decode cX9_doesCite 5 = .ok (.aload_n 0, 1) := by decide +kernel
theorem dX9_doesCite_6 : decode cX9_doesCite 6 = .ok (.iload_n 2, 1) := by decide +kernel
theorem dX9_doesCite_7 : decode cX9_doesCite 7 = .ok (.invokevirtual 69, 3) := by decide +kernel
theorem dX9_doesCite_10 : decode cX9_doesCite 10 = .ok (.aload_n 0, 1) := by decide +kernel
theorem dX9_doesCite_11 : decode cX9_doesCite 11 = .ok (.getfield 12, 3) := by decide +kernel
theorem dX9_doesCite_14 : decode cX9_doesCite 14 = .ok (.getfield 88, 3) := by decide +kernel
theorem dX9_doesCite_17 : decode cX9_doesCite 17 = .ok (.iload_n 1, 1) := by decide +kernel
theorem dX9_doesCite_18 : decode cX9_doesCite 18 = .ok (.iaload, 1) := by decide +kernel
theorem dX9_doesCite_19 : decode cX9_doesCite 19 = .ok (.iload_n 2, 1) := by decide +kernel
theorem dX9_doesCite_20 : decode cX9_doesCite 20 = .ok (.invokestatic 91, 3) := by decide +kernel
theorem dX9_doesCite_23 : decode cX9_doesCite 23 = .ok (.ireturn, 1) := by decide +kernel
theorem dX9_reaches_0 : decode cX9_reaches 0 = .ok (.aload_n 0, 1) := by decide +kernel
theorem dX9_reaches_1 : decode cX9_reaches 1 = .ok (.iload_n 1, 1) := by decide +kernel
theorem dX9_reaches_2 : decode cX9_reaches 2 = .ok (.invokevirtual 69, 3) := by decide +kernel
theorem dX9_reaches_5 : decode cX9_reaches 5 = .ok (.aload_n 0, 1) := by decide +kernel
theorem dX9_reaches_6 : decode cX9_reaches 6 = .ok (.iload_n 2, 1) := by decide +kernel
theorem dX9_reaches_7 : decode cX9_reaches 7 = .ok (.invokevirtual 69, 3) := by decide +kernel
theorem dX9_reaches_10 : decode cX9_reaches 10 = .ok (.aload_n 0, 1) := by decide +kernel
theorem dX9_reaches_11 : decode cX9_reaches 11 = .ok (.getfield 36, 3) := by decide +kernel
theorem dX9_reaches_14 : decode cX9_reaches 14 = .ok (.aload_n 0, 1) := by decide +kernel
theorem dX9_reaches_15 : decode cX9_reaches 15 = .ok (.getfield 12, 3) := by decide +kernel
theorem dX9_reaches_18 : decode cX9_reaches 18 = .ok (.iload_n 1, 1) := by decide +kernel
theorem dX9_reaches_19 : decode cX9_reaches 19 = .ok (.iload_n 2, 1) := by decide +kernel
theorem dX9_reaches_20 : decode cX9_reaches 20 = .ok (.invokevirtual 95, 3) := by decide +kernel
theorem dX9_reaches_23 : decode cX9_reaches 23 = .ok (.ireturn, 1) := by decide +kernel
theorem dX9_circles_0 : decode cX9_circles 0 = .ok (.aload_n 0, 1) := by decide +kernel
theorem dX9_circles_1 : decode cX9_circles 1 = .ok (.getfield 36, 3) := by decide +kernel
theorem dX9_circles_4 : decode cX9_circles 4 = .ok (.aload_n 0, 1) := by decide +kernel
theorem dX9_circles_5 : decode cX9_circles 5 = .ok (.getfield 12, 3) := by decide +kernel
theorem dX9_circles_8 : decode cX9_circles 8 = .ok (.invokevirtual 99, 3) := by decide +kernel
theorem dX9_circles_11 : decode cX9_circles 11 = .ok (.ireturn, 1) := by decide +kernel
theorem dX9_circlesByTable_0 : decode cX9_circlesByTable 0 = .ok (.aload_n 0, 1) := by decide +kernel
theorem dX9_circlesByTable_1 : decode cX9_circlesByTable 1 = .ok (.getfield 36, 3) := by decide +kernel
theorem dX9_circlesByTable_4 : decode cX9_circlesByTable 4 = .ok (.aload_n 0, 1) := by decide +kernel
theorem dX9_circlesByTable_5 : decode cX9_circlesByTable 5 = .ok (.getfield 12, 3) := by decide +kernel
theorem dX9_circlesByTable_8 : decode cX9_circlesByTable 8 = .ok (.invokevirtual 103, 3) := by decide +kernel
theorem dX9_circlesByTable_11 : decode cX9_circlesByTable 11 = .ok (.ireturn, 1) := by decide +kernel
theorem dX9_circleSize_0 : decode cX9_circleSize 0 = .ok (.aload_n 0, 1) := by decide +kernel
theorem dX9_circleSize_1 : decode cX9_circleSize 1 = .ok (.iload_n 1, 1) := by decide +kernel
theorem dX9_circleSize_2 : decode cX9_circleSize 2 = .ok (.invokevirtual 69, 3) := by decide +kernel
theorem dX9_circleSize_5 : decode cX9_circleSize 5 = .ok (.aload_n 0, 1) := by decide +kernel
theorem dX9_circleSize_6 : decode cX9_circleSize 6 = .ok (.getfield 36, 3) := by decide +kernel
theorem dX9_circleSize_9 : decode cX9_circleSize 9 = .ok (.aload_n 0, 1) := by decide +kernel
theorem dX9_circleSize_10 : decode cX9_circleSize 10 = .ok (.getfield 12, 3) := by decide +kernel
theorem dX9_circleSize_13 : decode cX9_circleSize 13 = .ok (.iload_n 1, 1) := by decide +kernel
theorem dX9_circleSize_14 : decode cX9_circleSize 14 = .ok (.invokevirtual 106, 3) := by decide +kernel
theorem dX9_circleSize_17 : decode cX9_circleSize 17 = .ok (.ireturn, 1) := by decide +kernel
theorem dX9_index_0 : decode cX9_index 0 = .ok (.aload_n 0, 1) := by decide +kernel
theorem dX9_index_1 : decode cX9_index 1 = .ok (.getfield 36, 3) := by decide +kernel
theorem dX9_index_4 : decode cX9_index 4 = .ok (.aload_n 0, 1) := by decide +kernel
theorem dX9_index_5 : decode cX9_index 5 = .ok (.getfield 12, 3) := by decide +kernel
theorem dX9_index_8 : decode cX9_index 8 = .ok (.invokevirtual 110, 3) := by decide +kernel
theorem dX9_index_11 : decode cX9_index 11 = .ok (.ireturn, 1) := by decide +kernel
theorem dX9_indexByCounts_0 : decode cX9_indexByCounts 0 = .ok (.aload_n 0, 1) := by decide +kernel
theorem dX9_indexByCounts_1 : decode cX9_indexByCounts 1 = .ok (.getfield 36, 3) := by decide +kernel
theorem dX9_indexByCounts_4 : decode cX9_indexByCounts 4 = .ok (.aload_n 0, 1) := by decide +kernel
theorem dX9_indexByCounts_5 : decode cX9_indexByCounts 5 = .ok (.getfield 12, 3) := by decide +kernel
theorem dX9_indexByCounts_8 : decode cX9_indexByCounts 8 = .ok (.invokevirtual 113, 3) := by decide +kernel
theorem dX9_indexByCounts_11 : decode cX9_indexByCounts 11 = .ok (.ireturn, 1) := by decide +kernel
theorem dX9_noteByCitations_0 : decode cX9_noteByCitations 0 = .ok (.aload_n 0, 1) := by decide +kernel
theorem dX9_noteByCitations_1 : decode cX9_noteByCitations 1 = .ok (.getfield 12, 3) := by decide +kernel
theorem dX9_noteByCitations_4 : decode cX9_noteByCitations 4 = .ok (.iload_n 1, 1) := by decide +kernel
theorem dX9_noteByCitations_5 : decode cX9_noteByCitations 5 = .ok (.invokevirtual 116, 3) := by decide +kernel
theorem dX9_noteByCitations_8 : decode cX9_noteByCitations 8 = .ok (.ifCond .ne 13, 3) := by decide +kernel
theorem dX9_noteByCitations_11 : decode cX9_noteByCitations 11 = .ok (.new 120, 3) := by decide +kernel
theorem dX9_noteByCitations_14 : decode cX9_noteByCitations 14 = .ok (.dup, 1) := by decide +kernel
theorem dX9_noteByCitations_15 : decode cX9_noteByCitations 15 = .ok (.ldc 122, 2) := by decide +kernel
theorem dX9_noteByCitations_17 : decode cX9_noteByCitations 17 = .ok (.invokespecial 124, 3) := by decide +kernel
theorem dX9_noteByCitations_20 : decode cX9_noteByCitations 20 = .ok (.athrow, 1) := by decide +kernel
theorem dX9_noteByCitations_21 : decode cX9_noteByCitations 21 = .ok (.aload_n 0, 1) := by decide +kernel
theorem dX9_noteByCitations_22 : decode cX9_noteByCitations 22 = .ok (.getfield 36, 3) := by decide +kernel
theorem dX9_noteByCitations_25 : decode cX9_noteByCitations 25 = .ok (.aload_n 0, 1) := by decide +kernel
theorem dX9_noteByCitations_26 : decode cX9_noteByCitations 26 = .ok (.getfield 12, 3) := by decide +kernel
theorem dX9_noteByCitations_29 : decode cX9_noteByCitations 29 = .ok (.iload_n 1, 1) := by decide +kernel
theorem dX9_noteByCitations_30 : decode cX9_noteByCitations 30 = .ok (.invokevirtual 127, 3) := by decide +kernel
theorem dX9_noteByCitations_33 : decode cX9_noteByCitations 33 = .ok (.ireturn, 1) := by decide +kernel
theorem dX9_setCurrent_0 : decode cX9_setCurrent 0 = .ok (.aload_n 0, 1) := by decide +kernel
theorem dX9_setCurrent_1 : decode cX9_setCurrent 1 = .ok (.iconst 3, 1) := by decide +kernel
theorem dX9_setCurrent_2 : decode cX9_setCurrent 2 = .ok (.iload_n 1, 1) := by decide +kernel
theorem dX9_setCurrent_3 : decode cX9_setCurrent 3 = .ok (.iload_n 2, 1) := by decide +kernel
theorem dX9_setCurrent_4 : decode cX9_setCurrent 4 = .ok (.iconst 0, 1) := by decide +kernel
theorem dX9_setCurrent_5 : decode cX9_setCurrent 5 = .ok (.invokevirtual 61, 3) := by decide +kernel
theorem dX9_setCurrent_8 : decode cX9_setCurrent 8 = .ok (.ireturn, 1) := by decide +kernel
theorem dX9_setQuota_0 : decode cX9_setQuota 0 = .ok (.aload_n 0, 1) := by decide +kernel
theorem dX9_setQuota_1 : decode cX9_setQuota 1 = .ok (.bipush 7, 2) := by decide +kernel
theorem dX9_setQuota_3 : decode cX9_setQuota 3 = .ok (.iload_n 1, 1) := by decide +kernel
theorem dX9_setQuota_4 : decode cX9_setQuota 4 = .ok (.iload_n 2, 1) := by decide +kernel
theorem dX9_setQuota_5 : decode cX9_setQuota 5 = .ok (.iconst 0, 1) := by decide +kernel
theorem dX9_setQuota_6 : decode cX9_setQuota 6 = .ok (.invokevirtual 61, 3) := by decide +kernel
theorem dX9_setQuota_9 : decode cX9_setQuota 9 = .ok (.ireturn, 1) := by decide +kernel
theorem dX9_current_0 : decode cX9_current 0 = .ok (.iload_n 1, 1) := by decide +kernel
theorem dX9_current_1 : decode cX9_current 1 = .ok (.invokestatic 130, 3) := by decide +kernel
theorem dX9_current_4 : decode cX9_current 4 = .ok (.aload_n 0, 1) := by decide +kernel
theorem dX9_current_5 : decode cX9_current 5 = .ok (.getfield 12, 3) := by decide +kernel
theorem dX9_current_8 : decode cX9_current 8 = .ok (.getfield 133, 3) := by decide +kernel
theorem dX9_current_11 : decode cX9_current 11 = .ok (.iload_n 1, 1) := by decide +kernel
theorem dX9_current_12 : decode cX9_current 12 = .ok (.iaload, 1) := by decide +kernel
theorem dX9_current_13 : decode cX9_current 13 = .ok (.ireturn, 1) := by decide +kernel
theorem dX9_quota_0 : decode cX9_quota 0 = .ok (.iload_n 1, 1) := by decide +kernel
theorem dX9_quota_1 : decode cX9_quota 1 = .ok (.invokestatic 130, 3) := by decide +kernel
theorem dX9_quota_4 : decode cX9_quota 4 = .ok (.aload_n 0, 1) := by decide +kernel
theorem dX9_quota_5 : decode cX9_quota 5 = .ok (.getfield 12, 3) := by decide +kernel
theorem dX9_quota_8 : decode cX9_quota 8 = .ok (.getfield 136, 3) := by decide +kernel
theorem dX9_quota_11 : decode cX9_quota 11 = .ok (.iload_n 1, 1) := by decide +kernel
theorem dX9_quota_12 : decode cX9_quota 12 = .ok (.iaload, 1) := by decide +kernel
theorem dX9_quota_13 : decode cX9_quota 13 = .ok (.ireturn, 1) := by decide +kernel
theorem dX9_room_0 : decode cX9_room 0 = .ok (.iload_n 1, 1) := by decide +kernel
theorem dX9_room_1 : decode cX9_room 1 = .ok (.invokestatic 130, 3) := by decide +kernel
theorem dX9_room_4 : decode cX9_room 4 = .ok (.aload_n 0, 1) := by decide +kernel
theorem dX9_room_5 : decode cX9_room 5 = .ok (.getfield 12, 3) := by decide +kernel
theorem dX9_room_8 : decode cX9_room 8 = .ok (.iload_n 1, 1) := by decide +kernel
theorem dX9_room_9 : decode cX9_room 9 = .ok (.invokevirtual 139, 3) := by decide +kernel
theorem dX9_room_12 : decode cX9_room 12 = .ok (.ireturn, 1) := by decide +kernel
theorem dX9_floatingOn_0 : decode cX9_floatingOn 0 = .ok (.iload_n 1, 1) := by decide +kernel
theorem dX9_floatingOn_1 : decode cX9_floatingOn 1 = .ok (.invokestatic 130, 3) := by decide +kernel
theorem dX9_floatingOn_4 : decode cX9_floatingOn 4 = .ok (.aload_n 0, 1) := by decide +kernel
theorem dX9_floatingOn_5 : decode cX9_floatingOn 5 = .ok (.getfield 12, 3) := by decide +kernel
theorem dX9_floatingOn_8 : decode cX9_floatingOn 8 = .ok (.iload_n 1, 1) := by decide +kernel
theorem dX9_floatingOn_9 : decode cX9_floatingOn 9 = .ok (.invokevirtual 142, 3) := by decide +kernel
theorem dX9_floatingOn_12 : decode cX9_floatingOn 12 = .ok (.ireturn, 1) := by decide +kernel
theorem dX9_addNet_0 : decode cX9_addNet 0 = .ok (.aload_n 0, 1) := by decide +kernel
theorem dX9_addNet_1 : decode cX9_addNet 1 = .ok (.iconst 4, 1) := by decide +kernel
theorem dX9_addNet_2 : decode cX9_addNet 2 = .ok (.iload_n 1, 1) := by decide +kernel
theorem dX9_addNet_3 : decode cX9_addNet 3 = .ok (.iload_n 2, 1) := by decide +kernel
theorem dX9_addNet_4 : decode cX9_addNet 4 = .ok (.iload_n 3, 1) := by decide +kernel
theorem dX9_addNet_5 : decode cX9_addNet 5 = .ok (.invokevirtual 61, 3) := by decide +kernel
theorem dX9_addNet_8 : decode cX9_addNet 8 = .ok (.ireturn, 1) := by decide +kernel
theorem dX9_removeNet_0 : decode cX9_removeNet 0 = .ok (.aload_n 0, 1) := by decide +kernel
theorem dX9_removeNet_1 : decode cX9_removeNet 1 = .ok (.iconst 5, 1) := by decide +kernel
theorem dX9_removeNet_2 : decode cX9_removeNet 2 = .ok (.iload_n 1, 1) := by decide +kernel
theorem dX9_removeNet_3 : decode cX9_removeNet 3 = .ok (.iconst 0, 1) := by decide +kernel
theorem dX9_removeNet_4 : decode cX9_removeNet 4 = .ok (.iconst 0, 1) := by decide +kernel
theorem dX9_removeNet_5 : decode cX9_removeNet 5 = .ok (.invokevirtual 61, 3) := by decide +kernel
theorem dX9_removeNet_8 : decode cX9_removeNet 8 = .ok (.ireturn, 1) := by decide +kernel
theorem dX9_haul_0 : decode cX9_haul 0 = .ok (.aload_n 0, 1) := by decide +kernel
theorem dX9_haul_1 : decode cX9_haul 1 = .ok (.bipush 6, 2) := by decide +kernel
theorem dX9_haul_3 : decode cX9_haul 3 = .ok (.iload_n 1, 1) := by decide +kernel
theorem dX9_haul_4 : decode cX9_haul 4 = .ok (.iconst 0, 1) := by decide +kernel
theorem dX9_haul_5 : decode cX9_haul 5 = .ok (.iconst 0, 1) := by decide +kernel
theorem dX9_haul_6 : decode cX9_haul 6 = .ok (.invokevirtual 61, 3) := by decide +kernel
