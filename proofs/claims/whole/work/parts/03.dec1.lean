theorem dX0_init_0 : decode cX0_init 0 = .ok (.aload_n 0, 1) := by decide +kernel
theorem dX0_init_1 : decode cX0_init 1 = .ok (.invokespecial 3, 3) := by decide +kernel
theorem dX0_init_4 : decode cX0_init 4 = .ok (.aload_n 0, 1) := by decide +kernel
theorem dX0_init_5 : decode cX0_init 5 = .ok (.bipush 10, 2) := by decide +kernel
theorem dX0_init_7 : decode cX0_init 7 = .ok (.newarray .int, 2) := by decide +kernel
theorem dX0_init_9 : decode cX0_init 9 = .ok (.putfield 9, 3) := by decide +kernel
theorem dX0_init_12 : decode cX0_init 12 = .ok (.aload_n 0, 1) := by decide +kernel
theorem dX0_init_13 : decode cX0_init 13 = .ok (.bipush 10, 2) := by decide +kernel
theorem dX0_init_15 : decode cX0_init 15 = .ok (.newarray .int, 2) := by decide +kernel
theorem dX0_init_17 : decode cX0_init 17 = .ok (.putfield 15, 3) := by decide +kernel
theorem dX0_init_20 : decode cX0_init 20 = .ok (.aload_n 0, 1) := by decide +kernel
theorem dX0_init_21 : decode cX0_init 21 = .ok (.bipush 10, 2) := by decide +kernel
theorem dX0_init_23 : decode cX0_init 23 = .ok (.newarray .int, 2) := by decide +kernel
theorem dX0_init_25 : decode cX0_init 25 = .ok (.putfield 18, 3) := by decide +kernel
theorem dX0_init_28 : decode cX0_init 28 = .ok (.aload_n 0, 1) := by decide +kernel
theorem dX0_init_29 : decode cX0_init 29 = .ok (.bipush 10, 2) := by decide +kernel
theorem dX0_init_31 : decode cX0_init 31 = .ok (.newarray .int, 2) := by decide +kernel
theorem dX0_init_33 : decode cX0_init 33 = .ok (.putfield 21, 3) := by decide +kernel
theorem dX0_init_36 : decode cX0_init 36 = .ok (.aload_n 0, 1) := by decide +kernel
theorem dX0_init_37 : decode cX0_init 37 = .ok (.new 24, 3) := by decide +kernel
theorem dX0_init_40 : decode cX0_init 40 = .ok (.dup, 1) := by decide +kernel
theorem dX0_init_41 : decode cX0_init 41 = .ok (.invokespecial 26, 3) := by decide +kernel
theorem dX0_init_44 : decode cX0_init 44 = .ok (.putfield 27, 3) := by decide +kernel
theorem dX0_init_47 : decode cX0_init 47 = .ok (.return_, 1) := by decide +kernel
theorem dX0_leadsTo_0 : decode cX0_leadsTo 0 = .ok (.aload_n 0, 1) := by decide +kernel
theorem dX0_leadsTo_1 : decode cX0_leadsTo 1 = .ok (.aload_n 1, 1) := by decide +kernel
theorem dX0_leadsTo_2 : decode cX0_leadsTo 2 = .ok (.invokevirtual 31, 3) := by decide +kernel
theorem dX0_leadsTo_5 : decode cX0_leadsTo 5 = .ok (.aload_n 0, 1) := by decide +kernel
theorem dX0_leadsTo_6 : decode cX0_leadsTo 6 = .ok (.getfield 9, 3) := by decide +kernel
theorem dX0_leadsTo_9 : decode cX0_leadsTo 9 = .ok (.iload_n 2, 1) := by decide +kernel
theorem dX0_leadsTo_10 : decode cX0_leadsTo 10 = .ok (.iaload, 1) := by decide +kernel
theorem dX0_leadsTo_11 : decode cX0_leadsTo 11 = .ok (.iload_n 3, 1) := by decide +kernel
theorem dX0_leadsTo_12 : decode cX0_leadsTo 12 = .ok (.invokestatic 35, 3) := by decide +kernel
theorem dX0_leadsTo_15 : decode cX0_leadsTo 15 = .ok (.ireturn, 1) := by decide +kernel
theorem dX0_fillReached_0 : decode cX0_fillReached 0 = .ok (.aload_n 1, 1) := by decide +kernel
theorem dX0_fillReached_1 : decode cX0_fillReached 1 = .ok (.getfield 39, 3) := by decide +kernel
theorem dX0_fillReached_4 : decode cX0_fillReached 4 = .ok (.iconst 0, 1) := by decide +kernel
theorem dX0_fillReached_5 : decode cX0_fillReached 5 = .ok (.aload_n 0, 1) := by decide +kernel
theorem dX0_fillReached_6 : decode cX0_fillReached 6 = .ok (.getfield 9, 3) := by decide +kernel
theorem dX0_fillReached_9 : decode cX0_fillReached 9 = .ok (.iconst 0, 1) := by decide +kernel
theorem dX0_fillReached_10 : decode cX0_fillReached 10 = .ok (.bipush 10, 2) := by decide +kernel
theorem dX0_fillReached_12 : decode cX0_fillReached 12 = .ok (.invokestatic 44, 3) := by decide +kernel
theorem dX0_fillReached_15 : decode cX0_fillReached 15 = .ok (.iconst 0, 1) := by decide +kernel
theorem dX0_fillReached_16 : decode cX0_fillReached 16 = .ok (.istore_n 2, 1) := by decide +kernel
theorem dX0_fillReached_17 : decode cX0_fillReached 17 = .ok (.iload_n 2, 1) := by decide +kernel
theorem dX0_fillReached_18 : decode cX0_fillReached 18 = .ok (.aload_n 1, 1) := by decide +kernel
theorem dX0_fillReached_19 : decode cX0_fillReached 19 = .ok (.getfield 50, 3) := by decide +kernel
theorem dX0_fillReached_22 : decode cX0_fillReached 22 = .ok (.if_icmp .ge 53, 3) := by decide +kernel
theorem dX0_fillReached_25 : decode cX0_fillReached 25 = .ok (.iconst 0, 1) := by decide +kernel
theorem dX0_fillReached_26 : decode cX0_fillReached 26 = .ok (.istore_n 3, 1) := by decide +kernel
theorem dX0_fillReached_27 : decode cX0_fillReached 27 = .ok (.iload_n 3, 1) := by decide +kernel
theorem dX0_fillReached_28 : decode cX0_fillReached 28 = .ok (.aload_n 1, 1) := by decide +kernel
theorem dX0_fillReached_29 : decode cX0_fillReached 29 = .ok (.getfield 50, 3) := by decide +kernel
theorem dX0_fillReached_32 : decode cX0_fillReached 32 = .ok (.if_icmp .ge 37, 3) := by decide +kernel
theorem dX0_fillReached_35 : decode cX0_fillReached 35 = .ok (.aload_n 0, 1) := by decide +kernel
theorem dX0_fillReached_36 : decode cX0_fillReached 36 = .ok (.getfield 9, 3) := by decide +kernel
theorem dX0_fillReached_39 : decode cX0_fillReached 39 = .ok (.iload_n 3, 1) := by decide +kernel
theorem dX0_fillReached_40 : decode cX0_fillReached 40 = .ok (.iaload, 1) := by decide +kernel
theorem dX0_fillReached_41 : decode cX0_fillReached 41 = .ok (.iload_n 2, 1) := by decide +kernel
theorem dX0_fillReached_42 : decode cX0_fillReached 42 = .ok (.invokestatic 35, 3) := by decide +kernel
theorem dX0_fillReached_45 : decode cX0_fillReached 45 = .ok (.ifCond .eq 18, 3) := by decide +kernel
theorem dX0_fillReached_48 : decode cX0_fillReached 48 = .ok (.aload_n 0, 1) := by decide +kernel
theorem dX0_fillReached_49 : decode cX0_fillReached 49 = .ok (.getfield 9, 3) := by decide +kernel
theorem dX0_fillReached_52 : decode cX0_fillReached 52 = .ok (.iload_n 3, 1) := by decide +kernel
theorem dX0_fillReached_53 : decode cX0_fillReached 53 = .ok (.dup2, 1) := by decide +kernel
theorem dX0_fillReached_54 : decode cX0_fillReached 54 = .ok (.iaload, 1) := by decide +kernel
theorem dX0_fillReached_55 : decode cX0_fillReached 55 = .ok (.aload_n 0, 1) := by decide +kernel
theorem dX0_fillReached_56 : decode cX0_fillReached 56 = .ok (.getfield 9, 3) := by decide +kernel
theorem dX0_fillReached_59 : decode cX0_fillReached 59 = .ok (.iload_n 2, 1) := by decide +kernel
theorem dX0_fillReached_60 : decode cX0_fillReached 60 = .ok (.iaload, 1) := by decide +kernel
theorem dX0_fillReached_61 : decode cX0_fillReached 61 = .ok (.ior, 1) := by decide +kernel
theorem dX0_fillReached_62 : decode cX0_fillReached 62 = .ok (.iastore, 1) := by decide +kernel
theorem dX0_fillReached_63 : decode cX0_fillReached 63 = .ok (.iinc 3 1, 3) := by decide +kernel
theorem dX0_fillReached_66 : decode cX0_fillReached 66 = .ok (.goto (-39), 3) := by decide +kernel
theorem dX0_fillReached_69 : decode cX0_fillReached 69 = .ok (.iinc 2 1, 3) := by decide +kernel
theorem dX0_fillReached_72 : decode cX0_fillReached 72 = .ok (.goto (-55), 3) := by decide +kernel
theorem dX0_fillReached_75 : decode cX0_fillReached 75 = .ok (.return_, 1) := by decide +kernel
theorem dX0_countByDepth_0 : decode cX0_countByDepth 0 = .ok (.aload_n 0, 1) := by decide +kernel
theorem dX0_countByDepth_1 : decode cX0_countByDepth 1 = .ok (.getfield 27, 3) := by decide +kernel
theorem dX0_countByDepth_4 : decode cX0_countByDepth 4 = .ok (.aload_n 1, 1) := by decide +kernel
theorem dX0_countByDepth_5 : decode cX0_countByDepth 5 = .ok (.invokevirtual 54, 3) := by decide +kernel
theorem dX0_countByDepth_8 : decode cX0_countByDepth 8 = .ok (.ireturn, 1) := by decide +kernel
theorem dX0_countByTable_0 : decode cX0_countByTable 0 = .ok (.aload_n 0, 1) := by decide +kernel
theorem dX0_countByTable_1 : decode cX0_countByTable 1 = .ok (.aload_n 1, 1) := by decide +kernel
theorem dX0_countByTable_2 : decode cX0_countByTable 2 = .ok (.invokevirtual 31, 3) := by decide +kernel
theorem dX0_countByTable_5 : decode cX0_countByTable 5 = .ok (.iconst 0, 1) := by decide +kernel
theorem dX0_countByTable_6 : decode cX0_countByTable 6 = .ok (.istore_n 2, 1) := by decide +kernel
theorem dX0_countByTable_7 : decode cX0_countByTable 7 = .ok (.iconst 0, 1) := by decide +kernel
theorem dX0_countByTable_8 : decode cX0_countByTable 8 = .ok (.istore_n 3, 1) := by decide +kernel
theorem dX0_countByTable_9 : decode cX0_countByTable 9 = .ok (.iload_n 3, 1) := by decide +kernel
theorem dX0_countByTable_10 : decode cX0_countByTable 10 = .ok (.aload_n 1, 1) := by decide +kernel
theorem dX0_countByTable_11 : decode cX0_countByTable 11 = .ok (.getfield 50, 3) := by decide +kernel
theorem dX0_countByTable_14 : decode cX0_countByTable 14 = .ok (.if_icmp .ge 41, 3) := by decide +kernel
theorem dX0_countByTable_17 : decode cX0_countByTable 17 = .ok (.aload_n 0, 1) := by decide +kernel
theorem dX0_countByTable_18 : decode cX0_countByTable 18 = .ok (.aload_n 1, 1) := by decide +kernel
theorem dX0_countByTable_19 : decode cX0_countByTable 19 = .ok (.iload_n 3, 1) := by decide +kernel
theorem dX0_countByTable_20 : decode cX0_countByTable 20 = .ok (.invokevirtual 58, 3) := by decide +kernel
theorem dX0_countByTable_23 : decode cX0_countByTable 23 = .ok (.istore 4, 2) := by decide +kernel
theorem dX0_countByTable_25 : decode cX0_countByTable 25 = .ok (.iload 4, 2) := by decide +kernel
theorem dX0_countByTable_27 : decode cX0_countByTable 27 = .ok (.iload_n 3, 1) := by decide +kernel
theorem dX0_countByTable_28 : decode cX0_countByTable 28 = .ok (.invokestatic 35, 3) := by decide +kernel
theorem dX0_countByTable_31 : decode cX0_countByTable 31 = .ok (.ifCond .eq 18, 3) := by decide +kernel
theorem dX0_countByTable_34 : decode cX0_countByTable 34 = .ok (.iload 4, 2) := by decide +kernel
theorem dX0_countByTable_36 : decode cX0_countByTable 36 = .ok (.iload_n 3, 1) := by decide +kernel
theorem dX0_countByTable_37 : decode cX0_countByTable 37 = .ok (.invokestatic 62, 3) := by decide +kernel
theorem dX0_countByTable_40 : decode cX0_countByTable 40 = .ok (.iconst 1, 1) := by decide +kernel
theorem dX0_countByTable_41 : decode cX0_countByTable 41 = .ok (.isub, 1) := by decide +kernel
theorem dX0_countByTable_42 : decode cX0_countByTable 42 = .ok (.iand, 1) := by decide +kernel
theorem dX0_countByTable_43 : decode cX0_countByTable 43 = .ok (.ifCond .ne 6, 3) := by decide +kernel
theorem dX0_countByTable_46 : decode cX0_countByTable 46 = .ok (.iinc 2 1, 3) := by decide +kernel
theorem dX0_countByTable_49 : decode cX0_countByTable 49 = .ok (.iinc 3 1, 3) := by decide +kernel
theorem dX0_countByTable_52 : decode cX0_countByTable 52 = .ok (.goto (-43), 3) := by decide +kernel
theorem dX0_countByTable_55 : decode cX0_countByTable 55 = .ok (.iload_n 2, 1) := by decide +kernel
theorem dX0_countByTable_56 : decode cX0_countByTable 56 = .ok (.ireturn, 1) := by decide +kernel
theorem dX0_sizeAround_0 : decode cX0_sizeAround 0 = .ok (.aload_n 0, 1) := by decide +kernel
theorem dX0_sizeAround_1 : decode cX0_sizeAround 1 = .ok (.aload_n 1, 1) := by decide +kernel
theorem dX0_sizeAround_2 : decode cX0_sizeAround 2 = .ok (.invokevirtual 31, 3) := by decide +kernel
theorem dX0_sizeAround_5 : decode cX0_sizeAround 5 = .ok (.iconst 1, 1) := by decide +kernel
theorem dX0_sizeAround_6 : decode cX0_sizeAround 6 = .ok (.aload_n 0, 1) := by decide +kernel
theorem dX0_sizeAround_7 : decode cX0_sizeAround 7 = .ok (.aload_n 1, 1) := by decide +kernel
theorem dX0_sizeAround_8 : decode cX0_sizeAround 8 = .ok (.iload_n 2, 1) := by decide +kernel
theorem dX0_sizeAround_9 : decode cX0_sizeAround 9 = .ok (.invokevirtual 58, 3) := by decide +kernel
theorem dX0_sizeAround_12 : decode cX0_sizeAround 12 = .ok (.invokestatic 66, 3) := by decide +kernel
theorem dX0_sizeAround_15 : decode cX0_sizeAround 15 = .ok (.invokestatic 71, 3) := by decide +kernel
theorem dX0_sizeAround_18 : decode cX0_sizeAround 18 = .ok (.ireturn, 1) := by decide +kernel
theorem dX0_circleOf_0 : decode cX0_circleOf 0 = .ok (.iconst 0, 1) := by decide +kernel
theorem dX0_circleOf_1 : decode cX0_circleOf 1 = .ok (.istore_n 3, 1) := by decide +kernel
theorem dX0_circleOf_2 : decode cX0_circleOf 2 = .ok (.iconst 0, 1) := by decide +kernel
theorem dX0_circleOf_3 : decode cX0_circleOf 3 = .ok (.istore 4, 2) := by decide +kernel
theorem dX0_circleOf_5 : decode cX0_circleOf 5 = .ok (.iload 4, 2) := by decide +kernel
theorem dX0_circleOf_7 : decode cX0_circleOf 7 = .ok (.aload_n 1, 1) := by decide +kernel
theorem dX0_circleOf_8 : decode cX0_circleOf 8 = .ok (.getfield 50, 3) := by decide +kernel
theorem dX0_circleOf_11 : decode cX0_circleOf 11 = .ok (.if_icmp .ge 45, 3) := by decide +kernel
theorem dX0_circleOf_14 : decode cX0_circleOf 14 = .ok (.aload_n 0, 1) := by decide +kernel
theorem dX0_circleOf_15 : decode cX0_circleOf 15 = .ok (.getfield 9, 3) := by decide +kernel
theorem dX0_circleOf_18 : decode cX0_circleOf 18 = .ok (.iload_n 2, 1) := by decide +kernel
theorem dX0_circleOf_19 : decode cX0_circleOf 19 = .ok (.iaload, 1) := by decide +kernel
theorem dX0_circleOf_20 : decode cX0_circleOf 20 = .ok (.iload 4, 2) := by decide +kernel
theorem dX0_circleOf_22 : decode cX0_circleOf 22 = .ok (.invokestatic 35, 3) := by decide +kernel
theorem dX0_circleOf_25 : decode cX0_circleOf 25 = .ok (.ifCond .eq 25, 3) := by decide +kernel
theorem dX0_circleOf_28 : decode cX0_circleOf 28 = .ok (.aload_n 0, 1) := by decide +kernel
theorem dX0_circleOf_29 : decode cX0_circleOf 29 = .ok (.getfield 9, 3) := by decide +kernel
theorem dX0_circleOf_32 : decode cX0_circleOf 32 = .ok (.iload 4, 2) := by decide +kernel
theorem dX0_circleOf_34 : decode cX0_circleOf 34 = .ok (.iaload, 1) := by decide +kernel
theorem dX0_circleOf_35 : decode cX0_circleOf 35 = .ok (.iload_n 2, 1) := by decide +kernel
theorem dX0_circleOf_36 : decode cX0_circleOf 36 = .ok (.invokestatic 35, 3) := by decide +kernel
theorem dX0_circleOf_39 : decode cX0_circleOf 39 = .ok (.ifCond .eq 11, 3) := by decide +kernel
theorem dX0_circleOf_42 : decode cX0_circleOf 42 = .ok (.iload_n 3, 1) := by decide +kernel
theorem dX0_circleOf_43 : decode cX0_circleOf 43 = .ok (.iload 4, 2) := by decide +kernel
theorem dX0_circleOf_45 : decode cX0_circleOf 45 = .ok (.invokestatic 62, 3) := by decide +kernel
theorem dX0_circleOf_48 : decode cX0_circleOf 48 = .ok (.ior, 1) := by decide +kernel
theorem dX0_circleOf_49 : decode cX0_circleOf 49 = .ok (.istore_n 3, 1) := by decide +kernel
theorem dX0_circleOf_50 : decode cX0_circleOf 50 = .ok (.iinc 4 1, 3) := by decide +kernel
theorem dX0_circleOf_53 : decode cX0_circleOf 53 = .ok (.goto (-48), 3) := by decide +kernel
theorem dX0_circleOf_56 : decode cX0_circleOf 56 = .ok (.iload_n 3, 1) := by decide +kernel
theorem dX0_circleOf_57 : decode cX0_circleOf 57 = .ok (.ireturn, 1) := by decide +kernel
theorem dX0_indexByOrder_0 : decode cX0_indexByOrder 0 = .ok (.aload_n 0, 1) := by decide +kernel
theorem dX0_indexByOrder_1 : decode cX0_indexByOrder 1 = .ok (.aload_n 1, 1) := by decide +kernel
theorem dX0_indexByOrder_2 : decode cX0_indexByOrder 2 = .ok (.invokevirtual 77, 3) := by decide +kernel
theorem dX0_indexByOrder_5 : decode cX0_indexByOrder 5 = .ok (.iconst 0, 1) := by decide +kernel
theorem dX0_indexByOrder_6 : decode cX0_indexByOrder 6 = .ok (.istore_n 2, 1) := by decide +kernel
theorem dX0_indexByOrder_7 : decode cX0_indexByOrder 7 = .ok (.iload_n 2, 1) := by decide +kernel
theorem dX0_indexByOrder_8 : decode cX0_indexByOrder 8 = .ok (.aload_n 1, 1) := by decide +kernel
theorem dX0_indexByOrder_9 : decode cX0_indexByOrder 9 = .ok (.getfield 50, 3) := by decide +kernel
theorem dX0_indexByOrder_12 : decode cX0_indexByOrder 12 = .ok (.if_icmp .ge 24, 3) := by decide +kernel
theorem dX0_indexByOrder_15 : decode cX0_indexByOrder 15 = .ok (.aload_n 0, 1) := by decide +kernel
theorem dX0_indexByOrder_16 : decode cX0_indexByOrder 16 = .ok (.getfield 18, 3) := by decide +kernel
theorem dX0_indexByOrder_19 : decode cX0_indexByOrder 19 = .ok (.aload_n 0, 1) := by decide +kernel
theorem dX0_indexByOrder_20 : decode cX0_indexByOrder 20 = .ok (.getfield 15, 3) := by decide +kernel
theorem dX0_indexByOrder_23 : decode cX0_indexByOrder 23 = .ok (.iload_n 2, 1) := by decide +kernel
theorem dX0_indexByOrder_24 : decode cX0_indexByOrder 24 = .ok (.iaload, 1) := by decide +kernel
theorem dX0_indexByOrder_25 : decode cX0_indexByOrder 25 = .ok (.iaload, 1) := by decide +kernel
theorem dX0_indexByOrder_26 : decode cX0_indexByOrder 26 = .ok (.iload_n 2, 1) := by decide +kernel
theorem dX0_indexByOrder_27 : decode cX0_indexByOrder 27 = .ok (.if_icmp .le 9, 3) := by decide +kernel
theorem dX0_indexByOrder_30 : decode cX0_indexByOrder 30 = .ok (.iinc 2 1, 3) := by decide +kernel
theorem dX0_indexByOrder_33 : decode cX0_indexByOrder 33 = .ok (.goto (-26), 3) := by decide +kernel
theorem dX0_indexByOrder_36 : decode cX0_indexByOrder 36 = .ok (.iload_n 2, 1) := by decide +kernel
theorem dX0_indexByOrder_37 : decode cX0_indexByOrder 37 = .ok (.ireturn, 1) := by decide +kernel
theorem dX0_indexByTally_0 : decode cX0_indexByTally 0 = .ok (.aload_n 0, 1) := by decide +kernel
theorem dX0_indexByTally_1 : decode cX0_indexByTally 1 = .ok (.aload_n 1, 1) := by decide +kernel
theorem dX0_indexByTally_2 : decode cX0_indexByTally 2 = .ok (.invokevirtual 80, 3) := by decide +kernel
theorem dX0_indexByTally_5 : decode cX0_indexByTally 5 = .ok (.aload_n 0, 1) := by decide +kernel
theorem dX0_indexByTally_6 : decode cX0_indexByTally 6 = .ok (.getfield 21, 3) := by decide +kernel
theorem dX0_indexByTally_9 : decode cX0_indexByTally 9 = .ok (.iconst 0, 1) := by decide +kernel
theorem dX0_indexByTally_10 : decode cX0_indexByTally 10 = .ok (.invokestatic 83, 3) := by decide +kernel
theorem dX0_indexByTally_13 : decode cX0_indexByTally 13 = .ok (.iconst 0, 1) := by decide +kernel
theorem dX0_indexByTally_14 : decode cX0_indexByTally 14 = .ok (.istore_n 2, 1) := by decide +kernel
theorem dX0_indexByTally_15 : decode cX0_indexByTally 15 = .ok (.iload_n 2, 1) := by decide +kernel
theorem dX0_indexByTally_16 : decode cX0_indexByTally 16 = .ok (.aload_n 1, 1) := by decide +kernel
theorem dX0_indexByTally_17 : decode cX0_indexByTally 17 = .ok (.getfield 50, 3) := by decide +kernel
theorem dX0_indexByTally_20 : decode cX0_indexByTally 20 = .ok (.if_icmp .ge 24, 3) := by decide +kernel
theorem dX0_indexByTally_23 : decode cX0_indexByTally 23 = .ok (.aload_n 0, 1) := by decide +kernel
theorem dX0_indexByTally_24 : decode cX0_indexByTally 24 = .ok (.getfield 21, 3) := by decide +kernel
theorem dX0_indexByTally_27 : decode cX0_indexByTally 27 = .ok (.aload_n 0, 1) := by decide +kernel
theorem dX0_indexByTally_28 : decode cX0_indexByTally 28 = .ok (.getfield 18, 3) := by decide +kernel
theorem dX0_indexByTally_31 : decode cX0_indexByTally 31 = .ok (.iload_n 2, 1) := by decide +kernel
theorem dX0_indexByTally_32 : decode cX0_indexByTally 32 = .ok (.iaload, 1) := by decide +kernel
theorem dX0_indexByTally_33 : decode cX0_indexByTally 33 = .ok (.dup2, 1) := by decide +kernel
theorem dX0_indexByTally_34 : decode cX0_indexByTally 34 = .ok (.iaload, 1) := by decide +kernel
theorem dX0_indexByTally_35 : decode cX0_indexByTally 35 = .ok (.iconst 1, 1) := by decide +kernel
theorem dX0_indexByTally_36 : decode cX0_indexByTally 36 = .ok (.iadd, 1) := by decide +kernel
theorem dX0_indexByTally_37 : decode cX0_indexByTally 37 = .ok (.iastore, 1) := by decide +kernel
theorem dX0_indexByTally_38 : decode cX0_indexByTally 38 = .ok (.iinc 2 1, 3) := by decide +kernel
theorem dX0_indexByTally_41 : decode cX0_indexByTally 41 = .ok (.goto (-26), 3) := by decide +kernel
theorem dX0_indexByTally_44 : decode cX0_indexByTally 44 = .ok (.iconst 0, 1) := by decide +kernel
theorem dX0_indexByTally_45 : decode cX0_indexByTally 45 = .ok (.istore_n 2, 1) := by decide +kernel
theorem dX0_indexByTally_46 : decode cX0_indexByTally 46 = .ok (.bipush 9, 2) := by decide +kernel
theorem dX0_indexByTally_48 : decode cX0_indexByTally 48 = .ok (.istore_n 3, 1) := by decide +kernel
theorem dX0_indexByTally_49 : decode cX0_indexByTally 49 = .ok (.iload_n 3, 1) := by decide +kernel
theorem dX0_indexByTally_50 : decode cX0_indexByTally 50 = .ok (.ifCond .le 25, 3) := by decide +kernel
theorem dX0_indexByTally_53 : decode cX0_indexByTally 53 = .ok (.iload_n 2, 1) := by decide +kernel
theorem dX0_indexByTally_54 : decode cX0_indexByTally 54 = .ok (.aload_n 0, 1) := by decide +kernel
theorem dX0_indexByTally_55 : decode cX0_indexByTally 55 = .ok (.getfield 21, 3) := by decide +kernel
theorem dX0_indexByTally_58 : decode cX0_indexByTally 58 = .ok (.iload_n 3, 1) := by decide +kernel
theorem dX0_indexByTally_59 : decode cX0_indexByTally 59 = .ok (.iaload, 1) := by decide +kernel
theorem dX0_indexByTally_60 : decode cX0_indexByTally 60 = .ok (.iadd, 1) := by decide +kernel
theorem dX0_indexByTally_61 : decode cX0_indexByTally 61 = .ok (.istore_n 2, 1) := by decide +kernel
theorem dX0_indexByTally_62 : decode cX0_indexByTally 62 = .ok (.iload_n 2, 1) := by decide +kernel
theorem dX0_indexByTally_63 : decode cX0_indexByTally 63 = .ok (.iload_n 3, 1) := by decide +kernel
theorem dX0_indexByTally_64 : decode cX0_indexByTally 64 = .ok (.if_icmp .lt 5, 3) := by decide +kernel
theorem dX0_indexByTally_67 : decode cX0_indexByTally 67 = .ok (.iload_n 3, 1) := by decide +kernel
theorem dX0_indexByTally_68 : decode cX0_indexByTally 68 = .ok (.ireturn, 1) := by decide +kernel
theorem dX0_indexByTally_69 : decode cX0_indexByTally 69 = .ok (.iinc 3 (-1), 3) := by decide +kernel
theorem dX0_indexByTally_72 : decode cX0_indexByTally 72 = .ok (.goto (-23), 3) := by decide +kernel
theorem dX0_indexByTally_75 : decode cX0_indexByTally 75 = .ok (.iconst 0, 1) := by decide +kernel
theorem dX0_indexByTally_76 : decode cX0_indexByTally 76 = .ok (.ireturn, 1) := by decide +kernel
theorem dX0_noteAt_0 : decode cX0_noteAt 0 = .ok (.aload_n 0, 1) := by decide +kernel
theorem dX0_noteAt_1 : decode cX0_noteAt 1 = .ok (.aload_n 1, 1) := by decide +kernel
theorem dX0_noteAt_2 : decode cX0_noteAt 2 = .ok (.invokevirtual 77, 3) := by decide +kernel
theorem dX0_noteAt_5 : decode cX0_noteAt 5 = .ok (.aload_n 0, 1) := by decide +kernel
theorem dX0_noteAt_6 : decode cX0_noteAt 6 = .ok (.getfield 15, 3) := by decide +kernel
theorem dX0_noteAt_9 : decode cX0_noteAt 9 = .ok (.iload_n 2, 1) := by decide +kernel
theorem dX0_noteAt_10 : decode cX0_noteAt 10 = .ok (.iaload, 1) := by decide +kernel
theorem dX0_noteAt_11 : decode cX0_noteAt 11 = .ok (.ireturn, 1) := by decide +kernel
theorem dX0_fillCiting_0 : decode cX0_fillCiting 0 = .ok (.iconst 0, 1) := by decide +kernel
theorem dX0_fillCiting_1 : decode cX0_fillCiting 1 = .ok (.istore_n 2, 1) := by decide +kernel
theorem dX0_fillCiting_2 : decode cX0_fillCiting 2 = .ok (.iload_n 2, 1) := by decide +kernel
theorem dX0_fillCiting_3 : decode cX0_fillCiting 3 = .ok (.aload_n 1, 1) := by decide +kernel
theorem dX0_fillCiting_4 : decode cX0_fillCiting 4 = .ok (.getfield 50, 3) := by decide +kernel
theorem dX0_fillCiting_7 : decode cX0_fillCiting 7 = .ok (.if_icmp .ge 20, 3) := by decide +kernel
theorem dX0_fillCiting_10 : decode cX0_fillCiting 10 = .ok (.aload_n 0, 1) := by decide +kernel
theorem dX0_fillCiting_11 : decode cX0_fillCiting 11 = .ok (.getfield 18, 3) := by decide +kernel
theorem dX0_fillCiting_14 : decode cX0_fillCiting 14 = .ok (.iload_n 2, 1) := by decide +kernel
theorem dX0_fillCiting_15 : decode cX0_fillCiting 15 = .ok (.aload_n 1, 1) := by decide +kernel
theorem dX0_fillCiting_16 : decode cX0_fillCiting 16 = .ok (.iload_n 2, 1) := by decide +kernel
theorem dX0_fillCiting_17 : decode cX0_fillCiting 17 = .ok (.invokevirtual 89, 3) := by decide +kernel
theorem dX0_fillCiting_20 : decode cX0_fillCiting 20 = .ok (.iastore, 1) := by decide +kernel
theorem dX0_fillCiting_21 : decode cX0_fillCiting 21 = .ok (.iinc 2 1, 3) := by decide +kernel
theorem dX0_fillCiting_24 : decode cX0_fillCiting 24 = .ok (.goto (-22), 3) := by decide +kernel
theorem dX0_fillCiting_27 : decode cX0_fillCiting 27 = .ok (.return_, 1) := by decide +kernel
theorem dX0_sortNotes_0 : decode cX0_sortNotes 0 = .ok (.aload_n 0, 1) := by decide +kernel
theorem dX0_sortNotes_1 : decode cX0_sortNotes 1 = .ok (.aload_n 1, 1) := by decide +kernel
theorem dX0_sortNotes_2 : decode cX0_sortNotes 2 = .ok (.invokevirtual 80, 3) := by decide +kernel
theorem dX0_sortNotes_5 : decode cX0_sortNotes 5 = .ok (.iconst 0, 1) := by decide +kernel
theorem dX0_sortNotes_6 : decode cX0_sortNotes 6 = .ok (.istore_n 2, 1) := by decide +kernel
theorem dX0_sortNotes_7 : decode cX0_sortNotes 7 = .ok (.iload_n 2, 1) := by decide +kernel
theorem dX0_sortNotes_8 : decode cX0_sortNotes 8 = .ok (.aload_n 1, 1) := by decide +kernel
theorem dX0_sortNotes_9 : decode cX0_sortNotes 9 = .ok (.getfield 50, 3) := by decide +kernel
theorem dX0_sortNotes_12 : decode cX0_sortNotes 12 = .ok (.if_icmp .ge 59, 3) := by decide +kernel
theorem dX0_sortNotes_15 : decode cX0_sortNotes 15 = .ok (.iload_n 2, 1) := by decide +kernel
theorem dX0_sortNotes_16 : decode cX0_sortNotes 16 = .ok (.istore_n 3, 1) := by decide +kernel
theorem dX0_sortNotes_17 : decode cX0_sortNotes 17 = .ok (.iload_n 3, 1) := by decide +kernel
theorem dX0_sortNotes_18 : decode cX0_sortNotes 18 = .ok (.ifCond .le 40, 3) := by decide +kernel
theorem dX0_sortNotes_21 : decode cX0_sortNotes 21 = .ok (.aload_n 0, 1) := by decide +kernel
theorem dX0_sortNotes_22 : decode cX0_sortNotes 22 = .ok (.aload_n 1, 1) := by decide +kernel
theorem dX0_sortNotes_23 : decode cX0_sortNotes 23 = .ok (.iload_n 2, 1) := by decide +kernel
theorem dX0_sortNotes_24 : decode cX0_sortNotes 24 = .ok (.aload_n 0, 1) := by decide +kernel
theorem dX0_sortNotes_25 : decode cX0_sortNotes 25 = .ok (.getfield 15, 3) := by decide +kernel
theorem dX0_sortNotes_28 : decode cX0_sortNotes 28 = .ok (.iload_n 3, 1) := by decide +kernel
theorem dX0_sortNotes_29 : decode cX0_sortNotes 29 = .ok (.iconst 1, 1) := by decide +kernel
theorem dX0_sortNotes_30 : decode cX0_sortNotes 30 = .ok (.isub, 1) := by decide +kernel
theorem dX0_sortNotes_31 : decode cX0_sortNotes 31 = .ok (.iaload, 1) := by decide +kernel
theorem dX0_sortNotes_32 : decode cX0_sortNotes 32 = .ok (.invokevirtual 92, 3) := by decide +kernel
theorem dX0_sortNotes_35 : decode cX0_sortNotes 35 = .ok (.ifCond .eq 23, 3) := by decide +kernel
theorem dX0_sortNotes_38 : decode cX0_sortNotes 38 = .ok (.aload_n 0, 1) := by decide +kernel
theorem dX0_sortNotes_39 : decode cX0_sortNotes 39 = .ok (.getfield 15, 3) := by decide +kernel
theorem dX0_sortNotes_42 : decode cX0_sortNotes 42 = .ok (.iload_n 3, 1) := by decide +kernel
theorem dX0_sortNotes_43 : decode cX0_sortNotes 43 = .ok (.aload_n 0, 1) := by decide +kernel
theorem dX0_sortNotes_44 : decode cX0_sortNotes 44 = .ok (.getfield 15, 3) := by decide +kernel
theorem dX0_sortNotes_47 : decode cX0_sortNotes 47 = .ok (.iload_n 3, 1) := by decide +kernel
theorem dX0_sortNotes_48 : decode cX0_sortNotes 48 = .ok (.iconst 1, 1) := by decide +kernel
theorem dX0_sortNotes_49 : decode cX0_sortNotes 49 = .ok (.isub, 1) := by decide +kernel
theorem dX0_sortNotes_50 : decode cX0_sortNotes 50 = .ok (.iaload, 1) := by decide +kernel
theorem dX0_sortNotes_51 : decode cX0_sortNotes 51 = .ok (.iastore, 1) := by decide +kernel
theorem dX0_sortNotes_52 : decode cX0_sortNotes 52 = .ok (.iinc 3 (-1), 3) := by decide +kernel
theorem dX0_sortNotes_55 : decode cX0_sortNotes 55 = .ok (.goto (-38), 3) := by decide +kernel
theorem dX0_sortNotes_58 : decode cX0_sortNotes 58 = .ok (.aload_n 0, 1) := by decide +kernel
theorem dX0_sortNotes_59 : decode cX0_sortNotes 59 = .ok (.getfield 15, 3) := by decide +kernel
theorem dX0_sortNotes_62 : decode cX0_sortNotes 62 = .ok (.iload_n 3, 1) := by decide +kernel
theorem dX0_sortNotes_63 : decode cX0_sortNotes 63 = .ok (.iload_n 2, 1) := by decide +kernel
theorem dX0_sortNotes_64 : decode cX0_sortNotes 64 = .ok (.iastore, 1) := by decide +kernel
theorem dX0_sortNotes_65 : decode cX0_sortNotes 65 = .ok (.iinc 2 1, 3) := by decide +kernel
theorem dX0_sortNotes_68 : decode cX0_sortNotes 68 = .ok (.goto (-61), 3) := by decide +kernel
theorem dX0_sortNotes_71 : decode cX0_sortNotes 71 = .ok (.return_, 1) := by decide +kernel
theorem dX0_comesBefore_0 : decode cX0_comesBefore 0 = .ok (.aload_n 0, 1) := by decide +kernel
theorem dX0_comesBefore_1 : decode cX0_comesBefore 1 = .ok (.getfield 18, 3) := by decide +kernel
theorem dX0_comesBefore_4 : decode cX0_comesBefore 4 = .ok (.iload_n 2, 1) := by decide +kernel
theorem dX0_comesBefore_5 : decode cX0_comesBefore 5 = .ok (.iaload, 1) := by decide +kernel
theorem dX0_comesBefore_6 : decode cX0_comesBefore 6 = .ok (.aload_n 0, 1) := by decide +kernel
theorem dX0_comesBefore_7 : decode cX0_comesBefore 7 = .ok (.getfield 18, 3) := by decide +kernel
theorem dX0_comesBefore_10 : decode cX0_comesBefore 10 = .ok (.iload_n 3, 1) := by decide +kernel
theorem dX0_comesBefore_11 : decode cX0_comesBefore 11 = .ok (.iaload, 1) := by decide +kernel
theorem dX0_comesBefore_12 : decode cX0_comesBefore 12 = .ok (.if_icmp .eq 24, 3) := by decide +kernel
theorem dX0_comesBefore_15 : decode cX0_comesBefore 15 = .ok (.aload_n 0, 1) := by decide +kernel
theorem dX0_comesBefore_16 : decode cX0_comesBefore 16 = .ok (.getfield 18, 3) := by decide +kernel
theorem dX0_comesBefore_19 : decode cX0_comesBefore 19 = .ok (.iload_n 2, 1) := by decide +kernel
theorem dX0_comesBefore_20 : decode cX0_comesBefore 20 = .ok (.iaload, 1) := by decide +kernel
theorem dX0_comesBefore_21 : decode cX0_comesBefore 21 = .ok (.aload_n 0, 1) := by decide +kernel
theorem dX0_comesBefore_22 : decode cX0_comesBefore 22 = .ok (.getfield 18, 3) := by decide +kernel
theorem dX0_comesBefore_25 : decode cX0_comesBefore 25 = .ok (.iload_n 3, 1) := by decide +kernel
theorem dX0_comesBefore_26 : decode cX0_comesBefore 26 = .ok (.iaload, 1) := by decide +kernel
theorem dX0_comesBefore_27 : decode cX0_comesBefore 27 = .ok (.if_icmp .le 7, 3) := by decide +kernel
theorem dX0_comesBefore_30 : decode cX0_comesBefore 30 = .ok (.iconst 1, 1) := by decide +kernel
theorem dX0_comesBefore_31 : decode cX0_comesBefore 31 = .ok (.goto 4, 3) := by decide +kernel
theorem dX0_comesBefore_34 : decode cX0_comesBefore 34 = .ok (.iconst 0, 1) := by decide +kernel
theorem dX0_comesBefore_35 : decode cX0_comesBefore 35 = .ok (.ireturn, 1) := by decide +kernel
theorem dX0_comesBefore_36 : decode cX0_comesBefore 36 = .ok (.aload_n 1, 1) := by decide +kernel
theorem dX0_comesBefore_37 : decode cX0_comesBefore 37 = .ok (.getfield 96, 3) := by decide +kernel
theorem dX0_comesBefore_40 : decode cX0_comesBefore 40 = .ok (.iload_n 2, 1) := by decide +kernel
theorem dX0_comesBefore_41 : decode cX0_comesBefore 41 = .ok (.iaload, 1) := by decide +kernel
theorem dX0_comesBefore_42 : decode cX0_comesBefore 42 = .ok (.aload_n 1, 1) := by decide +kernel
theorem dX0_comesBefore_43 : decode cX0_comesBefore 43 = .ok (.getfield 96, 3) := by decide +kernel
theorem dX0_comesBefore_46 : decode cX0_comesBefore 46 = .ok (.iload_n 3, 1) := by decide +kernel
theorem dX0_comesBefore_47 : decode cX0_comesBefore 47 = .ok (.iaload, 1) := by decide +kernel
theorem dX0_comesBefore_48 : decode cX0_comesBefore 48 = .ok (.if_icmp .le 7, 3) := by decide +kernel
theorem dX0_comesBefore_51 : decode cX0_comesBefore 51 = .ok (.iconst 1, 1) := by decide +kernel
theorem dX0_comesBefore_52 : decode cX0_comesBefore 52 = .ok (.goto 4, 3) := by decide +kernel
theorem dX0_comesBefore_55 : decode cX0_comesBefore 55 = .ok (.iconst 0, 1) := by decide +kernel
theorem dX0_comesBefore_56 : decode cX0_comesBefore 56 = .ok (.ireturn, 1) := by decide +kernel
theorem dX1_perform_0 : decode cX1_perform 0 = .ok (.iload_n 2, 1) := by decide +kernel
theorem dX1_perform_1 : decode cX1_perform 1 = .ok (.tableswitch 190 0 11 #[63, 71, 91, 113, 124, 134, 140, 146, 157, 167, 179, 184], 63) := by decide +kernel
theorem dX1_perform_64 : decode cX1_perform 64 = .ok (.aload_n 0, 1) := by decide +kernel
theorem dX1_perform_65 : decode cX1_perform 65 = .ok (.iload_n 3, 1) := by decide +kernel
theorem dX1_perform_66 : decode cX1_perform 66 = .ok (.iload 4, 2) := by decide +kernel
theorem dX1_perform_68 : decode cX1_perform 68 = .ok (.invokestatic 9, 3) := by decide +kernel
theorem dX1_perform_71 : decode cX1_perform 71 = .ok (.ireturn, 1) := by decide +kernel
theorem dX1_perform_72 : decode cX1_perform 72 = .ok (.aload_n 0, 1) := by decide +kernel
theorem dX1_perform_73 : decode cX1_perform 73 = .ok (.getfield 15, 3) := by decide +kernel
theorem dX1_perform_76 : decode cX1_perform 76 = .ok (.iload_n 3, 1) := by decide +kernel
theorem dX1_perform_77 : decode cX1_perform 77 = .ok (.dup2, 1) := by decide +kernel
theorem dX1_perform_78 : decode cX1_perform 78 = .ok (.iaload, 1) := by decide +kernel
theorem dX1_perform_79 : decode cX1_perform 79 = .ok (.iload 4, 2) := by decide +kernel
theorem dX1_perform_81 : decode cX1_perform 81 = .ok (.invokestatic 21, 3) := by decide +kernel
theorem dX1_perform_84 : decode cX1_perform 84 = .ok (.ior, 1) := by decide +kernel
theorem dX1_perform_85 : decode cX1_perform 85 = .ok (.iastore, 1) := by decide +kernel
theorem dX1_perform_86 : decode cX1_perform 86 = .ok (.aload_n 0, 1) := by decide +kernel
theorem dX1_perform_87 : decode cX1_perform 87 = .ok (.iload_n 3, 1) := by decide +kernel
theorem dX1_perform_88 : decode cX1_perform 88 = .ok (.invokevirtual 25, 3) := by decide +kernel
theorem dX1_perform_91 : decode cX1_perform 91 = .ok (.ireturn, 1) := by decide +kernel
theorem dX1_perform_92 : decode cX1_perform 92 = .ok (.aload_n 0, 1) := by decide +kernel
theorem dX1_perform_93 : decode cX1_perform 93 = .ok (.getfield 15, 3) := by decide +kernel
theorem dX1_perform_96 : decode cX1_perform 96 = .ok (.iload_n 3, 1) := by decide +kernel
theorem dX1_perform_97 : decode cX1_perform 97 = .ok (.dup2, 1) := by decide +kernel
theorem dX1_perform_98 : decode cX1_perform 98 = .ok (.iaload, 1) := by decide +kernel
theorem dX1_perform_99 : decode cX1_perform 99 = .ok (.iload 4, 2) := by decide +kernel
theorem dX1_perform_101 : decode cX1_perform 101 = .ok (.invokestatic 21, 3) := by decide +kernel
theorem dX1_perform_104 : decode cX1_perform 104 = .ok (.iconst (-1), 1) := by decide +kernel
theorem dX1_perform_105 : decode cX1_perform 105 = .ok (.ixor, 1) := by decide +kernel
theorem dX1_perform_106 : decode cX1_perform 106 = .ok (.iand, 1) := by decide +kernel
theorem dX1_perform_107 : decode cX1_perform 107 = .ok (.iastore, 1) := by decide +kernel
theorem dX1_perform_108 : decode cX1_perform 108 = .ok (.aload_n 0, 1) := by decide +kernel
theorem dX1_perform_109 : decode cX1_perform 109 = .ok (.iload_n 3, 1) := by decide +kernel
theorem dX1_perform_110 : decode cX1_perform 110 = .ok (.invokevirtual 25, 3) := by decide +kernel
theorem dX1_perform_113 : decode cX1_perform 113 = .ok (.ireturn, 1) := by decide +kernel
theorem dX1_perform_114 : decode cX1_perform 114 = .ok (.aload_n 0, 1) := by decide +kernel
theorem dX1_perform_115 : decode cX1_perform 115 = .ok (.getfield 28, 3) := by decide +kernel
theorem dX1_perform_118 : decode cX1_perform 118 = .ok (.iload_n 3, 1) := by decide +kernel
theorem dX1_perform_119 : decode cX1_perform 119 = .ok (.iload 4, 2) := by decide +kernel
theorem dX1_perform_121 : decode cX1_perform 121 = .ok (.invokestatic 31, 3) := by decide +kernel
theorem dX1_perform_124 : decode cX1_perform 124 = .ok (.ireturn, 1) := by decide +kernel
theorem dX1_perform_125 : decode cX1_perform 125 = .ok (.aload_n 0, 1) := by decide +kernel
theorem dX1_perform_126 : decode cX1_perform 126 = .ok (.iload_n 3, 1) := by decide +kernel
theorem dX1_perform_127 : decode cX1_perform 127 = .ok (.iload 4, 2) := by decide +kernel
theorem dX1_perform_129 : decode cX1_perform 129 = .ok (.iload 5, 2) := by decide +kernel
theorem dX1_perform_131 : decode cX1_perform 131 = .ok (.invokestatic 35, 3) := by decide +kernel
theorem dX1_perform_134 : decode cX1_perform 134 = .ok (.ireturn, 1) := by decide +kernel
theorem dX1_perform_135 : decode cX1_perform 135 = .ok (.aload_n 0, 1) := by decide +kernel
theorem dX1_perform_136 : decode cX1_perform 136 = .ok (.iload_n 3, 1) := by decide +kernel
theorem dX1_perform_137 : decode cX1_perform 137 = .ok (.invokestatic 39, 3) := by decide +kernel
theorem dX1_perform_140 : decode cX1_perform 140 = .ok (.ireturn, 1) := by decide +kernel
theorem dX1_perform_141 : decode cX1_perform 141 = .ok (.aload_n 0, 1) := by decide +kernel
theorem dX1_perform_142 : decode cX1_perform 142 = .ok (.iload_n 3, 1) := by decide +kernel
theorem dX1_perform_143 : decode cX1_perform 143 = .ok (.invokestatic 43, 3) := by decide +kernel
theorem dX1_perform_146 : decode cX1_perform 146 = .ok (.ireturn, 1) := by decide +kernel
theorem dX1_perform_147 : decode cX1_perform 147 = .ok (.aload_n 0, 1) := by decide +kernel
theorem dX1_perform_148 : decode cX1_perform 148 = .ok (.getfield 46, 3) := by decide +kernel
theorem dX1_perform_151 : decode cX1_perform 151 = .ok (.iload_n 3, 1) := by decide +kernel
theorem dX1_perform_152 : decode cX1_perform 152 = .ok (.iload 4, 2) := by decide +kernel
theorem dX1_perform_154 : decode cX1_perform 154 = .ok (.invokestatic 31, 3) := by decide +kernel
theorem dX1_perform_157 : decode cX1_perform 157 = .ok (.ireturn, 1) := by decide +kernel
theorem dX1_perform_158 : decode cX1_perform 158 = .ok (.aload_n 0, 1) := by decide +kernel
theorem dX1_perform_159 : decode cX1_perform 159 = .ok (.aload_n 1, 1) := by decide +kernel
theorem dX1_perform_160 : decode cX1_perform 160 = .ok (.aload_n 0, 1) := by decide +kernel
theorem dX1_perform_161 : decode cX1_perform 161 = .ok (.invokevirtual 49, 3) := by decide +kernel
theorem dX1_perform_164 : decode cX1_perform 164 = .ok (.invokestatic 55, 3) := by decide +kernel
theorem dX1_perform_167 : decode cX1_perform 167 = .ok (.ireturn, 1) := by decide +kernel
theorem dX1_perform_168 : decode cX1_perform 168 = .ok (.aload_n 0, 1) := by decide +kernel
theorem dX1_perform_169 : decode cX1_perform 169 = .ok (.iload_n 3, 1) := by decide +kernel
theorem dX1_perform_170 : decode cX1_perform 170 = .ok (.invokestatic 58, 3) := by decide +kernel
theorem dX1_perform_173 : decode cX1_perform 173 = .ok (.aload_n 0, 1) := by decide +kernel
theorem dX1_perform_174 : decode cX1_perform 174 = .ok (.bipush 104, 2) := by decide +kernel
theorem dX1_perform_176 : decode cX1_perform 176 = .ok (.invokevirtual 62, 3) := by decide +kernel
theorem dX1_perform_179 : decode cX1_perform 179 = .ok (.ireturn, 1) := by decide +kernel
theorem dX1_perform_180 : decode cX1_perform 180 = .ok (.aload_n 0, 1) := by decide +kernel
theorem dX1_perform_181 : decode cX1_perform 181 = .ok (.invokestatic 66, 3) := by decide +kernel
theorem dX1_perform_184 : decode cX1_perform 184 = .ok (.ireturn, 1) := by decide +kernel
theorem dX1_perform_185 : decode cX1_perform 185 = .ok (.aload_n 0, 1) := by decide +kernel
theorem dX1_perform_186 : decode cX1_perform 186 = .ok (.iload_n 3, 1) := by decide +kernel
theorem dX1_perform_187 : decode cX1_perform 187 = .ok (.invokestatic 69, 3) := by decide +kernel
theorem dX1_perform_190 : decode cX1_perform 190 = .ok (.ireturn, 1) := by decide +kernel
theorem dX1_perform_191 : decode cX1_perform 191 = .ok (.iconst 0, 1) := by decide +kernel
theorem dX1_perform_192 : decode cX1_perform 192 = .ok (.ireturn, 1) := by decide +kernel
theorem dX1_putNote_0 : decode cX1_putNote 0 = .ok (.aload_n 0, 1) := by decide +kernel
theorem dX1_putNote_1 : decode cX1_putNote 1 = .ok (.getfield 72, 3) := by decide +kernel
theorem dX1_putNote_4 : decode cX1_putNote 4 = .ok (.istore_n 3, 1) := by decide +kernel
theorem dX1_putNote_5 : decode cX1_putNote 5 = .ok (.aload_n 0, 1) := by decide +kernel
theorem dX1_putNote_6 : decode cX1_putNote 6 = .ok (.getfield 76, 3) := by decide +kernel
theorem dX1_putNote_9 : decode cX1_putNote 9 = .ok (.iload_n 3, 1) := by decide +kernel
theorem dX1_putNote_10 : decode cX1_putNote 10 = .ok (.iload_n 1, 1) := by decide +kernel
theorem dX1_putNote_11 : decode cX1_putNote 11 = .ok (.iastore, 1) := by decide +kernel
theorem dX1_putNote_12 : decode cX1_putNote 12 = .ok (.aload_n 0, 1) := by decide +kernel
theorem dX1_putNote_13 : decode cX1_putNote 13 = .ok (.getfield 79, 3) := by decide +kernel
theorem dX1_putNote_16 : decode cX1_putNote 16 = .ok (.iload_n 3, 1) := by decide +kernel
theorem dX1_putNote_17 : decode cX1_putNote 17 = .ok (.iload_n 2, 1) := by decide +kernel
theorem dX1_putNote_18 : decode cX1_putNote 18 = .ok (.iastore, 1) := by decide +kernel
theorem dX1_putNote_19 : decode cX1_putNote 19 = .ok (.aload_n 0, 1) := by decide +kernel
theorem dX1_putNote_20 : decode cX1_putNote 20 = .ok (.getfield 82, 3) := by decide +kernel
theorem dX1_putNote_23 : decode cX1_putNote 23 = .ok (.iload_n 3, 1) := by decide +kernel
theorem dX1_putNote_24 : decode cX1_putNote 24 = .ok (.bipush 102, 2) := by decide +kernel
theorem dX1_putNote_26 : decode cX1_putNote 26 = .ok (.castore, 1) := by decide +kernel
theorem dX1_putNote_27 : decode cX1_putNote 27 = .ok (.aload_n 0, 1) := by decide +kernel
theorem dX1_putNote_28 : decode cX1_putNote 28 = .ok (.getfield 15, 3) := by decide +kernel
theorem dX1_putNote_31 : decode cX1_putNote 31 = .ok (.iload_n 3, 1) := by decide +kernel
theorem dX1_putNote_32 : decode cX1_putNote 32 = .ok (.iconst 0, 1) := by decide +kernel
theorem dX1_putNote_33 : decode cX1_putNote 33 = .ok (.iastore, 1) := by decide +kernel
theorem dX1_putNote_34 : decode cX1_putNote 34 = .ok (.aload_n 0, 1) := by decide +kernel
theorem dX1_putNote_35 : decode cX1_putNote 35 = .ok (.iload_n 3, 1) := by decide +kernel
theorem dX1_putNote_36 : decode cX1_putNote 36 = .ok (.iconst 1, 1) := by decide +kernel
theorem dX1_putNote_37 : decode cX1_putNote 37 = .ok (.iadd, 1) := by decide +kernel
theorem dX1_putNote_38 : decode cX1_putNote 38 = .ok (.putfield 72, 3) := by decide +kernel
theorem dX1_putNote_41 : decode cX1_putNote 41 = .ok (.iload_n 3, 1) := by decide +kernel
theorem dX1_putNote_42 : decode cX1_putNote 42 = .ok (.ireturn, 1) := by decide +kernel
theorem dX1_replace_0 : decode cX1_replace 0 = .ok (.aload_n 0, 1) := by decide +kernel
theorem dX1_replace_1 : decode cX1_replace 1 = .ok (.iload_n 1, 1) := by decide +kernel
theorem dX1_replace_2 : decode cX1_replace 2 = .ok (.iaload, 1) := by decide +kernel
theorem dX1_replace_3 : decode cX1_replace 3 = .ok (.istore_n 3, 1) := by decide +kernel
theorem dX1_replace_4 : decode cX1_replace 4 = .ok (.aload_n 0, 1) := by decide +kernel
theorem dX1_replace_5 : decode cX1_replace 5 = .ok (.iload_n 1, 1) := by decide +kernel
theorem dX1_replace_6 : decode cX1_replace 6 = .ok (.iload_n 2, 1) := by decide +kernel
theorem dX1_replace_7 : decode cX1_replace 7 = .ok (.iastore, 1) := by decide +kernel
theorem dX1_replace_8 : decode cX1_replace 8 = .ok (.iload_n 3, 1) := by decide +kernel
theorem dX1_replace_9 : decode cX1_replace 9 = .ok (.ireturn, 1) := by decide +kernel
theorem dX1_putNet_0 : decode cX1_putNet 0 = .ok (.aload_n 0, 1) := by decide +kernel
theorem dX1_putNet_1 : decode cX1_putNet 1 = .ok (.getfield 86, 3) := by decide +kernel
theorem dX1_putNet_4 : decode cX1_putNet 4 = .ok (.istore 4, 2) := by decide +kernel
theorem dX1_putNet_6 : decode cX1_putNet 6 = .ok (.aload_n 0, 1) := by decide +kernel
theorem dX1_putNet_7 : decode cX1_putNet 7 = .ok (.getfield 89, 3) := by decide +kernel
theorem dX1_putNet_10 : decode cX1_putNet 10 = .ok (.iload 4, 2) := by decide +kernel
theorem dX1_putNet_12 : decode cX1_putNet 12 = .ok (.iload_n 1, 1) := by decide +kernel
theorem dX1_putNet_13 : decode cX1_putNet 13 = .ok (.iastore, 1) := by decide +kernel
theorem dX1_putNet_14 : decode cX1_putNet 14 = .ok (.aload_n 0, 1) := by decide +kernel
theorem dX1_putNet_15 : decode cX1_putNet 15 = .ok (.getfield 92, 3) := by decide +kernel
theorem dX1_putNet_18 : decode cX1_putNet 18 = .ok (.iload 4, 2) := by decide +kernel
theorem dX1_putNet_20 : decode cX1_putNet 20 = .ok (.iload_n 2, 1) := by decide +kernel
theorem dX1_putNet_21 : decode cX1_putNet 21 = .ok (.iastore, 1) := by decide +kernel
theorem dX1_putNet_22 : decode cX1_putNet 22 = .ok (.aload_n 0, 1) := by decide +kernel
theorem dX1_putNet_23 : decode cX1_putNet 23 = .ok (.getfield 95, 3) := by decide +kernel
theorem dX1_putNet_26 : decode cX1_putNet 26 = .ok (.iload 4, 2) := by decide +kernel
theorem dX1_putNet_28 : decode cX1_putNet 28 = .ok (.iload_n 3, 1) := by decide +kernel
theorem dX1_putNet_29 : decode cX1_putNet 29 = .ok (.iastore, 1) := by decide +kernel
theorem dX1_putNet_30 : decode cX1_putNet 30 = .ok (.aload_n 0, 1) := by decide +kernel
theorem dX1_putNet_31 : decode cX1_putNet 31 = .ok (.iload 4, 2) := by decide +kernel
theorem dX1_putNet_33 : decode cX1_putNet 33 = .ok (.iconst 1, 1) := by decide +kernel
theorem dX1_putNet_34 : decode cX1_putNet 34 = .ok (.iadd, 1) := by decide +kernel
theorem dX1_putNet_35 : decode cX1_putNet 35 = .ok (.putfield 86, 3) := by decide +kernel
theorem dX1_putNet_38 : decode cX1_putNet 38 = .ok (.iload 4, 2) := by decide +kernel
theorem dX1_putNet_40 : decode cX1_putNet 40 = .ok (.ireturn, 1) := by decide +kernel
theorem dX1_cutNet_0 : decode cX1_cutNet 0 = .ok (.aload_n 0, 1) := by decide +kernel
theorem dX1_cutNet_1 : decode cX1_cutNet 1 = .ok (.getfield 86, 3) := by decide +kernel
theorem dX1_cutNet_4 : decode cX1_cutNet 4 = .ok (.iconst 1, 1) := by decide +kernel
theorem dX1_cutNet_5 : decode cX1_cutNet 5 = .ok (.isub, 1) := by decide +kernel
theorem dX1_cutNet_6 : decode cX1_cutNet 6 = .ok (.istore_n 2, 1) := by decide +kernel
theorem dX1_cutNet_7 : decode cX1_cutNet 7 = .ok (.iload_n 1, 1) := by decide +kernel
theorem dX1_cutNet_8 : decode cX1_cutNet 8 = .ok (.istore_n 3, 1) := by decide +kernel
theorem dX1_cutNet_9 : decode cX1_cutNet 9 = .ok (.iload_n 3, 1) := by decide +kernel
theorem dX1_cutNet_10 : decode cX1_cutNet 10 = .ok (.iload_n 2, 1) := by decide +kernel
theorem dX1_cutNet_11 : decode cX1_cutNet 11 = .ok (.if_icmp .ge 51, 3) := by decide +kernel
theorem dX1_cutNet_14 : decode cX1_cutNet 14 = .ok (.aload_n 0, 1) := by decide +kernel
theorem dX1_cutNet_15 : decode cX1_cutNet 15 = .ok (.getfield 89, 3) := by decide +kernel
theorem dX1_cutNet_18 : decode cX1_cutNet 18 = .ok (.iload_n 3, 1) := by decide +kernel
theorem dX1_cutNet_19 : decode cX1_cutNet 19 = .ok (.aload_n 0, 1) := by decide +kernel
theorem dX1_cutNet_20 : decode cX1_cutNet 20 = .ok (.getfield 89, 3) := by decide +kernel
theorem dX1_cutNet_23 : decode cX1_cutNet 23 = .ok (.iload_n 3, 1) := by decide +kernel
theorem dX1_cutNet_24 : decode cX1_cutNet 24 = .ok (.iconst 1, 1) := by decide +kernel
theorem dX1_cutNet_25 : decode cX1_cutNet 25 = .ok (.iadd, 1) := by decide +kernel
theorem dX1_cutNet_26 : decode cX1_cutNet 26 = .ok (.iaload, 1) := by decide +kernel
theorem dX1_cutNet_27 : decode cX1_cutNet 27 = .ok (.iastore, 1) := by decide +kernel
theorem dX1_cutNet_28 : decode cX1_cutNet 28 = .ok (.aload_n 0, 1) := by decide +kernel
theorem dX1_cutNet_29 : decode cX1_cutNet 29 = .ok (.getfield 92, 3) := by decide +kernel
theorem dX1_cutNet_32 : decode cX1_cutNet 32 = .ok (.iload_n 3, 1) := by decide +kernel
theorem dX1_cutNet_33 : decode cX1_cutNet 33 = .ok (.aload_n 0, 1) := by decide +kernel
theorem dX1_cutNet_34 : decode cX1_cutNet 34 = .ok (.getfield 92, 3) := by decide +kernel
theorem dX1_cutNet_37 : decode cX1_cutNet 37 = .ok (.iload_n 3, 1) := by decide +kernel
theorem dX1_cutNet_38 : decode cX1_cutNet 38 = .ok (.iconst 1, 1) := by decide +kernel
theorem dX1_cutNet_39 : decode cX1_cutNet 39 = .ok (.iadd, 1) := by decide +kernel
theorem dX1_cutNet_40 : decode cX1_cutNet 40 = .ok (.iaload, 1) := by decide +kernel
theorem dX1_cutNet_41 : decode cX1_cutNet 41 = .ok (.iastore, 1) := by decide +kernel
theorem dX1_cutNet_42 : decode cX1_cutNet 42 = .ok (.aload_n 0, 1) := by decide +kernel
theorem dX1_cutNet_43 : decode cX1_cutNet 43 = .ok (.getfield 95, 3) := by decide +kernel
theorem dX1_cutNet_46 : decode cX1_cutNet 46 = .ok (.iload_n 3, 1) := by decide +kernel
theorem dX1_cutNet_47 : decode cX1_cutNet 47 = .ok (.aload_n 0, 1) := by decide +kernel
theorem dX1_cutNet_48 : decode cX1_cutNet 48 = .ok (.getfield 95, 3) := by decide +kernel
theorem dX1_cutNet_51 : decode cX1_cutNet 51 = .ok (.iload_n 3, 1) := by decide +kernel
theorem dX1_cutNet_52 : decode cX1_cutNet 52 = .ok (.iconst 1, 1) := by decide +kernel
theorem dX1_cutNet_53 : decode cX1_cutNet 53 = .ok (.iadd, 1) := by decide +kernel
theorem dX1_cutNet_54 : decode cX1_cutNet 54 = .ok (.iaload, 1) := by decide +kernel
theorem dX1_cutNet_55 : decode cX1_cutNet 55 = .ok (.iastore, 1) := by decide +kernel
theorem dX1_cutNet_56 : decode cX1_cutNet 56 = .ok (.iinc 3 1, 3) := by decide +kernel
theorem dX1_cutNet_59 : decode cX1_cutNet 59 = .ok (.goto (-50), 3) := by decide +kernel
theorem dX1_cutNet_62 : decode cX1_cutNet 62 = .ok (.aload_n 0, 1) := by decide +kernel
theorem dX1_cutNet_63 : decode cX1_cutNet 63 = .ok (.iload_n 2, 1) := by decide +kernel
theorem dX1_cutNet_64 : decode cX1_cutNet 64 = .ok (.putfield 86, 3) := by decide +kernel
theorem dX1_cutNet_67 : decode cX1_cutNet 67 = .ok (.iload_n 2, 1) := by decide +kernel
theorem dX1_cutNet_68 : decode cX1_cutNet 68 = .ok (.ireturn, 1) := by decide +kernel
theorem dX1_haulNet_0 : decode cX1_haulNet 0 = .ok (.aload_n 0, 1) := by decide +kernel
theorem dX1_haulNet_1 : decode cX1_haulNet 1 = .ok (.iload_n 1, 1) := by decide +kernel
theorem dX1_haulNet_2 : decode cX1_haulNet 2 = .ok (.invokevirtual 98, 3) := by decide +kernel
theorem dX1_haulNet_5 : decode cX1_haulNet 5 = .ok (.istore_n 2, 1) := by decide +kernel
theorem dX1_haulNet_6 : decode cX1_haulNet 6 = .ok (.iconst 0, 1) := by decide +kernel
theorem dX1_haulNet_7 : decode cX1_haulNet 7 = .ok (.istore_n 3, 1) := by decide +kernel
theorem dX1_haulNet_8 : decode cX1_haulNet 8 = .ok (.iload_n 3, 1) := by decide +kernel
theorem dX1_haulNet_9 : decode cX1_haulNet 9 = .ok (.aload_n 0, 1) := by decide +kernel
theorem dX1_haulNet_10 : decode cX1_haulNet 10 = .ok (.getfield 72, 3) := by decide +kernel
theorem dX1_haulNet_13 : decode cX1_haulNet 13 = .ok (.if_icmp .ge 25, 3) := by decide +kernel
theorem dX1_haulNet_16 : decode cX1_haulNet 16 = .ok (.iload_n 2, 1) := by decide +kernel
theorem dX1_haulNet_17 : decode cX1_haulNet 17 = .ok (.iload_n 3, 1) := by decide +kernel
theorem dX1_haulNet_18 : decode cX1_haulNet 18 = .ok (.invokestatic 101, 3) := by decide +kernel
theorem dX1_haulNet_21 : decode cX1_haulNet 21 = .ok (.ifCond .eq 11, 3) := by decide +kernel
theorem dX1_haulNet_24 : decode cX1_haulNet 24 = .ok (.aload_n 0, 1) := by decide +kernel
theorem dX1_haulNet_25 : decode cX1_haulNet 25 = .ok (.getfield 82, 3) := by decide +kernel
theorem dX1_haulNet_28 : decode cX1_haulNet 28 = .ok (.iload_n 3, 1) := by decide +kernel
theorem dX1_haulNet_29 : decode cX1_haulNet 29 = .ok (.bipush 104, 2) := by decide +kernel
theorem dX1_haulNet_31 : decode cX1_haulNet 31 = .ok (.castore, 1) := by decide +kernel
theorem dX1_haulNet_32 : decode cX1_haulNet 32 = .ok (.iinc 3 1, 3) := by decide +kernel
theorem dX1_haulNet_35 : decode cX1_haulNet 35 = .ok (.goto (-27), 3) := by decide +kernel
theorem dX1_haulNet_38 : decode cX1_haulNet 38 = .ok (.iload_n 2, 1) := by decide +kernel
theorem dX1_haulNet_39 : decode cX1_haulNet 39 = .ok (.invokestatic 105, 3) := by decide +kernel
theorem dX1_haulNet_42 : decode cX1_haulNet 42 = .ok (.istore_n 3, 1) := by decide +kernel
theorem dX1_haulNet_43 : decode cX1_haulNet 43 = .ok (.aload_n 0, 1) := by decide +kernel
theorem dX1_haulNet_44 : decode cX1_haulNet 44 = .ok (.dup, 1) := by decide +kernel
theorem dX1_haulNet_45 : decode cX1_haulNet 45 = .ok (.getfield 110, 3) := by decide +kernel
theorem dX1_haulNet_48 : decode cX1_haulNet 48 = .ok (.iload_n 3, 1) := by decide +kernel
theorem dX1_haulNet_49 : decode cX1_haulNet 49 = .ok (.iadd, 1) := by decide +kernel
theorem dX1_haulNet_50 : decode cX1_haulNet 50 = .ok (.putfield 110, 3) := by decide +kernel
theorem dX1_haulNet_53 : decode cX1_haulNet 53 = .ok (.iload_n 3, 1) := by decide +kernel
theorem dX1_haulNet_54 : decode cX1_haulNet 54 = .ok (.ireturn, 1) := by decide +kernel
theorem dX1_landHold_0 : decode cX1_landHold 0 = .ok (.aload_n 0, 1) := by decide +kernel
theorem dX1_landHold_1 : decode cX1_landHold 1 = .ok (.iload_n 1, 1) := by decide +kernel
theorem dX1_landHold_2 : decode cX1_landHold 2 = .ok (.invokevirtual 113, 3) := by decide +kernel
theorem dX1_landHold_5 : decode cX1_landHold 5 = .ok (.istore_n 2, 1) := by decide +kernel
theorem dX1_landHold_6 : decode cX1_landHold 6 = .ok (.iconst 0, 1) := by decide +kernel
theorem dX1_landHold_7 : decode cX1_landHold 7 = .ok (.istore_n 3, 1) := by decide +kernel
theorem dX1_landHold_8 : decode cX1_landHold 8 = .ok (.iload_n 3, 1) := by decide +kernel
theorem dX1_landHold_9 : decode cX1_landHold 9 = .ok (.aload_n 0, 1) := by decide +kernel
theorem dX1_landHold_10 : decode cX1_landHold 10 = .ok (.getfield 72, 3) := by decide +kernel
theorem dX1_landHold_13 : decode cX1_landHold 13 = .ok (.if_icmp .ge 64, 3) := by decide +kernel
theorem dX1_landHold_16 : decode cX1_landHold 16 = .ok (.iload_n 1, 1) := by decide +kernel
theorem dX1_landHold_17 : decode cX1_landHold 17 = .ok (.iload_n 3, 1) := by decide +kernel
theorem dX1_landHold_18 : decode cX1_landHold 18 = .ok (.invokestatic 101, 3) := by decide +kernel
theorem dX1_landHold_21 : decode cX1_landHold 21 = .ok (.ifCond .eq 34, 3) := by decide +kernel
theorem dX1_landHold_24 : decode cX1_landHold 24 = .ok (.aload_n 0, 1) := by decide +kernel
theorem dX1_landHold_25 : decode cX1_landHold 25 = .ok (.getfield 82, 3) := by decide +kernel
theorem dX1_landHold_28 : decode cX1_landHold 28 = .ok (.iload_n 3, 1) := by decide +kernel
theorem dX1_landHold_29 : decode cX1_landHold 29 = .ok (.bipush 108, 2) := by decide +kernel
theorem dX1_landHold_31 : decode cX1_landHold 31 = .ok (.castore, 1) := by decide +kernel
theorem dX1_landHold_32 : decode cX1_landHold 32 = .ok (.aload_n 0, 1) := by decide +kernel
theorem dX1_landHold_33 : decode cX1_landHold 33 = .ok (.getfield 116, 3) := by decide +kernel
theorem dX1_landHold_36 : decode cX1_landHold 36 = .ok (.aload_n 0, 1) := by decide +kernel
theorem dX1_landHold_37 : decode cX1_landHold 37 = .ok (.getfield 76, 3) := by decide +kernel
theorem dX1_landHold_40 : decode cX1_landHold 40 = .ok (.iload_n 3, 1) := by decide +kernel
theorem dX1_landHold_41 : decode cX1_landHold 41 = .ok (.iaload, 1) := by decide +kernel
theorem dX1_landHold_42 : decode cX1_landHold 42 = .ok (.dup2, 1) := by decide +kernel
theorem dX1_landHold_43 : decode cX1_landHold 43 = .ok (.iaload, 1) := by decide +kernel
theorem dX1_landHold_44 : decode cX1_landHold 44 = .ok (.aload_n 0, 1) := by decide +kernel
theorem dX1_landHold_45 : decode cX1_landHold 45 = .ok (.getfield 79, 3) := by decide +kernel
theorem dX1_landHold_48 : decode cX1_landHold 48 = .ok (.iload_n 3, 1) := by decide +kernel
theorem dX1_landHold_49 : decode cX1_landHold 49 = .ok (.iaload, 1) := by decide +kernel
theorem dX1_landHold_50 : decode cX1_landHold 50 = .ok (.iadd, 1) := by decide +kernel
theorem dX1_landHold_51 : decode cX1_landHold 51 = .ok (.iastore, 1) := by decide +kernel
theorem dX1_landHold_52 : decode cX1_landHold 52 = .ok (.goto 19, 3) := by decide +kernel
theorem dX1_landHold_55 : decode cX1_landHold 55 = .ok (.aload_n 0, 1) := by decide +kernel
theorem dX1_landHold_56 : decode cX1_landHold 56 = .ok (.getfield 82, 3) := by decide +kernel
theorem dX1_landHold_59 : decode cX1_landHold 59 = .ok (.iload_n 3, 1) := by decide +kernel
theorem dX1_landHold_60 : decode cX1_landHold 60 = .ok (.caload, 1) := by decide +kernel
theorem dX1_landHold_61 : decode cX1_landHold 61 = .ok (.bipush 104, 2) := by decide +kernel
theorem dX1_landHold_63 : decode cX1_landHold 63 = .ok (.if_icmp .ne 8, 3) := by decide +kernel
theorem dX1_landHold_66 : decode cX1_landHold 66 = .ok (.aload_n 0, 1) := by decide +kernel
theorem dX1_landHold_67 : decode cX1_landHold 67 = .ok (.iload_n 3, 1) := by decide +kernel
theorem dX1_landHold_68 : decode cX1_landHold 68 = .ok (.invokestatic 58, 3) := by decide +kernel
theorem dX1_landHold_71 : decode cX1_landHold 71 = .ok (.iinc 3 1, 3) := by decide +kernel
theorem dX1_landHold_74 : decode cX1_landHold 74 = .ok (.goto (-66), 3) := by decide +kernel
theorem dX1_landHold_77 : decode cX1_landHold 77 = .ok (.aload_n 0, 1) := by decide +kernel
theorem dX1_landHold_78 : decode cX1_landHold 78 = .ok (.dup, 1) := by decide +kernel
theorem dX1_landHold_79 : decode cX1_landHold 79 = .ok (.getfield 119, 3) := by decide +kernel
theorem dX1_landHold_82 : decode cX1_landHold 82 = .ok (.iconst 2, 1) := by decide +kernel
theorem dX1_landHold_83 : decode cX1_landHold 83 = .ok (.iload_n 2, 1) := by decide +kernel
theorem dX1_landHold_84 : decode cX1_landHold 84 = .ok (.imul, 1) := by decide +kernel
theorem dX1_landHold_85 : decode cX1_landHold 85 = .ok (.iadd, 1) := by decide +kernel
theorem dX1_landHold_86 : decode cX1_landHold 86 = .ok (.putfield 119, 3) := by decide +kernel
theorem dX1_landHold_89 : decode cX1_landHold 89 = .ok (.iload_n 2, 1) := by decide +kernel
theorem dX1_landHold_90 : decode cX1_landHold 90 = .ok (.ireturn, 1) := by decide +kernel
theorem dX1_giveBack_0 : decode cX1_giveBack 0 = .ok (.aload_n 0, 1) := by decide +kernel
theorem dX1_giveBack_1 : decode cX1_giveBack 1 = .ok (.getfield 82, 3) := by decide +kernel
theorem dX1_giveBack_4 : decode cX1_giveBack 4 = .ok (.iload_n 1, 1) := by decide +kernel
theorem dX1_giveBack_5 : decode cX1_giveBack 5 = .ok (.bipush 102, 2) := by decide +kernel
theorem dX1_giveBack_7 : decode cX1_giveBack 7 = .ok (.castore, 1) := by decide +kernel
theorem dX1_giveBack_8 : decode cX1_giveBack 8 = .ok (.aload_n 0, 1) := by decide +kernel
theorem dX1_giveBack_9 : decode cX1_giveBack 9 = .ok (.dup, 1) := by decide +kernel
theorem dX1_giveBack_10 : decode cX1_giveBack 10 = .ok (.getfield 122, 3) := by decide +kernel
theorem dX1_giveBack_13 : decode cX1_giveBack 13 = .ok (.iconst 1, 1) := by decide +kernel
theorem dX1_giveBack_14 : decode cX1_giveBack 14 = .ok (.iadd, 1) := by decide +kernel
theorem dX1_giveBack_15 : decode cX1_giveBack 15 = .ok (.putfield 122, 3) := by decide +kernel
theorem dX1_giveBack_18 : decode cX1_giveBack 18 = .ok (.return_, 1) := by decide +kernel
theorem dX1_payLicence_0 : decode cX1_payLicence 0 = .ok (.aload_n 0, 1) := by decide +kernel
theorem dX1_payLicence_1 : decode cX1_payLicence 1 = .ok (.dup, 1) := by decide +kernel
theorem dX1_payLicence_2 : decode cX1_payLicence 2 = .ok (.getfield 119, 3) := by decide +kernel
theorem dX1_payLicence_5 : decode cX1_payLicence 5 = .ok (.aload_n 0, 1) := by decide +kernel
theorem dX1_payLicence_6 : decode cX1_payLicence 6 = .ok (.invokevirtual 125, 3) := by decide +kernel
theorem dX1_payLicence_9 : decode cX1_payLicence 9 = .ok (.isub, 1) := by decide +kernel
theorem dX1_payLicence_10 : decode cX1_payLicence 10 = .ok (.putfield 119, 3) := by decide +kernel
theorem dX1_payLicence_13 : decode cX1_payLicence 13 = .ok (.aload_n 0, 1) := by decide +kernel
theorem dX1_payLicence_14 : decode cX1_payLicence 14 = .ok (.iconst 1, 1) := by decide +kernel
theorem dX1_payLicence_15 : decode cX1_payLicence 15 = .ok (.putfield 129, 3) := by decide +kernel
theorem dX1_payLicence_18 : decode cX1_payLicence 18 = .ok (.aload_n 0, 1) := by decide +kernel
theorem dX1_payLicence_19 : decode cX1_payLicence 19 = .ok (.getfield 119, 3) := by decide +kernel
theorem dX1_payLicence_22 : decode cX1_payLicence 22 = .ok (.ireturn, 1) := by decide +kernel
theorem dX1_passDays_0 : decode cX1_passDays 0 = .ok (.iconst 0, 1) := by decide +kernel
theorem dX1_passDays_1 : decode cX1_passDays 1 = .ok (.istore_n 2, 1) := by decide +kernel
theorem dX1_passDays_2 : decode cX1_passDays 2 = .ok (.iconst 0, 1) := by decide +kernel
theorem dX1_passDays_3 : decode cX1_passDays 3 = .ok (.istore_n 3, 1) := by decide +kernel
theorem dX1_passDays_4 : decode cX1_passDays 4 = .ok (.iload_n 3, 1) := by decide +kernel
theorem dX1_passDays_5 : decode cX1_passDays 5 = .ok (.iload_n 1, 1) := by decide +kernel
theorem dX1_passDays_6 : decode cX1_passDays 6 = .ok (.if_icmp .ge 16, 3) := by decide +kernel
theorem dX1_passDays_9 : decode cX1_passDays 9 = .ok (.iload_n 2, 1) := by decide +kernel
theorem dX1_passDays_10 : decode cX1_passDays 10 = .ok (.aload_n 0, 1) := by decide +kernel
theorem dX1_passDays_11 : decode cX1_passDays 11 = .ok (.invokestatic 133, 3) := by decide +kernel
theorem dX1_passDays_14 : decode cX1_passDays 14 = .ok (.iadd, 1) := by decide +kernel
theorem dX1_passDays_15 : decode cX1_passDays 15 = .ok (.istore_n 2, 1) := by decide +kernel
theorem dX1_passDays_16 : decode cX1_passDays 16 = .ok (.iinc 3 1, 3) := by decide +kernel
theorem dX1_passDays_19 : decode cX1_passDays 19 = .ok (.goto (-15), 3) := by decide +kernel
theorem dX1_passDays_22 : decode cX1_passDays 22 = .ok (.iload_n 2, 1) := by decide +kernel
theorem dX1_passDays_23 : decode cX1_passDays 23 = .ok (.ireturn, 1) := by decide +kernel
theorem dX1_passDay_0 : decode cX1_passDay 0 = .ok (.aload_n 0, 1) := by decide +kernel
theorem dX1_passDay_1 : decode cX1_passDay 1 = .ok (.invokevirtual 136, 3) := by decide +kernel
theorem dX1_passDay_4 : decode cX1_passDay 4 = .ok (.istore_n 1, 1) := by decide +kernel
theorem dX1_passDay_5 : decode cX1_passDay 5 = .ok (.aload_n 0, 1) := by decide +kernel
theorem dX1_passDay_6 : decode cX1_passDay 6 = .ok (.dup, 1) := by decide +kernel
theorem dX1_passDay_7 : decode cX1_passDay 7 = .ok (.getfield 139, 3) := by decide +kernel
theorem dX1_passDay_10 : decode cX1_passDay 10 = .ok (.iconst 1, 1) := by decide +kernel
theorem dX1_passDay_11 : decode cX1_passDay 11 = .ok (.iadd, 1) := by decide +kernel
theorem dX1_passDay_12 : decode cX1_passDay 12 = .ok (.putfield 139, 3) := by decide +kernel
theorem dX1_passDay_15 : decode cX1_passDay 15 = .ok (.aload_n 0, 1) := by decide +kernel
theorem dX1_passDay_16 : decode cX1_passDay 16 = .ok (.invokevirtual 136, 3) := by decide +kernel
theorem dX1_passDay_19 : decode cX1_passDay 19 = .ok (.iload_n 1, 1) := by decide +kernel
theorem dX1_passDay_20 : decode cX1_passDay 20 = .ok (.if_icmp .eq 16, 3) := by decide +kernel
theorem dX1_passDay_23 : decode cX1_passDay 23 = .ok (.aload_n 0, 1) := by decide +kernel
theorem dX1_passDay_24 : decode cX1_passDay 24 = .ok (.iconst 0, 1) := by decide +kernel
theorem dX1_passDay_25 : decode cX1_passDay 25 = .ok (.putfield 129, 3) := by decide +kernel
theorem dX1_passDay_28 : decode cX1_passDay 28 = .ok (.aload_n 0, 1) := by decide +kernel
theorem dX1_passDay_29 : decode cX1_passDay 29 = .ok (.getfield 116, 3) := by decide +kernel
theorem dX1_passDay_32 : decode cX1_passDay 32 = .ok (.iconst 0, 1) := by decide +kernel
theorem dX1_passDay_33 : decode cX1_passDay 33 = .ok (.invokestatic 142, 3) := by decide +kernel
theorem dX1_passDay_36 : decode cX1_passDay 36 = .ok (.aload_n 0, 1) := by decide +kernel
theorem dX1_passDay_37 : decode cX1_passDay 37 = .ok (.invokevirtual 136, 3) := by decide +kernel
theorem dX1_passDay_40 : decode cX1_passDay 40 = .ok (.iconst 3, 1) := by decide +kernel
theorem dX1_passDay_41 : decode cX1_passDay 41 = .ok (.if_icmp .ne 7, 3) := by decide +kernel
theorem dX1_passDay_44 : decode cX1_passDay 44 = .ok (.iconst 0, 1) := by decide +kernel
theorem dX1_passDay_45 : decode cX1_passDay 45 = .ok (.goto 7, 3) := by decide +kernel
theorem dX1_passDay_48 : decode cX1_passDay 48 = .ok (.aload_n 0, 1) := by decide +kernel
theorem dX1_passDay_49 : decode cX1_passDay 49 = .ok (.invokestatic 148, 3) := by decide +kernel
theorem dX1_passDay_52 : decode cX1_passDay 52 = .ok (.ireturn, 1) := by decide +kernel
theorem dX1_drift_0 : decode cX1_drift 0 = .ok (.iconst 0, 1) := by decide +kernel
theorem dX1_drift_1 : decode cX1_drift 1 = .ok (.istore_n 1, 1) := by decide +kernel
theorem dX1_drift_2 : decode cX1_drift 2 = .ok (.iconst 0, 1) := by decide +kernel
theorem dX1_drift_3 : decode cX1_drift 3 = .ok (.istore_n 2, 1) := by decide +kernel
theorem dX1_drift_4 : decode cX1_drift 4 = .ok (.iload_n 2, 1) := by decide +kernel
theorem dX1_drift_5 : decode cX1_drift 5 = .ok (.aload_n 0, 1) := by decide +kernel
theorem dX1_drift_6 : decode cX1_drift 6 = .ok (.getfield 72, 3) := by decide +kernel
theorem dX1_drift_9 : decode cX1_drift 9 = .ok (.if_icmp .ge 59, 3) := by decide +kernel
theorem dX1_drift_12 : decode cX1_drift 12 = .ok (.aload_n 0, 1) := by decide +kernel
theorem dX1_drift_13 : decode cX1_drift 13 = .ok (.getfield 28, 3) := by decide +kernel
theorem dX1_drift_16 : decode cX1_drift 16 = .ok (.aload_n 0, 1) := by decide +kernel
theorem dX1_drift_17 : decode cX1_drift 17 = .ok (.getfield 76, 3) := by decide +kernel
theorem dX1_drift_20 : decode cX1_drift 20 = .ok (.iload_n 2, 1) := by decide +kernel
theorem dX1_drift_21 : decode cX1_drift 21 = .ok (.iaload, 1) := by decide +kernel
theorem dX1_drift_22 : decode cX1_drift 22 = .ok (.iaload, 1) := by decide +kernel
theorem dX1_drift_23 : decode cX1_drift 23 = .ok (.istore_n 3, 1) := by decide +kernel
theorem dX1_drift_24 : decode cX1_drift 24 = .ok (.aload_n 0, 1) := by decide +kernel
theorem dX1_drift_25 : decode cX1_drift 25 = .ok (.getfield 82, 3) := by decide +kernel
theorem dX1_drift_28 : decode cX1_drift 28 = .ok (.iload_n 2, 1) := by decide +kernel
theorem dX1_drift_29 : decode cX1_drift 29 = .ok (.caload, 1) := by decide +kernel
theorem dX1_drift_30 : decode cX1_drift 30 = .ok (.bipush 102, 2) := by decide +kernel
theorem dX1_drift_32 : decode cX1_drift 32 = .ok (.if_icmp .ne 30, 3) := by decide +kernel
theorem dX1_drift_35 : decode cX1_drift 35 = .ok (.iload_n 3, 1) := by decide +kernel
theorem dX1_drift_36 : decode cX1_drift 36 = .ok (.ifCond .eq 26, 3) := by decide +kernel
theorem dX1_drift_39 : decode cX1_drift 39 = .ok (.aload_n 0, 1) := by decide +kernel
theorem dX1_drift_40 : decode cX1_drift 40 = .ok (.getfield 76, 3) := by decide +kernel
theorem dX1_drift_43 : decode cX1_drift 43 = .ok (.iload_n 2, 1) := by decide +kernel
theorem dX1_drift_44 : decode cX1_drift 44 = .ok (.aload_n 0, 1) := by decide +kernel
theorem dX1_drift_45 : decode cX1_drift 45 = .ok (.getfield 76, 3) := by decide +kernel
theorem dX1_drift_48 : decode cX1_drift 48 = .ok (.iload_n 2, 1) := by decide +kernel
theorem dX1_drift_49 : decode cX1_drift 49 = .ok (.iaload, 1) := by decide +kernel
theorem dX1_drift_50 : decode cX1_drift 50 = .ok (.iload_n 3, 1) := by decide +kernel
theorem dX1_drift_51 : decode cX1_drift 51 = .ok (.iadd, 1) := by decide +kernel
theorem dX1_drift_52 : decode cX1_drift 52 = .ok (.bipush 12, 2) := by decide +kernel
theorem dX1_drift_54 : decode cX1_drift 54 = .ok (.iadd, 1) := by decide +kernel
theorem dX1_drift_55 : decode cX1_drift 55 = .ok (.bipush 12, 2) := by decide +kernel
theorem dX1_drift_57 : decode cX1_drift 57 = .ok (.irem, 1) := by decide +kernel
theorem dX1_drift_58 : decode cX1_drift 58 = .ok (.iastore, 1) := by decide +kernel
theorem dX1_drift_59 : decode cX1_drift 59 = .ok (.iinc 1 1, 3) := by decide +kernel
theorem dX1_drift_62 : decode cX1_drift 62 = .ok (.iinc 2 1, 3) := by decide +kernel
theorem dX1_drift_65 : decode cX1_drift 65 = .ok (.goto (-61), 3) := by decide +kernel
theorem dX1_drift_68 : decode cX1_drift 68 = .ok (.iload_n 1, 1) := by decide +kernel
theorem dX1_drift_69 : decode cX1_drift 69 = .ok (.ireturn, 1) := by decide +kernel
theorem dX2_init_0 : decode cX2_init 0 = .ok (.aload_n 0, 1) := by decide +kernel
theorem dX2_init_1 : decode cX2_init 1 = .ok (.invokespecial 1, 3) := by decide +kernel
theorem dX2_init_4 : decode cX2_init 4 = .ok (.return_, 1) := by decide +kernel
theorem dX2_keep_0 : decode cX2_keep 0 = .ok (.aload_n 0, 1) := by decide +kernel
theorem dX2_keep_1 : decode cX2_keep 1 = .ok (.iload_n 1, 1) := by decide +kernel
theorem dX2_keep_2 : decode cX2_keep 2 = .ok (.putfield 7, 3) := by decide +kernel
theorem dX2_keep_5 : decode cX2_keep 5 = .ok (.aload_n 0, 1) := by decide +kernel
theorem dX2_keep_6 : decode cX2_keep 6 = .ok (.iload_n 2, 1) := by decide +kernel
theorem dX2_keep_7 : decode cX2_keep 7 = .ok (.putfield 13, 3) := by decide +kernel
theorem dX2_keep_10 : decode cX2_keep 10 = .ok (.aload_n 0, 1) := by decide +kernel
theorem dX2_keep_11 : decode cX2_keep 11 = .ok (.iload_n 3, 1) := by decide +kernel
theorem dX2_keep_12 : decode cX2_keep 12 = .ok (.putfield 16, 3) := by decide +kernel
theorem dX2_keep_15 : decode cX2_keep 15 = .ok (.return_, 1) := by decide +kernel
theorem dX3_init_0 : decode cX3_init 0 = .ok (.aload_n 0, 1) := by decide +kernel
theorem dX3_init_1 : decode cX3_init 1 = .ok (.invokespecial 3, 3) := by decide +kernel
theorem dX3_init_4 : decode cX3_init 4 = .ok (.aload_n 0, 1) := by decide +kernel
theorem dX3_init_5 : decode cX3_init 5 = .ok (.bipush 10, 2) := by decide +kernel
theorem dX3_init_7 : decode cX3_init 7 = .ok (.newarray .int, 2) := by decide +kernel
theorem dX3_init_9 : decode cX3_init 9 = .ok (.putfield 9, 3) := by decide +kernel
theorem dX3_init_12 : decode cX3_init 12 = .ok (.return_, 1) := by decide +kernel
theorem dX3_run_0 : decode cX3_run 0 = .ok (.aload_n 0, 1) := by decide +kernel
theorem dX3_run_1 : decode cX3_run 1 = .ok (.getfield 9, 3) := by decide +kernel
theorem dX3_run_4 : decode cX3_run 4 = .ok (.iconst 0, 1) := by decide +kernel
theorem dX3_run_5 : decode cX3_run 5 = .ok (.invokestatic 15, 3) := by decide +kernel
theorem dX3_run_8 : decode cX3_run 8 = .ok (.aload_n 0, 1) := by decide +kernel
theorem dX3_run_9 : decode cX3_run 9 = .ok (.iconst 0, 1) := by decide +kernel
theorem dX3_run_10 : decode cX3_run 10 = .ok (.putfield 21, 3) := by decide +kernel
theorem dX3_run_13 : decode cX3_run 13 = .ok (.aload_n 0, 1) := by decide +kernel
theorem dX3_run_14 : decode cX3_run 14 = .ok (.iconst 0, 1) := by decide +kernel
theorem dX3_run_15 : decode cX3_run 15 = .ok (.putfield 25, 3) := by decide +kernel
theorem dX3_run_18 : decode cX3_run 18 = .ok (.aload_n 0, 1) := by decide +kernel
theorem dX3_run_19 : decode cX3_run 19 = .ok (.iconst 0, 1) := by decide +kernel
theorem dX3_run_20 : decode cX3_run 20 = .ok (.putfield 28, 3) := by decide +kernel
theorem dX3_run_23 : decode cX3_run 23 = .ok (.iconst 0, 1) := by decide +kernel
theorem dX3_run_24 : decode cX3_run 24 = .ok (.istore_n 2, 1) := by decide +kernel
theorem dX3_run_25 : decode cX3_run 25 = .ok (.iload_n 2, 1) := by decide +kernel
theorem dX3_run_26 : decode cX3_run 26 = .ok (.aload_n 1, 1) := by decide +kernel
theorem dX3_run_27 : decode cX3_run 27 = .ok (.getfield 31, 3) := by decide +kernel
theorem dX3_run_30 : decode cX3_run 30 = .ok (.if_icmp .ge 26, 3) := by decide +kernel
theorem dX3_run_33 : decode cX3_run 33 = .ok (.aload_n 0, 1) := by decide +kernel
theorem dX3_run_34 : decode cX3_run 34 = .ok (.getfield 9, 3) := by decide +kernel
theorem dX3_run_37 : decode cX3_run 37 = .ok (.iload_n 2, 1) := by decide +kernel
theorem dX3_run_38 : decode cX3_run 38 = .ok (.iaload, 1) := by decide +kernel
theorem dX3_run_39 : decode cX3_run 39 = .ok (.ifCond .ne 11, 3) := by decide +kernel
theorem dX3_run_42 : decode cX3_run 42 = .ok (.aload_n 0, 1) := by decide +kernel
theorem dX3_run_43 : decode cX3_run 43 = .ok (.aload_n 1, 1) := by decide +kernel
theorem dX3_run_44 : decode cX3_run 44 = .ok (.iload_n 2, 1) := by decide +kernel
theorem dX3_run_45 : decode cX3_run 45 = .ok (.iconst 1, 1) := by decide +kernel
theorem dX3_run_46 : decode cX3_run 46 = .ok (.invokestatic 36, 3) := by decide +kernel
theorem dX3_run_49 : decode cX3_run 49 = .ok (.pop, 1) := by decide +kernel
theorem dX3_run_50 : decode cX3_run 50 = .ok (.iinc 2 1, 3) := by decide +kernel
theorem dX3_run_53 : decode cX3_run 53 = .ok (.goto (-28), 3) := by decide +kernel
theorem dX3_run_56 : decode cX3_run 56 = .ok (.aload_n 0, 1) := by decide +kernel
theorem dX3_run_57 : decode cX3_run 57 = .ok (.getfield 28, 3) := by decide +kernel
theorem dX3_run_60 : decode cX3_run 60 = .ok (.ireturn, 1) := by decide +kernel
theorem dX3_visit_0 : decode cX3_visit 0 = .ok (.aload_n 0, 1) := by decide +kernel
theorem dX3_visit_1 : decode cX3_visit 1 = .ok (.dup, 1) := by decide +kernel
theorem dX3_visit_2 : decode cX3_visit 2 = .ok (.getfield 21, 3) := by decide +kernel
theorem dX3_visit_5 : decode cX3_visit 5 = .ok (.iconst 1, 1) := by decide +kernel
theorem dX3_visit_6 : decode cX3_visit 6 = .ok (.iadd, 1) := by decide +kernel
theorem dX3_visit_7 : decode cX3_visit 7 = .ok (.putfield 21, 3) := by decide +kernel
theorem dX3_visit_10 : decode cX3_visit 10 = .ok (.aload_n 0, 1) := by decide +kernel
theorem dX3_visit_11 : decode cX3_visit 11 = .ok (.getfield 21, 3) := by decide +kernel
theorem dX3_visit_14 : decode cX3_visit 14 = .ok (.istore 4, 2) := by decide +kernel
theorem dX3_visit_16 : decode cX3_visit 16 = .ok (.aload_n 0, 1) := by decide +kernel
theorem dX3_visit_17 : decode cX3_visit 17 = .ok (.getfield 9, 3) := by decide +kernel
theorem dX3_visit_20 : decode cX3_visit 20 = .ok (.iload_n 2, 1) := by decide +kernel
theorem dX3_visit_21 : decode cX3_visit 21 = .ok (.iload 4, 2) := by decide +kernel
theorem dX3_visit_23 : decode cX3_visit 23 = .ok (.iastore, 1) := by decide +kernel
theorem dX3_visit_24 : decode cX3_visit 24 = .ok (.aload_n 0, 1) := by decide +kernel
theorem dX3_visit_25 : decode cX3_visit 25 = .ok (.dup, 1) := by decide +kernel
theorem dX3_visit_26 : decode cX3_visit 26 = .ok (.getfield 25, 3) := by decide +kernel
theorem dX3_visit_29 : decode cX3_visit 29 = .ok (.iload_n 2, 1) := by decide +kernel
theorem dX3_visit_30 : decode cX3_visit 30 = .ok (.invokestatic 40, 3) := by decide +kernel
theorem dX3_visit_33 : decode cX3_visit 33 = .ok (.ior, 1) := by decide +kernel
theorem dX3_visit_34 : decode cX3_visit 34 = .ok (.putfield 25, 3) := by decide +kernel
theorem dX3_visit_37 : decode cX3_visit 37 = .ok (.iload 4, 2) := by decide +kernel
theorem dX3_visit_39 : decode cX3_visit 39 = .ok (.istore 5, 2) := by decide +kernel
theorem dX3_visit_41 : decode cX3_visit 41 = .ok (.iconst 0, 1) := by decide +kernel
theorem dX3_visit_42 : decode cX3_visit 42 = .ok (.istore 6, 2) := by decide +kernel
theorem dX3_visit_44 : decode cX3_visit 44 = .ok (.iload 6, 2) := by decide +kernel
theorem dX3_visit_46 : decode cX3_visit 46 = .ok (.aload_n 1, 1) := by decide +kernel
theorem dX3_visit_47 : decode cX3_visit 47 = .ok (.getfield 31, 3) := by decide +kernel
theorem dX3_visit_50 : decode cX3_visit 50 = .ok (.if_icmp .ge 88, 3) := by decide +kernel
theorem dX3_visit_53 : decode cX3_visit 53 = .ok (.aload_n 1, 1) := by decide +kernel
theorem dX3_visit_54 : decode cX3_visit 54 = .ok (.getfield 44, 3) := by decide +kernel
theorem dX3_visit_57 : decode cX3_visit 57 = .ok (.iload_n 2, 1) := by decide +kernel
theorem dX3_visit_58 : decode cX3_visit 58 = .ok (.iaload, 1) := by decide +kernel
theorem dX3_visit_59 : decode cX3_visit 59 = .ok (.iload 6, 2) := by decide +kernel
theorem dX3_visit_61 : decode cX3_visit 61 = .ok (.invokestatic 47, 3) := by decide +kernel
theorem dX3_visit_64 : decode cX3_visit 64 = .ok (.ifCond .ne 6, 3) := by decide +kernel
theorem dX3_visit_67 : decode cX3_visit 67 = .ok (.goto 65, 3) := by decide +kernel
theorem dX3_visit_70 : decode cX3_visit 70 = .ok (.aload_n 0, 1) := by decide +kernel
theorem dX3_visit_71 : decode cX3_visit 71 = .ok (.getfield 9, 3) := by decide +kernel
theorem dX3_visit_74 : decode cX3_visit 74 = .ok (.iload 6, 2) := by decide +kernel
theorem dX3_visit_76 : decode cX3_visit 76 = .ok (.iaload, 1) := by decide +kernel
theorem dX3_visit_77 : decode cX3_visit 77 = .ok (.ifCond .ne 29, 3) := by decide +kernel
theorem dX3_visit_80 : decode cX3_visit 80 = .ok (.iload_n 3, 1) := by decide +kernel
theorem dX3_visit_81 : decode cX3_visit 81 = .ok (.bipush 10, 2) := by decide +kernel
theorem dX3_visit_83 : decode cX3_visit 83 = .ok (.if_icmp .ge 23, 3) := by decide +kernel
theorem dX3_visit_86 : decode cX3_visit 86 = .ok (.iload 5, 2) := by decide +kernel
theorem dX3_visit_88 : decode cX3_visit 88 = .ok (.aload_n 0, 1) := by decide +kernel
theorem dX3_visit_89 : decode cX3_visit 89 = .ok (.aload_n 1, 1) := by decide +kernel
theorem dX3_visit_90 : decode cX3_visit 90 = .ok (.iload 6, 2) := by decide +kernel
theorem dX3_visit_92 : decode cX3_visit 92 = .ok (.iload_n 3, 1) := by decide +kernel
theorem dX3_visit_93 : decode cX3_visit 93 = .ok (.iconst 1, 1) := by decide +kernel
theorem dX3_visit_94 : decode cX3_visit 94 = .ok (.iadd, 1) := by decide +kernel
theorem dX3_visit_95 : decode cX3_visit 95 = .ok (.invokestatic 36, 3) := by decide +kernel
theorem dX3_visit_98 : decode cX3_visit 98 = .ok (.invokestatic 51, 3) := by decide +kernel
theorem dX3_visit_101 : decode cX3_visit 101 = .ok (.istore 5, 2) := by decide +kernel
theorem dX3_visit_103 : decode cX3_visit 103 = .ok (.goto 29, 3) := by decide +kernel
theorem dX3_visit_106 : decode cX3_visit 106 = .ok (.aload_n 0, 1) := by decide +kernel
theorem dX3_visit_107 : decode cX3_visit 107 = .ok (.getfield 25, 3) := by decide +kernel
theorem dX3_visit_110 : decode cX3_visit 110 = .ok (.iload 6, 2) := by decide +kernel
theorem dX3_visit_112 : decode cX3_visit 112 = .ok (.invokestatic 47, 3) := by decide +kernel
theorem dX3_visit_115 : decode cX3_visit 115 = .ok (.ifCond .eq 17, 3) := by decide +kernel
theorem dX3_visit_118 : decode cX3_visit 118 = .ok (.iload 5, 2) := by decide +kernel
theorem dX3_visit_120 : decode cX3_visit 120 = .ok (.aload_n 0, 1) := by decide +kernel
theorem dX3_visit_121 : decode cX3_visit 121 = .ok (.getfield 9, 3) := by decide +kernel
theorem dX3_visit_124 : decode cX3_visit 124 = .ok (.iload 6, 2) := by decide +kernel
theorem dX3_visit_126 : decode cX3_visit 126 = .ok (.iaload, 1) := by decide +kernel
theorem dX3_visit_127 : decode cX3_visit 127 = .ok (.invokestatic 51, 3) := by decide +kernel
theorem dX3_visit_130 : decode cX3_visit 130 = .ok (.istore 5, 2) := by decide +kernel
theorem dX3_visit_132 : decode cX3_visit 132 = .ok (.iinc 6 1, 3) := by decide +kernel
theorem dX3_visit_135 : decode cX3_visit 135 = .ok (.goto (-91), 3) := by decide +kernel
theorem dX3_visit_138 : decode cX3_visit 138 = .ok (.iload 5, 2) := by decide +kernel
theorem dX3_visit_140 : decode cX3_visit 140 = .ok (.iload 4, 2) := by decide +kernel
theorem dX3_visit_142 : decode cX3_visit 142 = .ok (.if_icmp .ne 10, 3) := by decide +kernel
theorem dX3_visit_145 : decode cX3_visit 145 = .ok (.aload_n 0, 1) := by decide +kernel
theorem dX3_visit_146 : decode cX3_visit 146 = .ok (.aload_n 1, 1) := by decide +kernel
theorem dX3_visit_147 : decode cX3_visit 147 = .ok (.iload 4, 2) := by decide +kernel
theorem dX3_visit_149 : decode cX3_visit 149 = .ok (.invokevirtual 57, 3) := by decide +kernel
theorem dX3_visit_152 : decode cX3_visit 152 = .ok (.iload 5, 2) := by decide +kernel
theorem dX3_visit_154 : decode cX3_visit 154 = .ok (.ireturn, 1) := by decide +kernel
theorem dX3_close_0 : decode cX3_close 0 = .ok (.iconst 0, 1) := by decide +kernel
theorem dX3_close_1 : decode cX3_close 1 = .ok (.istore_n 3, 1) := by decide +kernel
theorem dX3_close_2 : decode cX3_close 2 = .ok (.iconst 0, 1) := by decide +kernel
theorem dX3_close_3 : decode cX3_close 3 = .ok (.istore 4, 2) := by decide +kernel
theorem dX3_close_5 : decode cX3_close 5 = .ok (.iload 4, 2) := by decide +kernel
theorem dX3_close_7 : decode cX3_close 7 = .ok (.aload_n 1, 1) := by decide +kernel
theorem dX3_close_8 : decode cX3_close 8 = .ok (.getfield 31, 3) := by decide +kernel
theorem dX3_close_11 : decode cX3_close 11 = .ok (.if_icmp .ge 40, 3) := by decide +kernel
theorem dX3_close_14 : decode cX3_close 14 = .ok (.aload_n 0, 1) := by decide +kernel
theorem dX3_close_15 : decode cX3_close 15 = .ok (.getfield 25, 3) := by decide +kernel
theorem dX3_close_18 : decode cX3_close 18 = .ok (.iload 4, 2) := by decide +kernel
theorem dX3_close_20 : decode cX3_close 20 = .ok (.invokestatic 47, 3) := by decide +kernel
theorem dX3_close_23 : decode cX3_close 23 = .ok (.ifCond .eq 22, 3) := by decide +kernel
theorem dX3_close_26 : decode cX3_close 26 = .ok (.aload_n 0, 1) := by decide +kernel
theorem dX3_close_27 : decode cX3_close 27 = .ok (.getfield 9, 3) := by decide +kernel
theorem dX3_close_30 : decode cX3_close 30 = .ok (.iload 4, 2) := by decide +kernel
theorem dX3_close_32 : decode cX3_close 32 = .ok (.iaload, 1) := by decide +kernel
theorem dX3_close_33 : decode cX3_close 33 = .ok (.iload_n 2, 1) := by decide +kernel
theorem dX3_close_34 : decode cX3_close 34 = .ok (.if_icmp .lt 11, 3) := by decide +kernel
theorem dX3_close_37 : decode cX3_close 37 = .ok (.iload_n 3, 1) := by decide +kernel
theorem dX3_close_38 : decode cX3_close 38 = .ok (.iload 4, 2) := by decide +kernel
theorem dX3_close_40 : decode cX3_close 40 = .ok (.invokestatic 40, 3) := by decide +kernel
theorem dX3_close_43 : decode cX3_close 43 = .ok (.ior, 1) := by decide +kernel
theorem dX3_close_44 : decode cX3_close 44 = .ok (.istore_n 3, 1) := by decide +kernel
theorem dX3_close_45 : decode cX3_close 45 = .ok (.iinc 4 1, 3) := by decide +kernel
theorem dX3_close_48 : decode cX3_close 48 = .ok (.goto (-43), 3) := by decide +kernel
theorem dX3_close_51 : decode cX3_close 51 = .ok (.aload_n 0, 1) := by decide +kernel
theorem dX3_close_52 : decode cX3_close 52 = .ok (.dup, 1) := by decide +kernel
theorem dX3_close_53 : decode cX3_close 53 = .ok (.getfield 25, 3) := by decide +kernel
theorem dX3_close_56 : decode cX3_close 56 = .ok (.iload_n 3, 1) := by decide +kernel
theorem dX3_close_57 : decode cX3_close 57 = .ok (.iconst (-1), 1) := by decide +kernel
theorem dX3_close_58 : decode cX3_close 58 = .ok (.ixor, 1) := by decide +kernel
theorem dX3_close_59 : decode cX3_close 59 = .ok (.iand, 1) := by decide +kernel
theorem dX3_close_60 : decode cX3_close 60 = .ok (.putfield 25, 3) := by decide +kernel
theorem dX3_close_63 : decode cX3_close 63 = .ok (.iload_n 3, 1) := by decide +kernel
theorem dX3_close_64 : decode cX3_close 64 = .ok (.invokestatic 61, 3) := by decide +kernel
theorem dX3_close_67 : decode cX3_close 67 = .ok (.iconst 1, 1) := by decide +kernel
theorem dX3_close_68 : decode cX3_close 68 = .ok (.if_icmp .le 13, 3) := by decide +kernel
theorem dX3_close_71 : decode cX3_close 71 = .ok (.aload_n 0, 1) := by decide +kernel
theorem dX3_close_72 : decode cX3_close 72 = .ok (.dup, 1) := by decide +kernel
theorem dX3_close_73 : decode cX3_close 73 = .ok (.getfield 28, 3) := by decide +kernel
theorem dX3_close_76 : decode cX3_close 76 = .ok (.iconst 1, 1) := by decide +kernel
theorem dX3_close_77 : decode cX3_close 77 = .ok (.iadd, 1) := by decide +kernel
theorem dX3_close_78 : decode cX3_close 78 = .ok (.putfield 28, 3) := by decide +kernel
theorem dX3_close_81 : decode cX3_close 81 = .ok (.return_, 1) := by decide +kernel
theorem dX4_init_0 : decode cX4_init 0 = .ok (.aload_n 0, 1) := by decide +kernel
theorem dX4_init_1 : decode cX4_init 1 = .ok (.invokespecial 3, 3) := by decide +kernel
theorem dX4_init_4 : decode cX4_init 4 = .ok (.aload_n 0, 1) := by decide +kernel
theorem dX4_init_5 : decode cX4_init 5 = .ok (.bipush 8, 2) := by decide +kernel
theorem dX4_init_7 : decode cX4_init 7 = .ok (.anewarray 9, 3) := by decide +kernel
theorem dX4_init_10 : decode cX4_init 10 = .ok (.putfield 11, 3) := by decide +kernel
theorem dX4_init_13 : decode cX4_init 13 = .ok (.return_, 1) := by decide +kernel
theorem dX4_remember_0 : decode cX4_remember 0 = .ok (.aload_n 0, 1) := by decide +kernel
theorem dX4_remember_1 : decode cX4_remember 1 = .ok (.getfield 11, 3) := by decide +kernel
theorem dX4_remember_4 : decode cX4_remember 4 = .ok (.aload_n 0, 1) := by decide +kernel
theorem dX4_remember_5 : decode cX4_remember 5 = .ok (.getfield 17, 3) := by decide +kernel
theorem dX4_remember_8 : decode cX4_remember 8 = .ok (.aaload, 1) := by decide +kernel
theorem dX4_remember_9 : decode cX4_remember 9 = .ok (.astore_n 2, 1) := by decide +kernel
theorem dX4_remember_10 : decode cX4_remember 10 = .ok (.aload_n 2, 1) := by decide +kernel
theorem dX4_remember_11 : decode cX4_remember 11 = .ok (.ifnonnull 21, 3) := by decide +kernel
theorem dX4_remember_14 : decode cX4_remember 14 = .ok (.new 9, 3) := by decide +kernel
theorem dX4_remember_17 : decode cX4_remember 17 = .ok (.dup, 1) := by decide +kernel
theorem dX4_remember_18 : decode cX4_remember 18 = .ok (.invokespecial 21, 3) := by decide +kernel
theorem dX4_remember_21 : decode cX4_remember 21 = .ok (.astore_n 2, 1) := by decide +kernel
theorem dX4_remember_22 : decode cX4_remember 22 = .ok (.aload_n 0, 1) := by decide +kernel
theorem dX4_remember_23 : decode cX4_remember 23 = .ok (.getfield 11, 3) := by decide +kernel
theorem dX4_remember_26 : decode cX4_remember 26 = .ok (.aload_n 0, 1) := by decide +kernel
theorem dX4_remember_27 : decode cX4_remember 27 = .ok (.getfield 17, 3) := by decide +kernel
theorem dX4_remember_30 : decode cX4_remember 30 = .ok (.aload_n 2, 1) := by decide +kernel
theorem dX4_remember_31 : decode cX4_remember 31 = .ok (.aastore, 1) := by decide +kernel
theorem dX4_remember_32 : decode cX4_remember 32 = .ok (.aload_n 2, 1) := by decide +kernel
theorem dX4_remember_33 : decode cX4_remember 33 = .ok (.aload_n 1, 1) := by decide +kernel
theorem dX4_remember_34 : decode cX4_remember 34 = .ok (.invokevirtual 22, 3) := by decide +kernel
theorem dX4_remember_37 : decode cX4_remember 37 = .ok (.aload_n 0, 1) := by decide +kernel
theorem dX4_remember_38 : decode cX4_remember 38 = .ok (.aload_n 0, 1) := by decide +kernel
theorem dX4_remember_39 : decode cX4_remember 39 = .ok (.getfield 17, 3) := by decide +kernel
theorem dX4_remember_42 : decode cX4_remember 42 = .ok (.iconst 1, 1) := by decide +kernel
theorem dX4_remember_43 : decode cX4_remember 43 = .ok (.iadd, 1) := by decide +kernel
theorem dX4_remember_44 : decode cX4_remember 44 = .ok (.bipush 8, 2) := by decide +kernel
theorem dX4_remember_46 : decode cX4_remember 46 = .ok (.irem, 1) := by decide +kernel
theorem dX4_remember_47 : decode cX4_remember 47 = .ok (.putfield 17, 3) := by decide +kernel
theorem dX4_remember_50 : decode cX4_remember 50 = .ok (.aload_n 0, 1) := by decide +kernel
theorem dX4_remember_51 : decode cX4_remember 51 = .ok (.aload_n 0, 1) := by decide +kernel
theorem dX4_remember_52 : decode cX4_remember 52 = .ok (.getfield 26, 3) := by decide +kernel
theorem dX4_remember_55 : decode cX4_remember 55 = .ok (.iconst 1, 1) := by decide +kernel
theorem dX4_remember_56 : decode cX4_remember 56 = .ok (.iadd, 1) := by decide +kernel
theorem dX4_remember_57 : decode cX4_remember 57 = .ok (.bipush 8, 2) := by decide +kernel
theorem dX4_remember_59 : decode cX4_remember 59 = .ok (.invokestatic 29, 3) := by decide +kernel
theorem dX4_remember_62 : decode cX4_remember 62 = .ok (.putfield 26, 3) := by decide +kernel
theorem dX4_remember_65 : decode cX4_remember 65 = .ok (.return_, 1) := by decide +kernel
theorem dX4_takeBack_0 : decode cX4_takeBack 0 = .ok (.aload_n 0, 1) := by decide +kernel
theorem dX4_takeBack_1 : decode cX4_takeBack 1 = .ok (.getfield 17, 3) := by decide +kernel
theorem dX4_takeBack_4 : decode cX4_takeBack 4 = .ok (.bipush 8, 2) := by decide +kernel
theorem dX4_takeBack_6 : decode cX4_takeBack 6 = .ok (.iadd, 1) := by decide +kernel
theorem dX4_takeBack_7 : decode cX4_takeBack 7 = .ok (.iconst 1, 1) := by decide +kernel
theorem dX4_takeBack_8 : decode cX4_takeBack 8 = .ok (.isub, 1) := by decide +kernel
theorem dX4_takeBack_9 : decode cX4_takeBack 9 = .ok (.bipush 8, 2) := by decide +kernel
theorem dX4_takeBack_11 : decode cX4_takeBack 11 = .ok (.irem, 1) := by decide +kernel
theorem dX4_takeBack_12 : decode cX4_takeBack 12 = .ok (.istore_n 2, 1) := by decide +kernel
theorem dX4_takeBack_13 : decode cX4_takeBack 13 = .ok (.aload_n 0, 1) := by decide +kernel
theorem dX4_takeBack_14 : decode cX4_takeBack 14 = .ok (.getfield 11, 3) := by decide +kernel
theorem dX4_takeBack_17 : decode cX4_takeBack 17 = .ok (.iload_n 2, 1) := by decide +kernel
theorem dX4_takeBack_18 : decode cX4_takeBack 18 = .ok (.aaload, 1) := by decide +kernel
theorem dX4_takeBack_19 : decode cX4_takeBack 19 = .ok (.astore_n 3, 1) := by decide +kernel
theorem dX4_takeBack_20 : decode cX4_takeBack 20 = .ok (.aload_n 0, 1) := by decide +kernel
theorem dX4_takeBack_21 : decode cX4_takeBack 21 = .ok (.getfield 26, 3) := by decide +kernel
theorem dX4_takeBack_24 : decode cX4_takeBack 24 = .ok (.ifCond .le 27, 3) := by decide +kernel
theorem dX4_takeBack_27 : decode cX4_takeBack 27 = .ok (.aload_n 3, 1) := by decide +kernel
theorem dX4_takeBack_28 : decode cX4_takeBack 28 = .ok (.ifnull 23, 3) := by decide +kernel
theorem dX4_takeBack_31 : decode cX4_takeBack 31 = .ok (.aload_n 1, 1) := by decide +kernel
theorem dX4_takeBack_32 : decode cX4_takeBack 32 = .ok (.aload_n 3, 1) := by decide +kernel
theorem dX4_takeBack_33 : decode cX4_takeBack 33 = .ok (.invokevirtual 22, 3) := by decide +kernel
theorem dX4_takeBack_36 : decode cX4_takeBack 36 = .ok (.aload_n 0, 1) := by decide +kernel
theorem dX4_takeBack_37 : decode cX4_takeBack 37 = .ok (.iload_n 2, 1) := by decide +kernel
theorem dX4_takeBack_38 : decode cX4_takeBack 38 = .ok (.putfield 17, 3) := by decide +kernel
theorem dX4_takeBack_41 : decode cX4_takeBack 41 = .ok (.aload_n 0, 1) := by decide +kernel
theorem dX4_takeBack_42 : decode cX4_takeBack 42 = .ok (.dup, 1) := by decide +kernel
theorem dX4_takeBack_43 : decode cX4_takeBack 43 = .ok (.getfield 26, 3) := by decide +kernel
theorem dX4_takeBack_46 : decode cX4_takeBack 46 = .ok (.iconst 1, 1) := by decide +kernel
theorem dX4_takeBack_47 : decode cX4_takeBack 47 = .ok (.isub, 1) := by decide +kernel
theorem dX4_takeBack_48 : decode cX4_takeBack 48 = .ok (.putfield 26, 3) := by decide +kernel
theorem dX4_takeBack_51 : decode cX4_takeBack 51 = .ok (.return_, 1) := by decide +kernel
theorem dX4_forget_0 : decode cX4_forget 0 = .ok (.aload_n 0, 1) := by decide +kernel
theorem dX4_forget_1 : decode cX4_forget 1 = .ok (.iconst 0, 1) := by decide +kernel
theorem dX4_forget_2 : decode cX4_forget 2 = .ok (.putfield 26, 3) := by decide +kernel
theorem dX4_forget_5 : decode cX4_forget 5 = .ok (.return_, 1) := by decide +kernel
theorem dX5_judge_0 : decode cX5_judge 0 = .ok (.iload_n 1, 1) := by decide +kernel
theorem dX5_judge_1 : decode cX5_judge 1 = .ok (.tableswitch 204 0 11 #[63, 70, 78, 86, 108, 117, 132, 138, 161, 177, 183, 188], 63) := by decide +kernel
theorem dX5_judge_64 : decode cX5_judge 64 = .ok (.aload_n 0, 1) := by decide +kernel
theorem dX5_judge_65 : decode cX5_judge 65 = .ok (.iload_n 2, 1) := by decide +kernel
theorem dX5_judge_66 : decode cX5_judge 66 = .ok (.iload_n 3, 1) := by decide +kernel
theorem dX5_judge_67 : decode cX5_judge 67 = .ok (.invokestatic 9, 3) := by decide +kernel
theorem dX5_judge_70 : decode cX5_judge 70 = .ok (.ireturn, 1) := by decide +kernel
theorem dX5_judge_71 : decode cX5_judge 71 = .ok (.aload_n 0, 1) := by decide +kernel
theorem dX5_judge_72 : decode cX5_judge 72 = .ok (.iload_n 2, 1) := by decide +kernel
theorem dX5_judge_73 : decode cX5_judge 73 = .ok (.iload_n 3, 1) := by decide +kernel
theorem dX5_judge_74 : decode cX5_judge 74 = .ok (.iconst 0, 1) := by decide +kernel
theorem dX5_judge_75 : decode cX5_judge 75 = .ok (.invokestatic 15, 3) := by decide +kernel
theorem dX5_judge_78 : decode cX5_judge 78 = .ok (.ireturn, 1) := by decide +kernel
theorem dX5_judge_79 : decode cX5_judge 79 = .ok (.aload_n 0, 1) := by decide +kernel
theorem dX5_judge_80 : decode cX5_judge 80 = .ok (.iload_n 2, 1) := by decide +kernel
theorem dX5_judge_81 : decode cX5_judge 81 = .ok (.iload_n 3, 1) := by decide +kernel
theorem dX5_judge_82 : decode cX5_judge 82 = .ok (.iconst 1, 1) := by decide +kernel
theorem dX5_judge_83 : decode cX5_judge 83 = .ok (.invokestatic 15, 3) := by decide +kernel
theorem dX5_judge_86 : decode cX5_judge 86 = .ok (.ireturn, 1) := by decide +kernel
theorem dX5_judge_87 : decode cX5_judge 87 = .ok (.iload_n 2, 1) := by decide +kernel
theorem dX5_judge_88 : decode cX5_judge 88 = .ok (.invokestatic 19, 3) := by decide +kernel
theorem dX5_judge_91 : decode cX5_judge 91 = .ok (.ifCond .eq 16, 3) := by decide +kernel
theorem dX5_judge_94 : decode cX5_judge 94 = .ok (.iload_n 3, 1) := by decide +kernel
theorem dX5_judge_95 : decode cX5_judge 95 = .ok (.iconst (-1), 1) := by decide +kernel
theorem dX5_judge_96 : decode cX5_judge 96 = .ok (.iconst 1, 1) := by decide +kernel
theorem dX5_judge_97 : decode cX5_judge 97 = .ok (.invokestatic 23, 3) := by decide +kernel
theorem dX5_judge_100 : decode cX5_judge 100 = .ok (.ifCond .eq 7, 3) := by decide +kernel
theorem dX5_judge_103 : decode cX5_judge 103 = .ok (.iconst 0, 1) := by decide +kernel
theorem dX5_judge_104 : decode cX5_judge 104 = .ok (.goto 4, 3) := by decide +kernel
theorem dX5_judge_107 : decode cX5_judge 107 = .ok (.iconst (-1), 1) := by decide +kernel
theorem dX5_judge_108 : decode cX5_judge 108 = .ok (.ireturn, 1) := by decide +kernel
theorem dX5_judge_109 : decode cX5_judge 109 = .ok (.aload_n 0, 1) := by decide +kernel
theorem dX5_judge_110 : decode cX5_judge 110 = .ok (.iload_n 2, 1) := by decide +kernel
theorem dX5_judge_111 : decode cX5_judge 111 = .ok (.iload_n 3, 1) := by decide +kernel
theorem dX5_judge_112 : decode cX5_judge 112 = .ok (.iload 4, 2) := by decide +kernel
theorem dX5_judge_114 : decode cX5_judge 114 = .ok (.invokestatic 27, 3) := by decide +kernel
theorem dX5_judge_117 : decode cX5_judge 117 = .ok (.ireturn, 1) := by decide +kernel
theorem dX5_judge_118 : decode cX5_judge 118 = .ok (.aload_n 0, 1) := by decide +kernel
theorem dX5_judge_119 : decode cX5_judge 119 = .ok (.iload_n 2, 1) := by decide +kernel
theorem dX5_judge_120 : decode cX5_judge 120 = .ok (.invokevirtual 31, 3) := by decide +kernel
theorem dX5_judge_123 : decode cX5_judge 123 = .ok (.ifCond .eq 7, 3) := by decide +kernel
theorem dX5_judge_126 : decode cX5_judge 126 = .ok (.iconst 0, 1) := by decide +kernel
theorem dX5_judge_127 : decode cX5_judge 127 = .ok (.goto 5, 3) := by decide +kernel
theorem dX5_judge_130 : decode cX5_judge 130 = .ok (.bipush (-3), 2) := by decide +kernel
theorem dX5_judge_132 : decode cX5_judge 132 = .ok (.ireturn, 1) := by decide +kernel
theorem dX5_judge_133 : decode cX5_judge 133 = .ok (.aload_n 0, 1) := by decide +kernel
theorem dX5_judge_134 : decode cX5_judge 134 = .ok (.iload_n 2, 1) := by decide +kernel
theorem dX5_judge_135 : decode cX5_judge 135 = .ok (.invokestatic 36, 3) := by decide +kernel
theorem dX5_judge_138 : decode cX5_judge 138 = .ok (.ireturn, 1) := by decide +kernel
theorem dX5_judge_139 : decode cX5_judge 139 = .ok (.iload_n 2, 1) := by decide +kernel
theorem dX5_judge_140 : decode cX5_judge 140 = .ok (.invokestatic 19, 3) := by decide +kernel
theorem dX5_judge_143 : decode cX5_judge 143 = .ok (.ifCond .eq 17, 3) := by decide +kernel
theorem dX5_judge_146 : decode cX5_judge 146 = .ok (.iload_n 3, 1) := by decide +kernel
theorem dX5_judge_147 : decode cX5_judge 147 = .ok (.iconst 0, 1) := by decide +kernel
theorem dX5_judge_148 : decode cX5_judge 148 = .ok (.bipush 99, 2) := by decide +kernel
theorem dX5_judge_150 : decode cX5_judge 150 = .ok (.invokestatic 23, 3) := by decide +kernel
theorem dX5_judge_153 : decode cX5_judge 153 = .ok (.ifCond .eq 7, 3) := by decide +kernel
theorem dX5_judge_156 : decode cX5_judge 156 = .ok (.iconst 0, 1) := by decide +kernel
theorem dX5_judge_157 : decode cX5_judge 157 = .ok (.goto 4, 3) := by decide +kernel
theorem dX5_judge_160 : decode cX5_judge 160 = .ok (.iconst (-1), 1) := by decide +kernel
theorem dX5_judge_161 : decode cX5_judge 161 = .ok (.ireturn, 1) := by decide +kernel
theorem dX5_judge_162 : decode cX5_judge 162 = .ok (.aload_n 0, 1) := by decide +kernel
theorem dX5_judge_163 : decode cX5_judge 163 = .ok (.bipush 104, 2) := by decide +kernel
theorem dX5_judge_165 : decode cX5_judge 165 = .ok (.invokevirtual 40, 3) := by decide +kernel
theorem dX5_judge_168 : decode cX5_judge 168 = .ok (.ifCond .ne 8, 3) := by decide +kernel
theorem dX5_judge_171 : decode cX5_judge 171 = .ok (.bipush 7, 2) := by decide +kernel
theorem dX5_judge_173 : decode cX5_judge 173 = .ok (.goto 4, 3) := by decide +kernel
theorem dX5_judge_176 : decode cX5_judge 176 = .ok (.iconst 0, 1) := by decide +kernel
theorem dX5_judge_177 : decode cX5_judge 177 = .ok (.ireturn, 1) := by decide +kernel
theorem dX5_judge_178 : decode cX5_judge 178 = .ok (.aload_n 0, 1) := by decide +kernel
theorem dX5_judge_179 : decode cX5_judge 179 = .ok (.iload_n 2, 1) := by decide +kernel
theorem dX5_judge_180 : decode cX5_judge 180 = .ok (.invokestatic 44, 3) := by decide +kernel
theorem dX5_judge_183 : decode cX5_judge 183 = .ok (.ireturn, 1) := by decide +kernel
theorem dX5_judge_184 : decode cX5_judge 184 = .ok (.aload_n 0, 1) := by decide +kernel
theorem dX5_judge_185 : decode cX5_judge 185 = .ok (.invokestatic 47, 3) := by decide +kernel
theorem dX5_judge_188 : decode cX5_judge 188 = .ok (.ireturn, 1) := by decide +kernel
theorem dX5_judge_189 : decode cX5_judge 189 = .ok (.iload_n 2, 1) := by decide +kernel
theorem dX5_judge_190 : decode cX5_judge 190 = .ok (.iconst 1, 1) := by decide +kernel
theorem dX5_judge_191 : decode cX5_judge 191 = .ok (.bipush 40, 2) := by decide +kernel
theorem dX5_judge_193 : decode cX5_judge 193 = .ok (.invokestatic 23, 3) := by decide +kernel
theorem dX5_judge_196 : decode cX5_judge 196 = .ok (.ifCond .eq 7, 3) := by decide +kernel
theorem dX5_judge_199 : decode cX5_judge 199 = .ok (.iconst 0, 1) := by decide +kernel
theorem dX5_judge_200 : decode cX5_judge 200 = .ok (.goto 4, 3) := by decide +kernel
theorem dX5_judge_203 : decode cX5_judge 203 = .ok (.iconst (-1), 1) := by decide +kernel
theorem dX5_judge_204 : decode cX5_judge 204 = .ok (.ireturn, 1) := by decide +kernel
theorem dX5_judge_205 : decode cX5_judge 205 = .ok (.iconst (-1), 1) := by decide +kernel
theorem dX5_judge_206 : decode cX5_judge 206 = .ok (.ireturn, 1) := by decide +kernel
theorem dX5_judgeNote_0 : decode cX5_judgeNote 0 = .ok (.iload_n 1, 1) := by decide +kernel
theorem dX5_judgeNote_1 : decode cX5_judgeNote 1 = .ok (.invokestatic 19, 3) := by decide +kernel
theorem dX5_judgeNote_4 : decode cX5_judgeNote 4 = .ok (.ifCond .eq 13, 3) := by decide +kernel
theorem dX5_judgeNote_7 : decode cX5_judgeNote 7 = .ok (.iload_n 2, 1) := by decide +kernel
theorem dX5_judgeNote_8 : decode cX5_judgeNote 8 = .ok (.iconst 1, 1) := by decide +kernel
theorem dX5_judgeNote_9 : decode cX5_judgeNote 9 = .ok (.bipush 30, 2) := by decide +kernel
theorem dX5_judgeNote_11 : decode cX5_judgeNote 11 = .ok (.invokestatic 23, 3) := by decide +kernel
theorem dX5_judgeNote_14 : decode cX5_judgeNote 14 = .ok (.ifCond .ne 5, 3) := by decide +kernel
theorem dX5_judgeNote_17 : decode cX5_judgeNote 17 = .ok (.iconst (-1), 1) := by decide +kernel
theorem dX5_judgeNote_18 : decode cX5_judgeNote 18 = .ok (.ireturn, 1) := by decide +kernel
theorem dX5_judgeNote_19 : decode cX5_judgeNote 19 = .ok (.aload_n 0, 1) := by decide +kernel
theorem dX5_judgeNote_20 : decode cX5_judgeNote 20 = .ok (.getfield 51, 3) := by decide +kernel
theorem dX5_judgeNote_23 : decode cX5_judgeNote 23 = .ok (.bipush 10, 2) := by decide +kernel
theorem dX5_judgeNote_25 : decode cX5_judgeNote 25 = .ok (.if_icmp .lt 7, 3) := by decide +kernel
theorem dX5_judgeNote_28 : decode cX5_judgeNote 28 = .ok (.iconst 1, 1) := by decide +kernel
theorem dX5_judgeNote_29 : decode cX5_judgeNote 29 = .ok (.goto 4, 3) := by decide +kernel
theorem dX5_judgeNote_32 : decode cX5_judgeNote 32 = .ok (.iconst 0, 1) := by decide +kernel
theorem dX5_judgeNote_33 : decode cX5_judgeNote 33 = .ok (.ireturn, 1) := by decide +kernel
theorem dX5_judgeCitation_0 : decode cX5_judgeCitation 0 = .ok (.aload_n 0, 1) := by decide +kernel
theorem dX5_judgeCitation_1 : decode cX5_judgeCitation 1 = .ok (.iload_n 1, 1) := by decide +kernel
theorem dX5_judgeCitation_2 : decode cX5_judgeCitation 2 = .ok (.invokevirtual 55, 3) := by decide +kernel
theorem dX5_judgeCitation_5 : decode cX5_judgeCitation 5 = .ok (.ifCond .eq 11, 3) := by decide +kernel
theorem dX5_judgeCitation_8 : decode cX5_judgeCitation 8 = .ok (.aload_n 0, 1) := by decide +kernel
theorem dX5_judgeCitation_9 : decode cX5_judgeCitation 9 = .ok (.iload_n 2, 1) := by decide +kernel
theorem dX5_judgeCitation_10 : decode cX5_judgeCitation 10 = .ok (.invokevirtual 55, 3) := by decide +kernel
theorem dX5_judgeCitation_13 : decode cX5_judgeCitation 13 = .ok (.ifCond .ne 6, 3) := by decide +kernel
theorem dX5_judgeCitation_16 : decode cX5_judgeCitation 16 = .ok (.bipush (-2), 2) := by decide +kernel
theorem dX5_judgeCitation_18 : decode cX5_judgeCitation 18 = .ok (.ireturn, 1) := by decide +kernel
theorem dX5_judgeCitation_19 : decode cX5_judgeCitation 19 = .ok (.iload_n 1, 1) := by decide +kernel
theorem dX5_judgeCitation_20 : decode cX5_judgeCitation 20 = .ok (.iload_n 2, 1) := by decide +kernel
theorem dX5_judgeCitation_21 : decode cX5_judgeCitation 21 = .ok (.if_icmp .ne 5, 3) := by decide +kernel
theorem dX5_judgeCitation_24 : decode cX5_judgeCitation 24 = .ok (.iconst (-1), 1) := by decide +kernel
theorem dX5_judgeCitation_25 : decode cX5_judgeCitation 25 = .ok (.ireturn, 1) := by decide +kernel
theorem dX5_judgeCitation_26 : decode cX5_judgeCitation 26 = .ok (.aload_n 0, 1) := by decide +kernel
theorem dX5_judgeCitation_27 : decode cX5_judgeCitation 27 = .ok (.getfield 58, 3) := by decide +kernel
theorem dX5_judgeCitation_30 : decode cX5_judgeCitation 30 = .ok (.iload_n 1, 1) := by decide +kernel
theorem dX5_judgeCitation_31 : decode cX5_judgeCitation 31 = .ok (.iaload, 1) := by decide +kernel
theorem dX5_judgeCitation_32 : decode cX5_judgeCitation 32 = .ok (.iload_n 2, 1) := by decide +kernel
theorem dX5_judgeCitation_33 : decode cX5_judgeCitation 33 = .ok (.invokestatic 62, 3) := by decide +kernel
theorem dX5_judgeCitation_36 : decode cX5_judgeCitation 36 = .ok (.iload_n 3, 1) := by decide +kernel
theorem dX5_judgeCitation_37 : decode cX5_judgeCitation 37 = .ok (.if_icmp .ne 7, 3) := by decide +kernel
theorem dX5_judgeCitation_40 : decode cX5_judgeCitation 40 = .ok (.iconst 0, 1) := by decide +kernel
theorem dX5_judgeCitation_41 : decode cX5_judgeCitation 41 = .ok (.goto 4, 3) := by decide +kernel
theorem dX5_judgeCitation_44 : decode cX5_judgeCitation 44 = .ok (.iconst 5, 1) := by decide +kernel
theorem dX5_judgeCitation_45 : decode cX5_judgeCitation 45 = .ok (.ireturn, 1) := by decide +kernel
theorem dX5_judgeNet_0 : decode cX5_judgeNet 0 = .ok (.iload_n 1, 1) := by decide +kernel
theorem dX5_judgeNet_1 : decode cX5_judgeNet 1 = .ok (.invokestatic 19, 3) := by decide +kernel
theorem dX5_judgeNet_4 : decode cX5_judgeNet 4 = .ok (.ifCond .eq 23, 3) := by decide +kernel
theorem dX5_judgeNet_7 : decode cX5_judgeNet 7 = .ok (.iload_n 2, 1) := by decide +kernel
theorem dX5_judgeNet_8 : decode cX5_judgeNet 8 = .ok (.iconst 1, 1) := by decide +kernel
theorem dX5_judgeNet_9 : decode cX5_judgeNet 9 = .ok (.bipush 12, 2) := by decide +kernel
theorem dX5_judgeNet_11 : decode cX5_judgeNet 11 = .ok (.invokestatic 23, 3) := by decide +kernel
theorem dX5_judgeNet_14 : decode cX5_judgeNet 14 = .ok (.ifCond .eq 13, 3) := by decide +kernel
theorem dX5_judgeNet_17 : decode cX5_judgeNet 17 = .ok (.iload_n 3, 1) := by decide +kernel
theorem dX5_judgeNet_18 : decode cX5_judgeNet 18 = .ok (.iconst 1, 1) := by decide +kernel
theorem dX5_judgeNet_19 : decode cX5_judgeNet 19 = .ok (.bipush 30, 2) := by decide +kernel
theorem dX5_judgeNet_21 : decode cX5_judgeNet 21 = .ok (.invokestatic 23, 3) := by decide +kernel
theorem dX5_judgeNet_24 : decode cX5_judgeNet 24 = .ok (.ifCond .ne 5, 3) := by decide +kernel
theorem dX5_judgeNet_27 : decode cX5_judgeNet 27 = .ok (.iconst (-1), 1) := by decide +kernel
theorem dX5_judgeNet_28 : decode cX5_judgeNet 28 = .ok (.ireturn, 1) := by decide +kernel
theorem dX5_judgeNet_29 : decode cX5_judgeNet 29 = .ok (.aload_n 0, 1) := by decide +kernel
theorem dX5_judgeNet_30 : decode cX5_judgeNet 30 = .ok (.getfield 66, 3) := by decide +kernel
theorem dX5_judgeNet_33 : decode cX5_judgeNet 33 = .ok (.iconst 5, 1) := by decide +kernel
theorem dX5_judgeNet_34 : decode cX5_judgeNet 34 = .ok (.if_icmp .lt 7, 3) := by decide +kernel
theorem dX5_judgeNet_37 : decode cX5_judgeNet 37 = .ok (.iconst 1, 1) := by decide +kernel
theorem dX5_judgeNet_38 : decode cX5_judgeNet 38 = .ok (.goto 4, 3) := by decide +kernel
theorem dX5_judgeNet_41 : decode cX5_judgeNet 41 = .ok (.iconst 0, 1) := by decide +kernel
theorem dX5_judgeNet_42 : decode cX5_judgeNet 42 = .ok (.ireturn, 1) := by decide +kernel
theorem dX5_judgeHaul_0 : decode cX5_judgeHaul 0 = .ok (.aload_n 0, 1) := by decide +kernel
theorem dX5_judgeHaul_1 : decode cX5_judgeHaul 1 = .ok (.iload_n 1, 1) := by decide +kernel
theorem dX5_judgeHaul_2 : decode cX5_judgeHaul 2 = .ok (.invokevirtual 31, 3) := by decide +kernel
theorem dX5_judgeHaul_5 : decode cX5_judgeHaul 5 = .ok (.ifCond .ne 6, 3) := by decide +kernel
theorem dX5_judgeHaul_8 : decode cX5_judgeHaul 8 = .ok (.bipush (-3), 2) := by decide +kernel
theorem dX5_judgeHaul_10 : decode cX5_judgeHaul 10 = .ok (.ireturn, 1) := by decide +kernel
theorem dX5_judgeHaul_11 : decode cX5_judgeHaul 11 = .ok (.aload_n 0, 1) := by decide +kernel
theorem dX5_judgeHaul_12 : decode cX5_judgeHaul 12 = .ok (.getfield 69, 3) := by decide +kernel
theorem dX5_judgeHaul_15 : decode cX5_judgeHaul 15 = .ok (.ifCond .ne 5, 3) := by decide +kernel
theorem dX5_judgeHaul_18 : decode cX5_judgeHaul 18 = .ok (.iconst 2, 1) := by decide +kernel
theorem dX5_judgeHaul_19 : decode cX5_judgeHaul 19 = .ok (.ireturn, 1) := by decide +kernel
theorem dX5_judgeHaul_20 : decode cX5_judgeHaul 20 = .ok (.aload_n 0, 1) := by decide +kernel
theorem dX5_judgeHaul_21 : decode cX5_judgeHaul 21 = .ok (.invokevirtual 73, 3) := by decide +kernel
theorem dX5_judgeHaul_24 : decode cX5_judgeHaul 24 = .ok (.ifCond .ne 18, 3) := by decide +kernel
theorem dX5_judgeHaul_27 : decode cX5_judgeHaul 27 = .ok (.aload_n 0, 1) := by decide +kernel
theorem dX5_judgeHaul_28 : decode cX5_judgeHaul 28 = .ok (.getfield 77, 3) := by decide +kernel
theorem dX5_judgeHaul_31 : decode cX5_judgeHaul 31 = .ok (.iload_n 1, 1) := by decide +kernel
theorem dX5_judgeHaul_32 : decode cX5_judgeHaul 32 = .ok (.iaload, 1) := by decide +kernel
theorem dX5_judgeHaul_33 : decode cX5_judgeHaul 33 = .ok (.bipush 10, 2) := by decide +kernel
theorem dX5_judgeHaul_35 : decode cX5_judgeHaul 35 = .ok (.if_icmp .ge 7, 3) := by decide +kernel
theorem dX5_judgeHaul_38 : decode cX5_judgeHaul 38 = .ok (.iconst 1, 1) := by decide +kernel
theorem dX5_judgeHaul_39 : decode cX5_judgeHaul 39 = .ok (.goto 4, 3) := by decide +kernel
theorem dX5_judgeHaul_42 : decode cX5_judgeHaul 42 = .ok (.iconst 0, 1) := by decide +kernel
theorem dX5_judgeHaul_43 : decode cX5_judgeHaul 43 = .ok (.istore_n 2, 1) := by decide +kernel
theorem dX5_judgeHaul_44 : decode cX5_judgeHaul 44 = .ok (.iload_n 2, 1) := by decide +kernel
theorem dX5_judgeHaul_45 : decode cX5_judgeHaul 45 = .ok (.ifCond .eq 7, 3) := by decide +kernel
theorem dX5_judgeHaul_48 : decode cX5_judgeHaul 48 = .ok (.iconst 3, 1) := by decide +kernel
theorem dX5_judgeHaul_49 : decode cX5_judgeHaul 49 = .ok (.goto 4, 3) := by decide +kernel
theorem dX5_judgeHaul_52 : decode cX5_judgeHaul 52 = .ok (.iconst 0, 1) := by decide +kernel
theorem dX5_judgeHaul_53 : decode cX5_judgeHaul 53 = .ok (.ireturn, 1) := by decide +kernel
theorem dX5_judgeFree_0 : decode cX5_judgeFree 0 = .ok (.aload_n 0, 1) := by decide +kernel
theorem dX5_judgeFree_1 : decode cX5_judgeFree 1 = .ok (.iload_n 1, 1) := by decide +kernel
theorem dX5_judgeFree_2 : decode cX5_judgeFree 2 = .ok (.invokevirtual 55, 3) := by decide +kernel
theorem dX5_judgeFree_5 : decode cX5_judgeFree 5 = .ok (.ifCond .ne 6, 3) := by decide +kernel
theorem dX5_judgeFree_8 : decode cX5_judgeFree 8 = .ok (.bipush (-2), 2) := by decide +kernel
theorem dX5_judgeFree_10 : decode cX5_judgeFree 10 = .ok (.ireturn, 1) := by decide +kernel
theorem dX5_judgeFree_11 : decode cX5_judgeFree 11 = .ok (.aload_n 0, 1) := by decide +kernel
theorem dX5_judgeFree_12 : decode cX5_judgeFree 12 = .ok (.getfield 80, 3) := by decide +kernel
theorem dX5_judgeFree_15 : decode cX5_judgeFree 15 = .ok (.iload_n 1, 1) := by decide +kernel
theorem dX5_judgeFree_16 : decode cX5_judgeFree 16 = .ok (.caload, 1) := by decide +kernel
theorem dX5_judgeFree_17 : decode cX5_judgeFree 17 = .ok (.bipush 104, 2) := by decide +kernel
theorem dX5_judgeFree_19 : decode cX5_judgeFree 19 = .ok (.if_icmp .ne 7, 3) := by decide +kernel
theorem dX5_judgeFree_22 : decode cX5_judgeFree 22 = .ok (.iconst 0, 1) := by decide +kernel
theorem dX5_judgeFree_23 : decode cX5_judgeFree 23 = .ok (.goto 4, 3) := by decide +kernel
theorem dX5_judgeFree_26 : decode cX5_judgeFree 26 = .ok (.iconst 4, 1) := by decide +kernel
theorem dX5_judgeFree_27 : decode cX5_judgeFree 27 = .ok (.ireturn, 1) := by decide +kernel
theorem dX5_judgeLicence_0 : decode cX5_judgeLicence 0 = .ok (.aload_n 0, 1) := by decide +kernel
theorem dX5_judgeLicence_1 : decode cX5_judgeLicence 1 = .ok (.getfield 69, 3) := by decide +kernel
theorem dX5_judgeLicence_4 : decode cX5_judgeLicence 4 = .ok (.ifCond .eq 6, 3) := by decide +kernel
theorem dX5_judgeLicence_7 : decode cX5_judgeLicence 7 = .ok (.bipush 8, 2) := by decide +kernel
theorem dX5_judgeLicence_9 : decode cX5_judgeLicence 9 = .ok (.ireturn, 1) := by decide +kernel
theorem dX5_judgeLicence_10 : decode cX5_judgeLicence 10 = .ok (.aload_n 0, 1) := by decide +kernel
theorem dX5_judgeLicence_11 : decode cX5_judgeLicence 11 = .ok (.getfield 84, 3) := by decide +kernel
theorem dX5_judgeLicence_14 : decode cX5_judgeLicence 14 = .ok (.aload_n 0, 1) := by decide +kernel
theorem dX5_judgeLicence_15 : decode cX5_judgeLicence 15 = .ok (.invokevirtual 87, 3) := by decide +kernel
theorem dX5_judgeLicence_18 : decode cX5_judgeLicence 18 = .ok (.if_icmp .ge 8, 3) := by decide +kernel
theorem dX5_judgeLicence_21 : decode cX5_judgeLicence 21 = .ok (.bipush 6, 2) := by decide +kernel
theorem dX5_judgeLicence_23 : decode cX5_judgeLicence 23 = .ok (.goto 4, 3) := by decide +kernel
theorem dX5_judgeLicence_26 : decode cX5_judgeLicence 26 = .ok (.iconst 0, 1) := by decide +kernel
theorem dX5_judgeLicence_27 : decode cX5_judgeLicence 27 = .ok (.ireturn, 1) := by decide +kernel
theorem dX5_detailOf_0 : decode cX5_detailOf 0 = .ok (.iload_n 1, 1) := by decide +kernel
theorem dX5_detailOf_1 : decode cX5_detailOf 1 = .ok (.tableswitch 119 1 8 #[47, 58, 63, 82, 84, 102, 112, 58], 47) := by decide +kernel
theorem dX5_detailOf_48 : decode cX5_detailOf 48 = .ok (.iload_n 2, 1) := by decide +kernel
theorem dX5_detailOf_49 : decode cX5_detailOf 49 = .ok (.ifCond .ne 8, 3) := by decide +kernel
theorem dX5_detailOf_52 : decode cX5_detailOf 52 = .ok (.bipush 10, 2) := by decide +kernel
theorem dX5_detailOf_54 : decode cX5_detailOf 54 = .ok (.goto 4, 3) := by decide +kernel
theorem dX5_detailOf_57 : decode cX5_detailOf 57 = .ok (.iconst 5, 1) := by decide +kernel
theorem dX5_detailOf_58 : decode cX5_detailOf 58 = .ok (.ireturn, 1) := by decide +kernel
theorem dX5_detailOf_59 : decode cX5_detailOf 59 = .ok (.aload_n 0, 1) := by decide +kernel
theorem dX5_detailOf_60 : decode cX5_detailOf 60 = .ok (.invokevirtual 73, 3) := by decide +kernel
theorem dX5_detailOf_63 : decode cX5_detailOf 63 = .ok (.ireturn, 1) := by decide +kernel
theorem dX5_detailOf_64 : decode cX5_detailOf 64 = .ok (.aload_n 0, 1) := by decide +kernel
theorem dX5_detailOf_65 : decode cX5_detailOf 65 = .ok (.iload_n 3, 1) := by decide +kernel
theorem dX5_detailOf_66 : decode cX5_detailOf 66 = .ok (.invokevirtual 31, 3) := by decide +kernel
theorem dX5_detailOf_69 : decode cX5_detailOf 69 = .ok (.ifCond .eq 12, 3) := by decide +kernel
theorem dX5_detailOf_72 : decode cX5_detailOf 72 = .ok (.aload_n 0, 1) := by decide +kernel
theorem dX5_detailOf_73 : decode cX5_detailOf 73 = .ok (.getfield 77, 3) := by decide +kernel
theorem dX5_detailOf_76 : decode cX5_detailOf 76 = .ok (.iload_n 3, 1) := by decide +kernel
theorem dX5_detailOf_77 : decode cX5_detailOf 77 = .ok (.iaload, 1) := by decide +kernel
theorem dX5_detailOf_78 : decode cX5_detailOf 78 = .ok (.goto 4, 3) := by decide +kernel
theorem dX5_detailOf_81 : decode cX5_detailOf 81 = .ok (.iconst 0, 1) := by decide +kernel
theorem dX5_detailOf_82 : decode cX5_detailOf 82 = .ok (.ireturn, 1) := by decide +kernel
theorem dX5_detailOf_83 : decode cX5_detailOf 83 = .ok (.iload_n 3, 1) := by decide +kernel
theorem dX5_detailOf_84 : decode cX5_detailOf 84 = .ok (.ireturn, 1) := by decide +kernel
theorem dX5_detailOf_85 : decode cX5_detailOf 85 = .ok (.aload_n 0, 1) := by decide +kernel
theorem dX5_detailOf_86 : decode cX5_detailOf 86 = .ok (.iload_n 3, 1) := by decide +kernel
theorem dX5_detailOf_87 : decode cX5_detailOf 87 = .ok (.invokevirtual 55, 3) := by decide +kernel
theorem dX5_detailOf_90 : decode cX5_detailOf 90 = .ok (.ifCond .eq 11, 3) := by decide +kernel
theorem dX5_detailOf_93 : decode cX5_detailOf 93 = .ok (.aload_n 0, 1) := by decide +kernel
theorem dX5_detailOf_94 : decode cX5_detailOf 94 = .ok (.iload_n 3, 1) := by decide +kernel
theorem dX5_detailOf_95 : decode cX5_detailOf 95 = .ok (.invokevirtual 90, 3) := by decide +kernel
theorem dX5_detailOf_98 : decode cX5_detailOf 98 = .ok (.goto 4, 3) := by decide +kernel
theorem dX5_detailOf_101 : decode cX5_detailOf 101 = .ok (.iconst 0, 1) := by decide +kernel
theorem dX5_detailOf_102 : decode cX5_detailOf 102 = .ok (.ireturn, 1) := by decide +kernel
theorem dX5_detailOf_103 : decode cX5_detailOf 103 = .ok (.aload_n 0, 1) := by decide +kernel
theorem dX5_detailOf_104 : decode cX5_detailOf 104 = .ok (.invokevirtual 87, 3) := by decide +kernel
theorem dX5_detailOf_107 : decode cX5_detailOf 107 = .ok (.aload_n 0, 1) := by decide +kernel
theorem dX5_detailOf_108 : decode cX5_detailOf 108 = .ok (.getfield 84, 3) := by decide +kernel
theorem dX5_detailOf_111 : decode cX5_detailOf 111 = .ok (.isub, 1) := by decide +kernel
theorem dX5_detailOf_112 : decode cX5_detailOf 112 = .ok (.ireturn, 1) := by decide +kernel
theorem dX5_detailOf_113 : decode cX5_detailOf 113 = .ok (.aload_n 0, 1) := by decide +kernel
theorem dX5_detailOf_114 : decode cX5_detailOf 114 = .ok (.bipush 102, 2) := by decide +kernel
theorem dX5_detailOf_116 : decode cX5_detailOf 116 = .ok (.invokevirtual 40, 3) := by decide +kernel
theorem dX5_detailOf_119 : decode cX5_detailOf 119 = .ok (.ireturn, 1) := by decide +kernel
theorem dX5_detailOf_120 : decode cX5_detailOf 120 = .ok (.iconst 0, 1) := by decide +kernel
theorem dX5_detailOf_121 : decode cX5_detailOf 121 = .ok (.ireturn, 1) := by decide +kernel
theorem dX6_init_0 : decode cX6_init 0 = .ok (.aload_n 0, 1) := by decide +kernel
theorem dX6_init_1 : decode cX6_init 1 = .ok (.invokespecial 3, 3) := by decide +kernel
theorem dX6_init_4 : decode cX6_init 4 = .ok (.aload_n 0, 1) := by decide +kernel
theorem dX6_init_5 : decode cX6_init 5 = .ok (.sipush 199, 3) := by decide +kernel
theorem dX6_init_8 : decode cX6_init 8 = .ok (.newarray .int, 2) := by decide +kernel
theorem dX6_init_10 : decode cX6_init 10 = .ok (.putfield 9, 3) := by decide +kernel
theorem dX6_init_13 : decode cX6_init 13 = .ok (.aload_n 0, 1) := by decide +kernel
theorem dX6_init_14 : decode cX6_init 14 = .ok (.bipush 12, 2) := by decide +kernel
theorem dX6_init_16 : decode cX6_init 16 = .ok (.newarray .int, 2) := by decide +kernel
theorem dX6_init_18 : decode cX6_init 18 = .ok (.putfield 15, 3) := by decide +kernel
theorem dX6_init_21 : decode cX6_init 21 = .ok (.return_, 1) := by decide +kernel
theorem dX6_choose_0 : decode cX6_choose 0 = .ok (.aload_n 1, 1) := by decide +kernel
theorem dX6_choose_1 : decode cX6_choose 1 = .ok (.bipush 104, 2) := by decide +kernel
theorem dX6_choose_3 : decode cX6_choose 3 = .ok (.invokevirtual 18, 3) := by decide +kernel
theorem dX6_choose_6 : decode cX6_choose 6 = .ok (.istore_n 2, 1) := by decide +kernel
theorem dX6_choose_7 : decode cX6_choose 7 = .ok (.iconst 0, 1) := by decide +kernel
theorem dX6_choose_8 : decode cX6_choose 8 = .ok (.istore_n 3, 1) := by decide +kernel
theorem dX6_choose_9 : decode cX6_choose 9 = .ok (.iconst 0, 1) := by decide +kernel
theorem dX6_choose_10 : decode cX6_choose 10 = .ok (.istore 4, 2) := by decide +kernel
theorem dX6_choose_12 : decode cX6_choose 12 = .ok (.iload 4, 2) := by decide +kernel
theorem dX6_choose_14 : decode cX6_choose 14 = .ok (.bipush 12, 2) := by decide +kernel
theorem dX6_choose_16 : decode cX6_choose 16 = .ok (.if_icmp .ge 43, 3) := by decide +kernel
theorem dX6_choose_19 : decode cX6_choose 19 = .ok (.iload_n 2, 1) := by decide +kernel
theorem dX6_choose_20 : decode cX6_choose 20 = .ok (.ifCond .eq 39, 3) := by decide +kernel
theorem dX6_choose_23 : decode cX6_choose 23 = .ok (.aload_n 1, 1) := by decide +kernel
theorem dX6_choose_24 : decode cX6_choose 24 = .ok (.iload_n 2, 1) := by decide +kernel
theorem dX6_choose_25 : decode cX6_choose 25 = .ok (.iload 4, 2) := by decide +kernel
theorem dX6_choose_27 : decode cX6_choose 27 = .ok (.invokestatic 24, 3) := by decide +kernel
theorem dX6_choose_30 : decode cX6_choose 30 = .ok (.istore 5, 2) := by decide +kernel
theorem dX6_choose_32 : decode cX6_choose 32 = .ok (.iload 5, 2) := by decide +kernel
theorem dX6_choose_34 : decode cX6_choose 34 = .ok (.ifCond .eq 19, 3) := by decide +kernel
theorem dX6_choose_37 : decode cX6_choose 37 = .ok (.iload_n 3, 1) := by decide +kernel
theorem dX6_choose_38 : decode cX6_choose 38 = .ok (.aload_n 0, 1) := by decide +kernel
theorem dX6_choose_39 : decode cX6_choose 39 = .ok (.aload_n 1, 1) := by decide +kernel
theorem dX6_choose_40 : decode cX6_choose 40 = .ok (.iload 5, 2) := by decide +kernel
theorem dX6_choose_42 : decode cX6_choose 42 = .ok (.aload_n 1, 1) := by decide +kernel
theorem dX6_choose_43 : decode cX6_choose 43 = .ok (.iload 4, 2) := by decide +kernel
theorem dX6_choose_45 : decode cX6_choose 45 = .ok (.invokevirtual 28, 3) := by decide +kernel
theorem dX6_choose_48 : decode cX6_choose 48 = .ok (.invokevirtual 32, 3) := by decide +kernel
theorem dX6_choose_51 : decode cX6_choose 51 = .ok (.ior, 1) := by decide +kernel
theorem dX6_choose_52 : decode cX6_choose 52 = .ok (.istore_n 3, 1) := by decide +kernel
theorem dX6_choose_53 : decode cX6_choose 53 = .ok (.iinc 4 1, 3) := by decide +kernel
theorem dX6_choose_56 : decode cX6_choose 56 = .ok (.goto (-44), 3) := by decide +kernel
theorem dX6_choose_59 : decode cX6_choose 59 = .ok (.iload_n 3, 1) := by decide +kernel
theorem dX6_choose_60 : decode cX6_choose 60 = .ok (.ireturn, 1) := by decide +kernel
theorem dX6_heldOn_0 : decode cX6_heldOn 0 = .ok (.iconst 0, 1) := by decide +kernel
theorem dX6_heldOn_1 : decode cX6_heldOn 1 = .ok (.istore_n 3, 1) := by decide +kernel
theorem dX6_heldOn_2 : decode cX6_heldOn 2 = .ok (.iconst 0, 1) := by decide +kernel
theorem dX6_heldOn_3 : decode cX6_heldOn 3 = .ok (.istore 4, 2) := by decide +kernel
theorem dX6_heldOn_5 : decode cX6_heldOn 5 = .ok (.iload 4, 2) := by decide +kernel
theorem dX6_heldOn_7 : decode cX6_heldOn 7 = .ok (.aload_n 0, 1) := by decide +kernel
theorem dX6_heldOn_8 : decode cX6_heldOn 8 = .ok (.getfield 35, 3) := by decide +kernel
theorem dX6_heldOn_11 : decode cX6_heldOn 11 = .ok (.if_icmp .ge 37, 3) := by decide +kernel
theorem dX6_heldOn_14 : decode cX6_heldOn 14 = .ok (.iload_n 1, 1) := by decide +kernel
theorem dX6_heldOn_15 : decode cX6_heldOn 15 = .ok (.iload 4, 2) := by decide +kernel
