theorem dX9_haul_9 : decode cX9_haul 9 = .ok (.ireturn, 1) := by decide +kernel
theorem dX9_netCount_0 : decode cX9_netCount 0 = .ok (.aload_n 0, 1) := by decide +kernel
theorem dX9_netCount_1 : decode cX9_netCount 1 = .ok (.getfield 12, 3) := by decide +kernel
theorem dX9_netCount_4 : decode cX9_netCount 4 = .ok (.getfield 145, 3) := by decide +kernel
theorem dX9_netCount_7 : decode cX9_netCount 7 = .ok (.ireturn, 1) := by decide +kernel
theorem dX9_covers_0 : decode cX9_covers 0 = .ok (.aload_n 0, 1) := by decide +kernel
theorem dX9_covers_1 : decode cX9_covers 1 = .ok (.iload_n 1, 1) := by decide +kernel
theorem dX9_covers_2 : decode cX9_covers 2 = .ok (.invokevirtual 148, 3) := by decide +kernel
theorem dX9_covers_5 : decode cX9_covers 5 = .ok (.iload_n 2, 1) := by decide +kernel
theorem dX9_covers_6 : decode cX9_covers 6 = .ok (.invokestatic 130, 3) := by decide +kernel
theorem dX9_covers_9 : decode cX9_covers 9 = .ok (.aload_n 0, 1) := by decide +kernel
theorem dX9_covers_10 : decode cX9_covers 10 = .ok (.getfield 12, 3) := by decide +kernel
theorem dX9_covers_13 : decode cX9_covers 13 = .ok (.iload_n 1, 1) := by decide +kernel
theorem dX9_covers_14 : decode cX9_covers 14 = .ok (.iload_n 2, 1) := by decide +kernel
theorem dX9_covers_15 : decode cX9_covers 15 = .ok (.invokevirtual 151, 3) := by decide +kernel
theorem dX9_covers_18 : decode cX9_covers 18 = .ok (.ireturn, 1) := by decide +kernel
theorem dX9_catchSize_0 : decode cX9_catchSize 0 = .ok (.aload_n 0, 1) := by decide +kernel
theorem dX9_catchSize_1 : decode cX9_catchSize 1 = .ok (.iload_n 1, 1) := by decide +kernel
theorem dX9_catchSize_2 : decode cX9_catchSize 2 = .ok (.invokevirtual 148, 3) := by decide +kernel
theorem dX9_catchSize_5 : decode cX9_catchSize 5 = .ok (.aload_n 0, 1) := by decide +kernel
theorem dX9_catchSize_6 : decode cX9_catchSize 6 = .ok (.getfield 12, 3) := by decide +kernel
theorem dX9_catchSize_9 : decode cX9_catchSize 9 = .ok (.iload_n 1, 1) := by decide +kernel
theorem dX9_catchSize_10 : decode cX9_catchSize 10 = .ok (.invokevirtual 154, 3) := by decide +kernel
theorem dX9_catchSize_13 : decode cX9_catchSize 13 = .ok (.invokestatic 157, 3) := by decide +kernel
theorem dX9_catchSize_16 : decode cX9_catchSize 16 = .ok (.ireturn, 1) := by decide +kernel
theorem dX9_bestNet_0 : decode cX9_bestNet 0 = .ok (.aload_n 0, 1) := by decide +kernel
theorem dX9_bestNet_1 : decode cX9_bestNet 1 = .ok (.getfield 12, 3) := by decide +kernel
theorem dX9_bestNet_4 : decode cX9_bestNet 4 = .ok (.invokevirtual 162, 3) := by decide +kernel
theorem dX9_bestNet_7 : decode cX9_bestNet 7 = .ok (.istore_n 1, 1) := by decide +kernel
theorem dX9_bestNet_8 : decode cX9_bestNet 8 = .ok (.iload_n 1, 1) := by decide +kernel
theorem dX9_bestNet_9 : decode cX9_bestNet 9 = .ok (.ifCond .ge 13, 3) := by decide +kernel
theorem dX9_bestNet_12 : decode cX9_bestNet 12 = .ok (.new 120, 3) := by decide +kernel
theorem dX9_bestNet_15 : decode cX9_bestNet 15 = .ok (.dup, 1) := by decide +kernel
theorem dX9_bestNet_16 : decode cX9_bestNet 16 = .ok (.ldc 166, 2) := by decide +kernel
theorem dX9_bestNet_18 : decode cX9_bestNet 18 = .ok (.invokespecial 124, 3) := by decide +kernel
theorem dX9_bestNet_21 : decode cX9_bestNet 21 = .ok (.athrow, 1) := by decide +kernel
theorem dX9_bestNet_22 : decode cX9_bestNet 22 = .ok (.iload_n 1, 1) := by decide +kernel
theorem dX9_bestNet_23 : decode cX9_bestNet 23 = .ok (.ireturn, 1) := by decide +kernel
theorem dX9_land_0 : decode cX9_land 0 = .ok (.aload_n 0, 1) := by decide +kernel
theorem dX9_land_1 : decode cX9_land 1 = .ok (.bipush 8, 2) := by decide +kernel
theorem dX9_land_3 : decode cX9_land 3 = .ok (.iconst 0, 1) := by decide +kernel
theorem dX9_land_4 : decode cX9_land 4 = .ok (.iconst 0, 1) := by decide +kernel
theorem dX9_land_5 : decode cX9_land 5 = .ok (.iconst 0, 1) := by decide +kernel
theorem dX9_land_6 : decode cX9_land 6 = .ok (.invokevirtual 61, 3) := by decide +kernel
theorem dX9_land_9 : decode cX9_land 9 = .ok (.ireturn, 1) := by decide +kernel
theorem dX9_free_0 : decode cX9_free 0 = .ok (.aload_n 0, 1) := by decide +kernel
theorem dX9_free_1 : decode cX9_free 1 = .ok (.bipush 9, 2) := by decide +kernel
theorem dX9_free_3 : decode cX9_free 3 = .ok (.iload_n 1, 1) := by decide +kernel
theorem dX9_free_4 : decode cX9_free 4 = .ok (.iconst 0, 1) := by decide +kernel
theorem dX9_free_5 : decode cX9_free 5 = .ok (.iconst 0, 1) := by decide +kernel
theorem dX9_free_6 : decode cX9_free 6 = .ok (.invokevirtual 61, 3) := by decide +kernel
theorem dX9_free_9 : decode cX9_free 9 = .ok (.ireturn, 1) := by decide +kernel
theorem dX9_heldCount_0 : decode cX9_heldCount 0 = .ok (.aload_n 0, 1) := by decide +kernel
theorem dX9_heldCount_1 : decode cX9_heldCount 1 = .ok (.getfield 12, 3) := by decide +kernel
theorem dX9_heldCount_4 : decode cX9_heldCount 4 = .ok (.bipush 104, 2) := by decide +kernel
theorem dX9_heldCount_6 : decode cX9_heldCount 6 = .ok (.invokevirtual 168, 3) := by decide +kernel
theorem dX9_heldCount_9 : decode cX9_heldCount 9 = .ok (.ireturn, 1) := by decide +kernel
theorem dX9_bestLanding_0 : decode cX9_bestLanding 0 = .ok (.aload_n 0, 1) := by decide +kernel
theorem dX9_bestLanding_1 : decode cX9_bestLanding 1 = .ok (.getfield 12, 3) := by decide +kernel
theorem dX9_bestLanding_4 : decode cX9_bestLanding 4 = .ok (.aload_n 0, 1) := by decide +kernel
theorem dX9_bestLanding_5 : decode cX9_bestLanding 5 = .ok (.getfield 29, 3) := by decide +kernel
theorem dX9_bestLanding_8 : decode cX9_bestLanding 8 = .ok (.aload_n 0, 1) := by decide +kernel
theorem dX9_bestLanding_9 : decode cX9_bestLanding 9 = .ok (.getfield 12, 3) := by decide +kernel
theorem dX9_bestLanding_12 : decode cX9_bestLanding 12 = .ok (.invokevirtual 172, 3) := by decide +kernel
theorem dX9_bestLanding_15 : decode cX9_bestLanding 15 = .ok (.invokevirtual 175, 3) := by decide +kernel
theorem dX9_bestLanding_18 : decode cX9_bestLanding 18 = .ok (.ireturn, 1) := by decide +kernel
theorem dX9_bestLandingBySets_0 : decode cX9_bestLandingBySets 0 = .ok (.aload_n 0, 1) := by decide +kernel
theorem dX9_bestLandingBySets_1 : decode cX9_bestLandingBySets 1 = .ok (.getfield 29, 3) := by decide +kernel
theorem dX9_bestLandingBySets_4 : decode cX9_bestLandingBySets 4 = .ok (.aload_n 0, 1) := by decide +kernel
theorem dX9_bestLandingBySets_5 : decode cX9_bestLandingBySets 5 = .ok (.getfield 12, 3) := by decide +kernel
theorem dX9_bestLandingBySets_8 : decode cX9_bestLandingBySets 8 = .ok (.invokevirtual 178, 3) := by decide +kernel
theorem dX9_bestLandingBySets_11 : decode cX9_bestLandingBySets 11 = .ok (.ireturn, 1) := by decide +kernel
theorem dX9_wouldLand_0 : decode cX9_wouldLand 0 = .ok (.aload_n 0, 1) := by decide +kernel
theorem dX9_wouldLand_1 : decode cX9_wouldLand 1 = .ok (.iload_n 1, 1) := by decide +kernel
theorem dX9_wouldLand_2 : decode cX9_wouldLand 2 = .ok (.invokevirtual 69, 3) := by decide +kernel
theorem dX9_wouldLand_5 : decode cX9_wouldLand 5 = .ok (.aload_n 0, 1) := by decide +kernel
theorem dX9_wouldLand_6 : decode cX9_wouldLand 6 = .ok (.getfield 29, 3) := by decide +kernel
theorem dX9_wouldLand_9 : decode cX9_wouldLand 9 = .ok (.aload_n 0, 1) := by decide +kernel
theorem dX9_wouldLand_10 : decode cX9_wouldLand 10 = .ok (.getfield 12, 3) := by decide +kernel
theorem dX9_wouldLand_13 : decode cX9_wouldLand 13 = .ok (.invokevirtual 172, 3) := by decide +kernel
theorem dX9_wouldLand_16 : decode cX9_wouldLand 16 = .ok (.iload_n 1, 1) := by decide +kernel
theorem dX9_wouldLand_17 : decode cX9_wouldLand 17 = .ok (.invokestatic 91, 3) := by decide +kernel
theorem dX9_wouldLand_20 : decode cX9_wouldLand 20 = .ok (.ireturn, 1) := by decide +kernel
theorem dX9_buyLicence_0 : decode cX9_buyLicence 0 = .ok (.aload_n 0, 1) := by decide +kernel
theorem dX9_buyLicence_1 : decode cX9_buyLicence 1 = .ok (.bipush 10, 2) := by decide +kernel
theorem dX9_buyLicence_3 : decode cX9_buyLicence 3 = .ok (.iconst 0, 1) := by decide +kernel
theorem dX9_buyLicence_4 : decode cX9_buyLicence 4 = .ok (.iconst 0, 1) := by decide +kernel
theorem dX9_buyLicence_5 : decode cX9_buyLicence 5 = .ok (.iconst 0, 1) := by decide +kernel
theorem dX9_buyLicence_6 : decode cX9_buyLicence 6 = .ok (.invokevirtual 61, 3) := by decide +kernel
theorem dX9_buyLicence_9 : decode cX9_buyLicence 9 = .ok (.ireturn, 1) := by decide +kernel
theorem dX9_pass_0 : decode cX9_pass 0 = .ok (.aload_n 0, 1) := by decide +kernel
theorem dX9_pass_1 : decode cX9_pass 1 = .ok (.bipush 11, 2) := by decide +kernel
theorem dX9_pass_3 : decode cX9_pass 3 = .ok (.iload_n 1, 1) := by decide +kernel
theorem dX9_pass_4 : decode cX9_pass 4 = .ok (.iconst 0, 1) := by decide +kernel
theorem dX9_pass_5 : decode cX9_pass 5 = .ok (.iconst 0, 1) := by decide +kernel
theorem dX9_pass_6 : decode cX9_pass 6 = .ok (.invokevirtual 61, 3) := by decide +kernel
theorem dX9_pass_9 : decode cX9_pass 9 = .ok (.ireturn, 1) := by decide +kernel
theorem dX9_hasLicence_0 : decode cX9_hasLicence 0 = .ok (.aload_n 0, 1) := by decide +kernel
theorem dX9_hasLicence_1 : decode cX9_hasLicence 1 = .ok (.getfield 12, 3) := by decide +kernel
theorem dX9_hasLicence_4 : decode cX9_hasLicence 4 = .ok (.getfield 181, 3) := by decide +kernel
theorem dX9_hasLicence_7 : decode cX9_hasLicence 7 = .ok (.ireturn, 1) := by decide +kernel
theorem dX9_day_0 : decode cX9_day 0 = .ok (.aload_n 0, 1) := by decide +kernel
theorem dX9_day_1 : decode cX9_day 1 = .ok (.getfield 12, 3) := by decide +kernel
theorem dX9_day_4 : decode cX9_day 4 = .ok (.getfield 185, 3) := by decide +kernel
theorem dX9_day_7 : decode cX9_day 7 = .ok (.ireturn, 1) := by decide +kernel
theorem dX9_season_0 : decode cX9_season 0 = .ok (.aload_n 0, 1) := by decide +kernel
theorem dX9_season_1 : decode cX9_season 1 = .ok (.getfield 12, 3) := by decide +kernel
theorem dX9_season_4 : decode cX9_season 4 = .ok (.invokevirtual 188, 3) := by decide +kernel
theorem dX9_season_7 : decode cX9_season 7 = .ok (.ireturn, 1) := by decide +kernel
theorem dX9_coins_0 : decode cX9_coins 0 = .ok (.aload_n 0, 1) := by decide +kernel
theorem dX9_coins_1 : decode cX9_coins 1 = .ok (.getfield 12, 3) := by decide +kernel
theorem dX9_coins_4 : decode cX9_coins 4 = .ok (.getfield 191, 3) := by decide +kernel
theorem dX9_coins_7 : decode cX9_coins 7 = .ok (.ireturn, 1) := by decide +kernel
theorem dX9_caught_0 : decode cX9_caught 0 = .ok (.aload_n 0, 1) := by decide +kernel
theorem dX9_caught_1 : decode cX9_caught 1 = .ok (.getfield 12, 3) := by decide +kernel
theorem dX9_caught_4 : decode cX9_caught 4 = .ok (.getfield 194, 3) := by decide +kernel
theorem dX9_caught_7 : decode cX9_caught 7 = .ok (.ireturn, 1) := by decide +kernel
theorem dX9_landed_0 : decode cX9_landed 0 = .ok (.aload_n 0, 1) := by decide +kernel
theorem dX9_landed_1 : decode cX9_landed 1 = .ok (.getfield 12, 3) := by decide +kernel
theorem dX9_landed_4 : decode cX9_landed 4 = .ok (.bipush 108, 2) := by decide +kernel
theorem dX9_landed_6 : decode cX9_landed 6 = .ok (.invokevirtual 168, 3) := by decide +kernel
theorem dX9_landed_9 : decode cX9_landed 9 = .ok (.ireturn, 1) := by decide +kernel
theorem dX9_returned_0 : decode cX9_returned 0 = .ok (.aload_n 0, 1) := by decide +kernel
theorem dX9_returned_1 : decode cX9_returned 1 = .ok (.getfield 12, 3) := by decide +kernel
theorem dX9_returned_4 : decode cX9_returned 4 = .ok (.getfield 197, 3) := by decide +kernel
theorem dX9_returned_7 : decode cX9_returned 7 = .ok (.ireturn, 1) := by decide +kernel
theorem dX9_meanWeight_0 : decode cX9_meanWeight 0 = .ok (.aload_n 0, 1) := by decide +kernel
theorem dX9_meanWeight_1 : decode cX9_meanWeight 1 = .ok (.getfield 12, 3) := by decide +kernel
theorem dX9_meanWeight_4 : decode cX9_meanWeight 4 = .ok (.bipush 102, 2) := by decide +kernel
theorem dX9_meanWeight_6 : decode cX9_meanWeight 6 = .ok (.invokevirtual 168, 3) := by decide +kernel
theorem dX9_meanWeight_9 : decode cX9_meanWeight 9 = .ok (.istore_n 1, 1) := by decide +kernel
theorem dX9_meanWeight_10 : decode cX9_meanWeight 10 = .ok (.iload_n 1, 1) := by decide +kernel
theorem dX9_meanWeight_11 : decode cX9_meanWeight 11 = .ok (.ifCond .ne 13, 3) := by decide +kernel
theorem dX9_meanWeight_14 : decode cX9_meanWeight 14 = .ok (.new 200, 3) := by decide +kernel
theorem dX9_meanWeight_17 : decode cX9_meanWeight 17 = .ok (.dup, 1) := by decide +kernel
theorem dX9_meanWeight_18 : decode cX9_meanWeight 18 = .ok (.ldc 202, 2) := by decide +kernel
theorem dX9_meanWeight_20 : decode cX9_meanWeight 20 = .ok (.invokespecial 204, 3) := by decide +kernel
theorem dX9_meanWeight_23 : decode cX9_meanWeight 23 = .ok (.athrow, 1) := by decide +kernel
theorem dX9_meanWeight_24 : decode cX9_meanWeight 24 = .ok (.aload_n 0, 1) := by decide +kernel
theorem dX9_meanWeight_25 : decode cX9_meanWeight 25 = .ok (.getfield 12, 3) := by decide +kernel
theorem dX9_meanWeight_28 : decode cX9_meanWeight 28 = .ok (.aload_n 0, 1) := by decide +kernel
theorem dX9_meanWeight_29 : decode cX9_meanWeight 29 = .ok (.getfield 12, 3) := by decide +kernel
theorem dX9_meanWeight_32 : decode cX9_meanWeight 32 = .ok (.bipush 102, 2) := by decide +kernel
theorem dX9_meanWeight_34 : decode cX9_meanWeight 34 = .ok (.invokevirtual 205, 3) := by decide +kernel
theorem dX9_meanWeight_37 : decode cX9_meanWeight 37 = .ok (.invokevirtual 175, 3) := by decide +kernel
theorem dX9_meanWeight_40 : decode cX9_meanWeight 40 = .ok (.i2d, 1) := by decide +kernel
theorem dX9_meanWeight_41 : decode cX9_meanWeight 41 = .ok (.iload_n 1, 1) := by decide +kernel
theorem dX9_meanWeight_42 : decode cX9_meanWeight 42 = .ok (.i2d, 1) := by decide +kernel
theorem dX9_meanWeight_43 : decode cX9_meanWeight 43 = .ok (.ddiv, 1) := by decide +kernel
theorem dX9_meanWeight_44 : decode cX9_meanWeight 44 = .ok (.dreturn, 1) := by decide +kernel
theorem dX9_landedShare_0 : decode cX9_landedShare 0 = .ok (.aload_n 0, 1) := by decide +kernel
theorem dX9_landedShare_1 : decode cX9_landedShare 1 = .ok (.getfield 12, 3) := by decide +kernel
theorem dX9_landedShare_4 : decode cX9_landedShare 4 = .ok (.getfield 65, 3) := by decide +kernel
theorem dX9_landedShare_7 : decode cX9_landedShare 7 = .ok (.istore_n 1, 1) := by decide +kernel
theorem dX9_landedShare_8 : decode cX9_landedShare 8 = .ok (.iload_n 1, 1) := by decide +kernel
theorem dX9_landedShare_9 : decode cX9_landedShare 9 = .ok (.ifCond .ne 13, 3) := by decide +kernel
theorem dX9_landedShare_12 : decode cX9_landedShare 12 = .ok (.new 200, 3) := by decide +kernel
theorem dX9_landedShare_15 : decode cX9_landedShare 15 = .ok (.dup, 1) := by decide +kernel
theorem dX9_landedShare_16 : decode cX9_landedShare 16 = .ok (.ldc 208, 2) := by decide +kernel
theorem dX9_landedShare_18 : decode cX9_landedShare 18 = .ok (.invokespecial 204, 3) := by decide +kernel
theorem dX9_landedShare_21 : decode cX9_landedShare 21 = .ok (.athrow, 1) := by decide +kernel
theorem dX9_landedShare_22 : decode cX9_landedShare 22 = .ok (.aload_n 0, 1) := by decide +kernel
theorem dX9_landedShare_23 : decode cX9_landedShare 23 = .ok (.getfield 12, 3) := by decide +kernel
theorem dX9_landedShare_26 : decode cX9_landedShare 26 = .ok (.bipush 108, 2) := by decide +kernel
theorem dX9_landedShare_28 : decode cX9_landedShare 28 = .ok (.invokevirtual 168, 3) := by decide +kernel
theorem dX9_landedShare_31 : decode cX9_landedShare 31 = .ok (.i2f, 1) := by decide +kernel
theorem dX9_landedShare_32 : decode cX9_landedShare 32 = .ok (.iload_n 1, 1) := by decide +kernel
theorem dX9_landedShare_33 : decode cX9_landedShare 33 = .ok (.i2f, 1) := by decide +kernel
theorem dX9_landedShare_34 : decode cX9_landedShare 34 = .ok (.fdiv, 1) := by decide +kernel
theorem dX9_landedShare_35 : decode cX9_landedShare 35 = .ok (.freturn, 1) := by decide +kernel
theorem dX9_feed_0 : decode cX9_feed 0 = .ok (.aload_n 0, 1) := by decide +kernel
theorem dX9_feed_1 : decode cX9_feed 1 = .ok (.getfield 43, 3) := by decide +kernel
theorem dX9_feed_4 : decode cX9_feed 4 = .ok (.invokevirtual 210, 3) := by decide +kernel
theorem dX9_feed_7 : decode cX9_feed 7 = .ok (.ifCond .eq 13, 3) := by decide +kernel
theorem dX9_feed_10 : decode cX9_feed 10 = .ok (.new 214, 3) := by decide +kernel
theorem dX9_feed_13 : decode cX9_feed 13 = .ok (.dup, 1) := by decide +kernel
theorem dX9_feed_14 : decode cX9_feed 14 = .ok (.ldc 216, 2) := by decide +kernel
theorem dX9_feed_16 : decode cX9_feed 16 = .ok (.invokespecial 218, 3) := by decide +kernel
theorem dX9_feed_19 : decode cX9_feed 19 = .ok (.athrow, 1) := by decide +kernel
theorem dX9_feed_20 : decode cX9_feed 20 = .ok (.aload_n 0, 1) := by decide +kernel
theorem dX9_feed_21 : decode cX9_feed 21 = .ok (.getfield 43, 3) := by decide +kernel
theorem dX9_feed_24 : decode cX9_feed 24 = .ok (.iload_n 1, 1) := by decide +kernel
theorem dX9_feed_25 : decode cX9_feed 25 = .ok (.invokevirtual 219, 3) := by decide +kernel
theorem dX9_feed_28 : decode cX9_feed 28 = .ok (.aload_n 0, 1) := by decide +kernel
theorem dX9_feed_29 : decode cX9_feed 29 = .ok (.getfield 43, 3) := by decide +kernel
theorem dX9_feed_32 : decode cX9_feed 32 = .ok (.getfield 223, 3) := by decide +kernel
theorem dX9_feed_35 : decode cX9_feed 35 = .ok (.ireturn, 1) := by decide +kernel
theorem dX9_execute_0 : decode cX9_execute 0 = .ok (.aload_n 0, 1) := by decide +kernel
theorem dX9_execute_1 : decode cX9_execute 1 = .ok (.getfield 43, 3) := by decide +kernel
theorem dX9_execute_4 : decode cX9_execute 4 = .ok (.invokevirtual 226, 3) := by decide +kernel
theorem dX9_execute_7 : decode cX9_execute 7 = .ok (.istore_n 1, 1) := by decide +kernel
theorem dX9_execute_8 : decode cX9_execute 8 = .ok (.aload_n 0, 1) := by decide +kernel
theorem dX9_execute_9 : decode cX9_execute 9 = .ok (.getfield 43, 3) := by decide +kernel
theorem dX9_execute_12 : decode cX9_execute 12 = .ok (.invokevirtual 229, 3) := by decide +kernel
theorem dX9_execute_15 : decode cX9_execute 15 = .ok (.iload_n 1, 1) := by decide +kernel
theorem dX9_execute_16 : decode cX9_execute 16 = .ok (.ifCond .ne 13, 3) := by decide +kernel
theorem dX9_execute_19 : decode cX9_execute 19 = .ok (.new 232, 3) := by decide +kernel
theorem dX9_execute_22 : decode cX9_execute 22 = .ok (.dup, 1) := by decide +kernel
theorem dX9_execute_23 : decode cX9_execute 23 = .ok (.ldc 234, 2) := by decide +kernel
theorem dX9_execute_25 : decode cX9_execute 25 = .ok (.invokespecial 236, 3) := by decide +kernel
theorem dX9_execute_28 : decode cX9_execute 28 = .ok (.athrow, 1) := by decide +kernel
theorem dX9_execute_29 : decode cX9_execute 29 = .ok (.aload_n 0, 1) := by decide +kernel
theorem dX9_execute_30 : decode cX9_execute 30 = .ok (.getfield 16, 3) := by decide +kernel
theorem dX9_execute_33 : decode cX9_execute 33 = .ok (.aload_n 0, 1) := by decide +kernel
theorem dX9_execute_34 : decode cX9_execute 34 = .ok (.getfield 12, 3) := by decide +kernel
theorem dX9_execute_37 : decode cX9_execute 37 = .ok (.invokevirtual 237, 3) := by decide +kernel
theorem dX9_execute_40 : decode cX9_execute 40 = .ok (.iconst 0, 1) := by decide +kernel
theorem dX9_execute_41 : decode cX9_execute 41 = .ok (.istore_n 2, 1) := by decide +kernel
theorem dX9_execute_42 : decode cX9_execute 42 = .ok (.iload_n 2, 1) := by decide +kernel
theorem dX9_execute_43 : decode cX9_execute 43 = .ok (.aload_n 0, 1) := by decide +kernel
theorem dX9_execute_44 : decode cX9_execute 44 = .ok (.getfield 43, 3) := by decide +kernel
theorem dX9_execute_47 : decode cX9_execute 47 = .ok (.getfield 241, 3) := by decide +kernel
theorem dX9_execute_50 : decode cX9_execute 50 = .ok (.if_icmp .ge 60, 3) := by decide +kernel
theorem dX9_execute_53 : decode cX9_execute 53 = .ok (.aload_n 0, 1) := by decide +kernel
theorem dX9_execute_54 : decode cX9_execute 54 = .ok (.iload_n 2, 1) := by decide +kernel
theorem dX9_execute_55 : decode cX9_execute 55 = .ok (.invokevirtual 244, 3) := by decide +kernel
theorem dX9_execute_58 : decode cX9_execute 58 = .ok (.istore_n 3, 1) := by decide +kernel
theorem dX9_execute_59 : decode cX9_execute 59 = .ok (.iload_n 3, 1) := by decide +kernel
theorem dX9_execute_60 : decode cX9_execute 60 = .ok (.ifCond .eq 44, 3) := by decide +kernel
theorem dX9_execute_63 : decode cX9_execute 63 = .ok (.aload_n 0, 1) := by decide +kernel
theorem dX9_execute_64 : decode cX9_execute 64 = .ok (.getfield 12, 3) := by decide +kernel
theorem dX9_execute_67 : decode cX9_execute 67 = .ok (.aload_n 0, 1) := by decide +kernel
theorem dX9_execute_68 : decode cX9_execute 68 = .ok (.getfield 16, 3) := by decide +kernel
theorem dX9_execute_71 : decode cX9_execute 71 = .ok (.invokevirtual 237, 3) := by decide +kernel
theorem dX9_execute_74 : decode cX9_execute 74 = .ok (.aload_n 0, 1) := by decide +kernel
theorem dX9_execute_75 : decode cX9_execute 75 = .ok (.getfield 50, 3) := by decide +kernel
theorem dX9_execute_78 : decode cX9_execute 78 = .ok (.bipush 9, 2) := by decide +kernel
theorem dX9_execute_80 : decode cX9_execute 80 = .ok (.iload_n 2, 1) := by decide +kernel
theorem dX9_execute_81 : decode cX9_execute 81 = .ok (.iload_n 3, 1) := by decide +kernel
theorem dX9_execute_82 : decode cX9_execute 82 = .ok (.ifCond .le 7, 3) := by decide +kernel
theorem dX9_execute_85 : decode cX9_execute 85 = .ok (.iload_n 3, 1) := by decide +kernel
theorem dX9_execute_86 : decode cX9_execute 86 = .ok (.goto 5, 3) := by decide +kernel
theorem dX9_execute_89 : decode cX9_execute 89 = .ok (.bipush 10, 2) := by decide +kernel
theorem dX9_execute_91 : decode cX9_execute 91 = .ok (.invokevirtual 247, 3) := by decide +kernel
theorem dX9_execute_94 : decode cX9_execute 94 = .ok (.new 251, 3) := by decide +kernel
theorem dX9_execute_97 : decode cX9_execute 97 = .ok (.dup, 1) := by decide +kernel
theorem dX9_execute_98 : decode cX9_execute 98 = .ok (.ldc 253, 2) := by decide +kernel
theorem dX9_execute_100 : decode cX9_execute 100 = .ok (.invokespecial 255, 3) := by decide +kernel
theorem dX9_execute_103 : decode cX9_execute 103 = .ok (.athrow, 1) := by decide +kernel
theorem dX9_execute_104 : decode cX9_execute 104 = .ok (.iinc 2 1, 3) := by decide +kernel
theorem dX9_execute_107 : decode cX9_execute 107 = .ok (.goto (-65), 3) := by decide +kernel
theorem dX9_execute_110 : decode cX9_execute 110 = .ok (.aload_n 0, 1) := by decide +kernel
theorem dX9_execute_111 : decode cX9_execute 111 = .ok (.getfield 22, 3) := by decide +kernel
theorem dX9_execute_114 : decode cX9_execute 114 = .ok (.aload_n 0, 1) := by decide +kernel
theorem dX9_execute_115 : decode cX9_execute 115 = .ok (.getfield 16, 3) := by decide +kernel
theorem dX9_execute_118 : decode cX9_execute 118 = .ok (.invokevirtual 256, 3) := by decide +kernel
theorem dX9_execute_121 : decode cX9_execute 121 = .ok (.aload_n 0, 1) := by decide +kernel
theorem dX9_execute_122 : decode cX9_execute 122 = .ok (.getfield 43, 3) := by decide +kernel
theorem dX9_execute_125 : decode cX9_execute 125 = .ok (.getfield 241, 3) := by decide +kernel
theorem dX9_execute_128 : decode cX9_execute 128 = .ok (.ireturn, 1) := by decide +kernel
theorem dX9_faultPosition_0 : decode cX9_faultPosition 0 = .ok (.aload_n 0, 1) := by decide +kernel
theorem dX9_faultPosition_1 : decode cX9_faultPosition 1 = .ok (.getfield 43, 3) := by decide +kernel
theorem dX9_faultPosition_4 : decode cX9_faultPosition 4 = .ok (.getfield 259, 3) := by decide +kernel
theorem dX9_faultPosition_7 : decode cX9_faultPosition 7 = .ok (.ifCond .ge 14, 3) := by decide +kernel
theorem dX9_faultPosition_10 : decode cX9_faultPosition 10 = .ok (.new 120, 3) := by decide +kernel
theorem dX9_faultPosition_13 : decode cX9_faultPosition 13 = .ok (.dup, 1) := by decide +kernel
theorem dX9_faultPosition_14 : decode cX9_faultPosition 14 = .ok (.ldc_w 262, 3) := by decide +kernel
theorem dX9_faultPosition_17 : decode cX9_faultPosition 17 = .ok (.invokespecial 124, 3) := by decide +kernel
theorem dX9_faultPosition_20 : decode cX9_faultPosition 20 = .ok (.athrow, 1) := by decide +kernel
theorem dX9_faultPosition_21 : decode cX9_faultPosition 21 = .ok (.aload_n 0, 1) := by decide +kernel
theorem dX9_faultPosition_22 : decode cX9_faultPosition 22 = .ok (.getfield 43, 3) := by decide +kernel
theorem dX9_faultPosition_25 : decode cX9_faultPosition 25 = .ok (.getfield 259, 3) := by decide +kernel
theorem dX9_faultPosition_28 : decode cX9_faultPosition 28 = .ok (.ireturn, 1) := by decide +kernel
theorem dX9_writeNote_0 : decode cX9_writeNote 0 = .ok (.aload_n 0, 1) := by decide +kernel
theorem dX9_writeNote_1 : decode cX9_writeNote 1 = .ok (.iload_n 1, 1) := by decide +kernel
theorem dX9_writeNote_2 : decode cX9_writeNote 2 = .ok (.invokevirtual 69, 3) := by decide +kernel
theorem dX9_writeNote_5 : decode cX9_writeNote 5 = .ok (.aload_n 0, 1) := by decide +kernel
theorem dX9_writeNote_6 : decode cX9_writeNote 6 = .ok (.getfield 57, 3) := by decide +kernel
theorem dX9_writeNote_9 : decode cX9_writeNote 9 = .ok (.iconst 0, 1) := by decide +kernel
theorem dX9_writeNote_10 : decode cX9_writeNote 10 = .ok (.invokevirtual 264, 3) := by decide +kernel
theorem dX9_writeNote_13 : decode cX9_writeNote 13 = .ok (.aload_n 0, 1) := by decide +kernel
theorem dX9_writeNote_14 : decode cX9_writeNote 14 = .ok (.getfield 57, 3) := by decide +kernel
theorem dX9_writeNote_17 : decode cX9_writeNote 17 = .ok (.iload_n 1, 1) := by decide +kernel
theorem dX9_writeNote_18 : decode cX9_writeNote 18 = .ok (.invokevirtual 267, 3) := by decide +kernel
theorem dX9_writeNote_21 : decode cX9_writeNote 21 = .ok (.bipush 112, 2) := by decide +kernel
theorem dX9_writeNote_23 : decode cX9_writeNote 23 = .ok (.invokevirtual 270, 3) := by decide +kernel
theorem dX9_writeNote_26 : decode cX9_writeNote 26 = .ok (.aload_n 0, 1) := by decide +kernel
theorem dX9_writeNote_27 : decode cX9_writeNote 27 = .ok (.getfield 12, 3) := by decide +kernel
theorem dX9_writeNote_30 : decode cX9_writeNote 30 = .ok (.getfield 73, 3) := by decide +kernel
theorem dX9_writeNote_33 : decode cX9_writeNote 33 = .ok (.iload_n 1, 1) := by decide +kernel
theorem dX9_writeNote_34 : decode cX9_writeNote 34 = .ok (.iaload, 1) := by decide +kernel
theorem dX9_writeNote_35 : decode cX9_writeNote 35 = .ok (.invokevirtual 267, 3) := by decide +kernel
theorem dX9_writeNote_38 : decode cX9_writeNote 38 = .ok (.pop, 1) := by decide +kernel
theorem dX9_writeNote_39 : decode cX9_writeNote 39 = .ok (.aload_n 0, 1) := by decide +kernel
theorem dX9_writeNote_40 : decode cX9_writeNote 40 = .ok (.getfield 57, 3) := by decide +kernel
theorem dX9_writeNote_43 : decode cX9_writeNote 43 = .ok (.bipush 119, 2) := by decide +kernel
theorem dX9_writeNote_45 : decode cX9_writeNote 45 = .ok (.invokevirtual 270, 3) := by decide +kernel
theorem dX9_writeNote_48 : decode cX9_writeNote 48 = .ok (.aload_n 0, 1) := by decide +kernel
theorem dX9_writeNote_49 : decode cX9_writeNote 49 = .ok (.getfield 12, 3) := by decide +kernel
theorem dX9_writeNote_52 : decode cX9_writeNote 52 = .ok (.getfield 77, 3) := by decide +kernel
theorem dX9_writeNote_55 : decode cX9_writeNote 55 = .ok (.iload_n 1, 1) := by decide +kernel
theorem dX9_writeNote_56 : decode cX9_writeNote 56 = .ok (.iaload, 1) := by decide +kernel
theorem dX9_writeNote_57 : decode cX9_writeNote 57 = .ok (.invokevirtual 267, 3) := by decide +kernel
theorem dX9_writeNote_60 : decode cX9_writeNote 60 = .ok (.aload_n 0, 1) := by decide +kernel
theorem dX9_writeNote_61 : decode cX9_writeNote 61 = .ok (.getfield 12, 3) := by decide +kernel
theorem dX9_writeNote_64 : decode cX9_writeNote 64 = .ok (.getfield 80, 3) := by decide +kernel
theorem dX9_writeNote_67 : decode cX9_writeNote 67 = .ok (.iload_n 1, 1) := by decide +kernel
theorem dX9_writeNote_68 : decode cX9_writeNote 68 = .ok (.caload, 1) := by decide +kernel
theorem dX9_writeNote_69 : decode cX9_writeNote 69 = .ok (.invokevirtual 270, 3) := by decide +kernel
theorem dX9_writeNote_72 : decode cX9_writeNote 72 = .ok (.pop, 1) := by decide +kernel
theorem dX9_writeNote_73 : decode cX9_writeNote 73 = .ok (.iconst 0, 1) := by decide +kernel
theorem dX9_writeNote_74 : decode cX9_writeNote 74 = .ok (.istore_n 2, 1) := by decide +kernel
theorem dX9_writeNote_75 : decode cX9_writeNote 75 = .ok (.iload_n 2, 1) := by decide +kernel
theorem dX9_writeNote_76 : decode cX9_writeNote 76 = .ok (.aload_n 0, 1) := by decide +kernel
theorem dX9_writeNote_77 : decode cX9_writeNote 77 = .ok (.getfield 12, 3) := by decide +kernel
theorem dX9_writeNote_80 : decode cX9_writeNote 80 = .ok (.getfield 65, 3) := by decide +kernel
theorem dX9_writeNote_83 : decode cX9_writeNote 83 = .ok (.if_icmp .ge 39, 3) := by decide +kernel
theorem dX9_writeNote_86 : decode cX9_writeNote 86 = .ok (.aload_n 0, 1) := by decide +kernel
theorem dX9_writeNote_87 : decode cX9_writeNote 87 = .ok (.getfield 12, 3) := by decide +kernel
theorem dX9_writeNote_90 : decode cX9_writeNote 90 = .ok (.getfield 88, 3) := by decide +kernel
theorem dX9_writeNote_93 : decode cX9_writeNote 93 = .ok (.iload_n 1, 1) := by decide +kernel
theorem dX9_writeNote_94 : decode cX9_writeNote 94 = .ok (.iaload, 1) := by decide +kernel
theorem dX9_writeNote_95 : decode cX9_writeNote 95 = .ok (.iload_n 2, 1) := by decide +kernel
theorem dX9_writeNote_96 : decode cX9_writeNote 96 = .ok (.invokestatic 91, 3) := by decide +kernel
theorem dX9_writeNote_99 : decode cX9_writeNote 99 = .ok (.ifCond .eq 17, 3) := by decide +kernel
theorem dX9_writeNote_102 : decode cX9_writeNote 102 = .ok (.aload_n 0, 1) := by decide +kernel
theorem dX9_writeNote_103 : decode cX9_writeNote 103 = .ok (.getfield 57, 3) := by decide +kernel
theorem dX9_writeNote_106 : decode cX9_writeNote 106 = .ok (.bipush 62, 2) := by decide +kernel
theorem dX9_writeNote_108 : decode cX9_writeNote 108 = .ok (.invokevirtual 270, 3) := by decide +kernel
theorem dX9_writeNote_111 : decode cX9_writeNote 111 = .ok (.iload_n 2, 1) := by decide +kernel
theorem dX9_writeNote_112 : decode cX9_writeNote 112 = .ok (.invokevirtual 267, 3) := by decide +kernel
theorem dX9_writeNote_115 : decode cX9_writeNote 115 = .ok (.pop, 1) := by decide +kernel
theorem dX9_writeNote_116 : decode cX9_writeNote 116 = .ok (.iinc 2 1, 3) := by decide +kernel
theorem dX9_writeNote_119 : decode cX9_writeNote 119 = .ok (.goto (-44), 3) := by decide +kernel
theorem dX9_writeNote_122 : decode cX9_writeNote 122 = .ok (.aload_n 0, 1) := by decide +kernel
theorem dX9_writeNote_123 : decode cX9_writeNote 123 = .ok (.getfield 57, 3) := by decide +kernel
theorem dX9_writeNote_126 : decode cX9_writeNote 126 = .ok (.invokevirtual 273, 3) := by decide +kernel
theorem dX9_writeNote_129 : decode cX9_writeNote 129 = .ok (.ireturn, 1) := by decide +kernel
theorem dX9_lineCharacter_0 : decode cX9_lineCharacter 0 = .ok (.iload_n 1, 1) := by decide +kernel
theorem dX9_lineCharacter_1 : decode cX9_lineCharacter 1 = .ok (.ifCond .lt 14, 3) := by decide +kernel
theorem dX9_lineCharacter_4 : decode cX9_lineCharacter 4 = .ok (.iload_n 1, 1) := by decide +kernel
theorem dX9_lineCharacter_5 : decode cX9_lineCharacter 5 = .ok (.aload_n 0, 1) := by decide +kernel
theorem dX9_lineCharacter_6 : decode cX9_lineCharacter 6 = .ok (.getfield 57, 3) := by decide +kernel
theorem dX9_lineCharacter_9 : decode cX9_lineCharacter 9 = .ok (.invokevirtual 273, 3) := by decide +kernel
theorem dX9_lineCharacter_12 : decode cX9_lineCharacter 12 = .ok (.if_icmp .lt 14, 3) := by decide +kernel
theorem dX9_lineCharacter_15 : decode cX9_lineCharacter 15 = .ok (.new 275, 3) := by decide +kernel
theorem dX9_lineCharacter_18 : decode cX9_lineCharacter 18 = .ok (.dup, 1) := by decide +kernel
theorem dX9_lineCharacter_19 : decode cX9_lineCharacter 19 = .ok (.ldc_w 277, 3) := by decide +kernel
theorem dX9_lineCharacter_22 : decode cX9_lineCharacter 22 = .ok (.invokespecial 279, 3) := by decide +kernel
theorem dX9_lineCharacter_25 : decode cX9_lineCharacter 25 = .ok (.athrow, 1) := by decide +kernel
theorem dX9_lineCharacter_26 : decode cX9_lineCharacter 26 = .ok (.aload_n 0, 1) := by decide +kernel
theorem dX9_lineCharacter_27 : decode cX9_lineCharacter 27 = .ok (.getfield 57, 3) := by decide +kernel
theorem dX9_lineCharacter_30 : decode cX9_lineCharacter 30 = .ok (.iload_n 1, 1) := by decide +kernel
theorem dX9_lineCharacter_31 : decode cX9_lineCharacter 31 = .ok (.invokevirtual 280, 3) := by decide +kernel
theorem dX9_lineCharacter_34 : decode cX9_lineCharacter 34 = .ok (.ireturn, 1) := by decide +kernel
theorem dX9_denial_0 : decode cX9_denial 0 = .ok (.aload_n 0, 1) := by decide +kernel
theorem dX9_denial_1 : decode cX9_denial 1 = .ok (.invokevirtual 284, 3) := by decide +kernel
theorem dX9_denial_4 : decode cX9_denial 4 = .ok (.aload_n 0, 1) := by decide +kernel
theorem dX9_denial_5 : decode cX9_denial 5 = .ok (.getfield 50, 3) := by decide +kernel
theorem dX9_denial_8 : decode cX9_denial 8 = .ok (.getfield 287, 3) := by decide +kernel
theorem dX9_denial_11 : decode cX9_denial 11 = .ok (.ireturn, 1) := by decide +kernel
theorem dX9_denialDetail_0 : decode cX9_denialDetail 0 = .ok (.aload_n 0, 1) := by decide +kernel
theorem dX9_denialDetail_1 : decode cX9_denialDetail 1 = .ok (.invokevirtual 284, 3) := by decide +kernel
theorem dX9_denialDetail_4 : decode cX9_denialDetail 4 = .ok (.aload_n 0, 1) := by decide +kernel
theorem dX9_denialDetail_5 : decode cX9_denialDetail 5 = .ok (.getfield 50, 3) := by decide +kernel
theorem dX9_denialDetail_8 : decode cX9_denialDetail 8 = .ok (.getfield 290, 3) := by decide +kernel
theorem dX9_denialDetail_11 : decode cX9_denialDetail 11 = .ok (.ireturn, 1) := by decide +kernel
theorem dX9_denialCause_0 : decode cX9_denialCause 0 = .ok (.aload_n 0, 1) := by decide +kernel
theorem dX9_denialCause_1 : decode cX9_denialCause 1 = .ok (.invokevirtual 284, 3) := by decide +kernel
theorem dX9_denialCause_4 : decode cX9_denialCause 4 = .ok (.aload_n 0, 1) := by decide +kernel
theorem dX9_denialCause_5 : decode cX9_denialCause 5 = .ok (.getfield 50, 3) := by decide +kernel
theorem dX9_denialCause_8 : decode cX9_denialCause 8 = .ok (.getfield 293, 3) := by decide +kernel
theorem dX9_denialCause_11 : decode cX9_denialCause 11 = .ok (.ifCond .ne 14, 3) := by decide +kernel
theorem dX9_denialCause_14 : decode cX9_denialCause 14 = .ok (.new 120, 3) := by decide +kernel
theorem dX9_denialCause_17 : decode cX9_denialCause 17 = .ok (.dup, 1) := by decide +kernel
theorem dX9_denialCause_18 : decode cX9_denialCause 18 = .ok (.ldc_w 296, 3) := by decide +kernel
theorem dX9_denialCause_21 : decode cX9_denialCause 21 = .ok (.invokespecial 124, 3) := by decide +kernel
theorem dX9_denialCause_24 : decode cX9_denialCause 24 = .ok (.athrow, 1) := by decide +kernel
theorem dX9_denialCause_25 : decode cX9_denialCause 25 = .ok (.aload_n 0, 1) := by decide +kernel
theorem dX9_denialCause_26 : decode cX9_denialCause 26 = .ok (.getfield 50, 3) := by decide +kernel
theorem dX9_denialCause_29 : decode cX9_denialCause 29 = .ok (.getfield 293, 3) := by decide +kernel
theorem dX9_denialCause_32 : decode cX9_denialCause 32 = .ok (.ireturn, 1) := by decide +kernel
theorem dX9_undo_0 : decode cX9_undo 0 = .ok (.aload_n 0, 1) := by decide +kernel
theorem dX9_undo_1 : decode cX9_undo 1 = .ok (.getfield 22, 3) := by decide +kernel
theorem dX9_undo_4 : decode cX9_undo 4 = .ok (.getfield 298, 3) := by decide +kernel
theorem dX9_undo_7 : decode cX9_undo 7 = .ok (.ifCond .ne 14, 3) := by decide +kernel
theorem dX9_undo_10 : decode cX9_undo 10 = .ok (.new 214, 3) := by decide +kernel
theorem dX9_undo_13 : decode cX9_undo 13 = .ok (.dup, 1) := by decide +kernel
theorem dX9_undo_14 : decode cX9_undo 14 = .ok (.ldc_w 300, 3) := by decide +kernel
theorem dX9_undo_17 : decode cX9_undo 17 = .ok (.invokespecial 218, 3) := by decide +kernel
theorem dX9_undo_20 : decode cX9_undo 20 = .ok (.athrow, 1) := by decide +kernel
theorem dX9_undo_21 : decode cX9_undo 21 = .ok (.aload_n 0, 1) := by decide +kernel
theorem dX9_undo_22 : decode cX9_undo 22 = .ok (.getfield 22, 3) := by decide +kernel
theorem dX9_undo_25 : decode cX9_undo 25 = .ok (.aload_n 0, 1) := by decide +kernel
theorem dX9_undo_26 : decode cX9_undo 26 = .ok (.getfield 12, 3) := by decide +kernel
theorem dX9_undo_29 : decode cX9_undo 29 = .ok (.invokevirtual 302, 3) := by decide +kernel
theorem dX9_undo_32 : decode cX9_undo 32 = .ok (.aload_n 0, 1) := by decide +kernel
theorem dX9_undo_33 : decode cX9_undo 33 = .ok (.getfield 22, 3) := by decide +kernel
theorem dX9_undo_36 : decode cX9_undo 36 = .ok (.getfield 298, 3) := by decide +kernel
theorem dX9_undo_39 : decode cX9_undo 39 = .ok (.ireturn, 1) := by decide +kernel
theorem dX9_undoCount_0 : decode cX9_undoCount 0 = .ok (.aload_n 0, 1) := by decide +kernel
theorem dX9_undoCount_1 : decode cX9_undoCount 1 = .ok (.getfield 22, 3) := by decide +kernel
theorem dX9_undoCount_4 : decode cX9_undoCount 4 = .ok (.getfield 298, 3) := by decide +kernel
theorem dX9_undoCount_7 : decode cX9_undoCount 7 = .ok (.ireturn, 1) := by decide +kernel
theorem dX9_saveSnapshot_0 : decode cX9_saveSnapshot 0 = .ok (.aload_n 0, 1) := by decide +kernel
theorem dX9_saveSnapshot_1 : decode cX9_saveSnapshot 1 = .ok (.getfield 305, 3) := by decide +kernel
theorem dX9_saveSnapshot_4 : decode cX9_saveSnapshot 4 = .ok (.ifnonnull 14, 3) := by decide +kernel
theorem dX9_saveSnapshot_7 : decode cX9_saveSnapshot 7 = .ok (.aload_n 0, 1) := by decide +kernel
theorem dX9_saveSnapshot_8 : decode cX9_saveSnapshot 8 = .ok (.new 9, 3) := by decide +kernel
theorem dX9_saveSnapshot_11 : decode cX9_saveSnapshot 11 = .ok (.dup, 1) := by decide +kernel
theorem dX9_saveSnapshot_12 : decode cX9_saveSnapshot 12 = .ok (.invokespecial 11, 3) := by decide +kernel
theorem dX9_saveSnapshot_15 : decode cX9_saveSnapshot 15 = .ok (.putfield 305, 3) := by decide +kernel
theorem dX9_saveSnapshot_18 : decode cX9_saveSnapshot 18 = .ok (.aload_n 0, 1) := by decide +kernel
theorem dX9_saveSnapshot_19 : decode cX9_saveSnapshot 19 = .ok (.getfield 305, 3) := by decide +kernel
theorem dX9_saveSnapshot_22 : decode cX9_saveSnapshot 22 = .ok (.aload_n 0, 1) := by decide +kernel
theorem dX9_saveSnapshot_23 : decode cX9_saveSnapshot 23 = .ok (.getfield 12, 3) := by decide +kernel
theorem dX9_saveSnapshot_26 : decode cX9_saveSnapshot 26 = .ok (.invokevirtual 237, 3) := by decide +kernel
theorem dX9_saveSnapshot_29 : decode cX9_saveSnapshot 29 = .ok (.aload_n 0, 1) := by decide +kernel
theorem dX9_saveSnapshot_30 : decode cX9_saveSnapshot 30 = .ok (.getfield 12, 3) := by decide +kernel
theorem dX9_saveSnapshot_33 : decode cX9_saveSnapshot 33 = .ok (.getfield 65, 3) := by decide +kernel
theorem dX9_saveSnapshot_36 : decode cX9_saveSnapshot 36 = .ok (.ireturn, 1) := by decide +kernel
theorem dX9_restoreSnapshot_0 : decode cX9_restoreSnapshot 0 = .ok (.aload_n 0, 1) := by decide +kernel
theorem dX9_restoreSnapshot_1 : decode cX9_restoreSnapshot 1 = .ok (.getfield 305, 3) := by decide +kernel
theorem dX9_restoreSnapshot_4 : decode cX9_restoreSnapshot 4 = .ok (.ifnonnull 14, 3) := by decide +kernel
theorem dX9_restoreSnapshot_7 : decode cX9_restoreSnapshot 7 = .ok (.new 214, 3) := by decide +kernel
theorem dX9_restoreSnapshot_10 : decode cX9_restoreSnapshot 10 = .ok (.dup, 1) := by decide +kernel
theorem dX9_restoreSnapshot_11 : decode cX9_restoreSnapshot 11 = .ok (.ldc_w 308, 3) := by decide +kernel
theorem dX9_restoreSnapshot_14 : decode cX9_restoreSnapshot 14 = .ok (.invokespecial 218, 3) := by decide +kernel
theorem dX9_restoreSnapshot_17 : decode cX9_restoreSnapshot 17 = .ok (.athrow, 1) := by decide +kernel
theorem dX9_restoreSnapshot_18 : decode cX9_restoreSnapshot 18 = .ok (.aload_n 0, 1) := by decide +kernel
theorem dX9_restoreSnapshot_19 : decode cX9_restoreSnapshot 19 = .ok (.getfield 12, 3) := by decide +kernel
theorem dX9_restoreSnapshot_22 : decode cX9_restoreSnapshot 22 = .ok (.aload_n 0, 1) := by decide +kernel
theorem dX9_restoreSnapshot_23 : decode cX9_restoreSnapshot 23 = .ok (.getfield 305, 3) := by decide +kernel
theorem dX9_restoreSnapshot_26 : decode cX9_restoreSnapshot 26 = .ok (.invokevirtual 237, 3) := by decide +kernel
theorem dX9_restoreSnapshot_29 : decode cX9_restoreSnapshot 29 = .ok (.aload_n 0, 1) := by decide +kernel
theorem dX9_restoreSnapshot_30 : decode cX9_restoreSnapshot 30 = .ok (.getfield 22, 3) := by decide +kernel
theorem dX9_restoreSnapshot_33 : decode cX9_restoreSnapshot 33 = .ok (.invokevirtual 310, 3) := by decide +kernel
theorem dX9_restoreSnapshot_36 : decode cX9_restoreSnapshot 36 = .ok (.aload_n 0, 1) := by decide +kernel
theorem dX9_restoreSnapshot_37 : decode cX9_restoreSnapshot 37 = .ok (.getfield 12, 3) := by decide +kernel
theorem dX9_restoreSnapshot_40 : decode cX9_restoreSnapshot 40 = .ok (.getfield 65, 3) := by decide +kernel
theorem dX9_restoreSnapshot_43 : decode cX9_restoreSnapshot 43 = .ok (.ireturn, 1) := by decide +kernel
theorem dX9_change_0 : decode cX9_change 0 = .ok (.aload_n 0, 1) := by decide +kernel
theorem dX9_change_1 : decode cX9_change 1 = .ok (.getfield 12, 3) := by decide +kernel
theorem dX9_change_4 : decode cX9_change 4 = .ok (.iload_n 1, 1) := by decide +kernel
theorem dX9_change_5 : decode cX9_change 5 = .ok (.iload_n 2, 1) := by decide +kernel
theorem dX9_change_6 : decode cX9_change 6 = .ok (.iload_n 3, 1) := by decide +kernel
theorem dX9_change_7 : decode cX9_change 7 = .ok (.iload 4, 2) := by decide +kernel
theorem dX9_change_9 : decode cX9_change 9 = .ok (.invokestatic 313, 3) := by decide +kernel
theorem dX9_change_12 : decode cX9_change 12 = .ok (.istore 5, 2) := by decide +kernel
theorem dX9_change_14 : decode cX9_change 14 = .ok (.iload 5, 2) := by decide +kernel
theorem dX9_change_16 : decode cX9_change 16 = .ok (.ifCond .le 24, 3) := by decide +kernel
theorem dX9_change_19 : decode cX9_change 19 = .ok (.aload_n 0, 1) := by decide +kernel
theorem dX9_change_20 : decode cX9_change 20 = .ok (.getfield 50, 3) := by decide +kernel
theorem dX9_change_23 : decode cX9_change 23 = .ok (.iload 5, 2) := by decide +kernel
theorem dX9_change_25 : decode cX9_change 25 = .ok (.aload_n 0, 1) := by decide +kernel
theorem dX9_change_26 : decode cX9_change 26 = .ok (.getfield 12, 3) := by decide +kernel
theorem dX9_change_29 : decode cX9_change 29 = .ok (.iload 5, 2) := by decide +kernel
theorem dX9_change_31 : decode cX9_change 31 = .ok (.iload_n 1, 1) := by decide +kernel
theorem dX9_change_32 : decode cX9_change 32 = .ok (.iload_n 2, 1) := by decide +kernel
theorem dX9_change_33 : decode cX9_change 33 = .ok (.invokestatic 319, 3) := by decide +kernel
theorem dX9_change_36 : decode cX9_change 36 = .ok (.iconst 0, 1) := by decide +kernel
theorem dX9_change_37 : decode cX9_change 37 = .ok (.invokevirtual 247, 3) := by decide +kernel
theorem dX9_change_40 : decode cX9_change 40 = .ok (.iload 5, 2) := by decide +kernel
theorem dX9_change_42 : decode cX9_change 42 = .ok (.invokestatic 323, 3) := by decide +kernel
theorem dX9_change_45 : decode cX9_change 45 = .ok (.aload_n 0, 1) := by decide +kernel
theorem dX9_change_46 : decode cX9_change 46 = .ok (.getfield 22, 3) := by decide +kernel
theorem dX9_change_49 : decode cX9_change 49 = .ok (.aload_n 0, 1) := by decide +kernel
theorem dX9_change_50 : decode cX9_change 50 = .ok (.getfield 12, 3) := by decide +kernel
theorem dX9_change_53 : decode cX9_change 53 = .ok (.invokevirtual 256, 3) := by decide +kernel
theorem dX9_change_56 : decode cX9_change 56 = .ok (.aload_n 0, 1) := by decide +kernel
theorem dX9_change_57 : decode cX9_change 57 = .ok (.getfield 12, 3) := by decide +kernel
theorem dX9_change_60 : decode cX9_change 60 = .ok (.aload_n 0, 1) := by decide +kernel
theorem dX9_change_61 : decode cX9_change 61 = .ok (.getfield 29, 3) := by decide +kernel
theorem dX9_change_64 : decode cX9_change 64 = .ok (.iload_n 1, 1) := by decide +kernel
theorem dX9_change_65 : decode cX9_change 65 = .ok (.iload_n 2, 1) := by decide +kernel
theorem dX9_change_66 : decode cX9_change 66 = .ok (.iload_n 3, 1) := by decide +kernel
theorem dX9_change_67 : decode cX9_change 67 = .ok (.iload 4, 2) := by decide +kernel
theorem dX9_change_69 : decode cX9_change 69 = .ok (.invokestatic 326, 3) := by decide +kernel
theorem dX9_change_72 : decode cX9_change 72 = .ok (.ireturn, 1) := by decide +kernel
theorem dX9_refuse_0 : decode cX9_refuse 0 = .ok (.iload_n 0, 1) := by decide +kernel
theorem dX9_refuse_1 : decode cX9_refuse 1 = .ok (.iconst (-1), 1) := by decide +kernel
theorem dX9_refuse_2 : decode cX9_refuse 2 = .ok (.if_icmp .ne 14, 3) := by decide +kernel
theorem dX9_refuse_5 : decode cX9_refuse 5 = .ok (.new 232, 3) := by decide +kernel
theorem dX9_refuse_8 : decode cX9_refuse 8 = .ok (.dup, 1) := by decide +kernel
theorem dX9_refuse_9 : decode cX9_refuse 9 = .ok (.ldc_w 332, 3) := by decide +kernel
theorem dX9_refuse_12 : decode cX9_refuse 12 = .ok (.invokespecial 236, 3) := by decide +kernel
theorem dX9_refuse_15 : decode cX9_refuse 15 = .ok (.athrow, 1) := by decide +kernel
theorem dX9_refuse_16 : decode cX9_refuse 16 = .ok (.iload_n 0, 1) := by decide +kernel
theorem dX9_refuse_17 : decode cX9_refuse 17 = .ok (.bipush (-2), 2) := by decide +kernel
theorem dX9_refuse_19 : decode cX9_refuse 19 = .ok (.if_icmp .ne 14, 3) := by decide +kernel
theorem dX9_refuse_22 : decode cX9_refuse 22 = .ok (.new 120, 3) := by decide +kernel
theorem dX9_refuse_25 : decode cX9_refuse 25 = .ok (.dup, 1) := by decide +kernel
theorem dX9_refuse_26 : decode cX9_refuse 26 = .ok (.ldc_w 334, 3) := by decide +kernel
theorem dX9_refuse_29 : decode cX9_refuse 29 = .ok (.invokespecial 124, 3) := by decide +kernel
theorem dX9_refuse_32 : decode cX9_refuse 32 = .ok (.athrow, 1) := by decide +kernel
theorem dX9_refuse_33 : decode cX9_refuse 33 = .ok (.iload_n 0, 1) := by decide +kernel
theorem dX9_refuse_34 : decode cX9_refuse 34 = .ok (.bipush (-3), 2) := by decide +kernel
theorem dX9_refuse_36 : decode cX9_refuse 36 = .ok (.if_icmp .ne 14, 3) := by decide +kernel
theorem dX9_refuse_39 : decode cX9_refuse 39 = .ok (.new 275, 3) := by decide +kernel
theorem dX9_refuse_42 : decode cX9_refuse 42 = .ok (.dup, 1) := by decide +kernel
theorem dX9_refuse_43 : decode cX9_refuse 43 = .ok (.ldc_w 336, 3) := by decide +kernel
theorem dX9_refuse_46 : decode cX9_refuse 46 = .ok (.invokespecial 279, 3) := by decide +kernel
theorem dX9_refuse_49 : decode cX9_refuse 49 = .ok (.athrow, 1) := by decide +kernel
theorem dX9_refuse_50 : decode cX9_refuse 50 = .ok (.iload_n 0, 1) := by decide +kernel
theorem dX9_refuse_51 : decode cX9_refuse 51 = .ok (.ifCond .eq 14, 3) := by decide +kernel
theorem dX9_refuse_54 : decode cX9_refuse 54 = .ok (.new 251, 3) := by decide +kernel
theorem dX9_refuse_57 : decode cX9_refuse 57 = .ok (.dup, 1) := by decide +kernel
theorem dX9_refuse_58 : decode cX9_refuse 58 = .ok (.ldc_w 338, 3) := by decide +kernel
theorem dX9_refuse_61 : decode cX9_refuse 61 = .ok (.invokespecial 255, 3) := by decide +kernel
theorem dX9_refuse_64 : decode cX9_refuse 64 = .ok (.athrow, 1) := by decide +kernel
theorem dX9_refuse_65 : decode cX9_refuse 65 = .ok (.return_, 1) := by decide +kernel
theorem dX9_runCommand_0 : decode cX9_runCommand 0 = .ok (.aload_n 0, 1) := by decide +kernel
theorem dX9_runCommand_1 : decode cX9_runCommand 1 = .ok (.getfield 43, 3) := by decide +kernel
theorem dX9_runCommand_4 : decode cX9_runCommand 4 = .ok (.getfield 340, 3) := by decide +kernel
theorem dX9_runCommand_7 : decode cX9_runCommand 7 = .ok (.iload_n 1, 1) := by decide +kernel
theorem dX9_runCommand_8 : decode cX9_runCommand 8 = .ok (.iaload, 1) := by decide +kernel
theorem dX9_runCommand_9 : decode cX9_runCommand 9 = .ok (.istore_n 2, 1) := by decide +kernel
theorem dX9_runCommand_10 : decode cX9_runCommand 10 = .ok (.aload_n 0, 1) := by decide +kernel
theorem dX9_runCommand_11 : decode cX9_runCommand 11 = .ok (.getfield 43, 3) := by decide +kernel
theorem dX9_runCommand_14 : decode cX9_runCommand 14 = .ok (.getfield 343, 3) := by decide +kernel
theorem dX9_runCommand_17 : decode cX9_runCommand 17 = .ok (.iload_n 1, 1) := by decide +kernel
theorem dX9_runCommand_18 : decode cX9_runCommand 18 = .ok (.iaload, 1) := by decide +kernel
theorem dX9_runCommand_19 : decode cX9_runCommand 19 = .ok (.istore_n 3, 1) := by decide +kernel
theorem dX9_runCommand_20 : decode cX9_runCommand 20 = .ok (.aload_n 0, 1) := by decide +kernel
theorem dX9_runCommand_21 : decode cX9_runCommand 21 = .ok (.getfield 43, 3) := by decide +kernel
theorem dX9_runCommand_24 : decode cX9_runCommand 24 = .ok (.getfield 346, 3) := by decide +kernel
theorem dX9_runCommand_27 : decode cX9_runCommand 27 = .ok (.iload_n 1, 1) := by decide +kernel
theorem dX9_runCommand_28 : decode cX9_runCommand 28 = .ok (.iaload, 1) := by decide +kernel
theorem dX9_runCommand_29 : decode cX9_runCommand 29 = .ok (.istore 4, 2) := by decide +kernel
theorem dX9_runCommand_31 : decode cX9_runCommand 31 = .ok (.aload_n 0, 1) := by decide +kernel
theorem dX9_runCommand_32 : decode cX9_runCommand 32 = .ok (.getfield 43, 3) := by decide +kernel
theorem dX9_runCommand_35 : decode cX9_runCommand 35 = .ok (.getfield 349, 3) := by decide +kernel
theorem dX9_runCommand_38 : decode cX9_runCommand 38 = .ok (.iload_n 1, 1) := by decide +kernel
theorem dX9_runCommand_39 : decode cX9_runCommand 39 = .ok (.iaload, 1) := by decide +kernel
theorem dX9_runCommand_40 : decode cX9_runCommand 40 = .ok (.istore 5, 2) := by decide +kernel
theorem dX9_runCommand_42 : decode cX9_runCommand 42 = .ok (.aload_n 0, 1) := by decide +kernel
theorem dX9_runCommand_43 : decode cX9_runCommand 43 = .ok (.getfield 12, 3) := by decide +kernel
theorem dX9_runCommand_46 : decode cX9_runCommand 46 = .ok (.iload_n 2, 1) := by decide +kernel
theorem dX9_runCommand_47 : decode cX9_runCommand 47 = .ok (.iload_n 3, 1) := by decide +kernel
theorem dX9_runCommand_48 : decode cX9_runCommand 48 = .ok (.iload 4, 2) := by decide +kernel
theorem dX9_runCommand_50 : decode cX9_runCommand 50 = .ok (.iload 5, 2) := by decide +kernel
theorem dX9_runCommand_52 : decode cX9_runCommand 52 = .ok (.invokestatic 313, 3) := by decide +kernel
theorem dX9_runCommand_55 : decode cX9_runCommand 55 = .ok (.istore 6, 2) := by decide +kernel
theorem dX9_runCommand_57 : decode cX9_runCommand 57 = .ok (.iload 6, 2) := by decide +kernel
theorem dX9_runCommand_59 : decode cX9_runCommand 59 = .ok (.ifCond .ne 21, 3) := by decide +kernel
theorem dX9_runCommand_62 : decode cX9_runCommand 62 = .ok (.aload_n 0, 1) := by decide +kernel
theorem dX9_runCommand_63 : decode cX9_runCommand 63 = .ok (.getfield 12, 3) := by decide +kernel
theorem dX9_runCommand_66 : decode cX9_runCommand 66 = .ok (.aload_n 0, 1) := by decide +kernel
theorem dX9_runCommand_67 : decode cX9_runCommand 67 = .ok (.getfield 29, 3) := by decide +kernel
theorem dX9_runCommand_70 : decode cX9_runCommand 70 = .ok (.iload_n 2, 1) := by decide +kernel
theorem dX9_runCommand_71 : decode cX9_runCommand 71 = .ok (.iload_n 3, 1) := by decide +kernel
theorem dX9_runCommand_72 : decode cX9_runCommand 72 = .ok (.iload 4, 2) := by decide +kernel
theorem dX9_runCommand_74 : decode cX9_runCommand 74 = .ok (.iload 5, 2) := by decide +kernel
theorem dX9_runCommand_76 : decode cX9_runCommand 76 = .ok (.invokestatic 326, 3) := by decide +kernel
theorem dX9_runCommand_79 : decode cX9_runCommand 79 = .ok (.pop, 1) := by decide +kernel
theorem dX9_runCommand_80 : decode cX9_runCommand 80 = .ok (.iload 6, 2) := by decide +kernel
theorem dX9_runCommand_82 : decode cX9_runCommand 82 = .ok (.ireturn, 1) := by decide +kernel
theorem dX9_needNote_0 : decode cX9_needNote 0 = .ok (.aload_n 0, 1) := by decide +kernel
theorem dX9_needNote_1 : decode cX9_needNote 1 = .ok (.getfield 12, 3) := by decide +kernel
theorem dX9_needNote_4 : decode cX9_needNote 4 = .ok (.iload_n 1, 1) := by decide +kernel
theorem dX9_needNote_5 : decode cX9_needNote 5 = .ok (.invokevirtual 116, 3) := by decide +kernel
theorem dX9_needNote_8 : decode cX9_needNote 8 = .ok (.ifCond .ne 14, 3) := by decide +kernel
theorem dX9_needNote_11 : decode cX9_needNote 11 = .ok (.new 120, 3) := by decide +kernel
theorem dX9_needNote_14 : decode cX9_needNote 14 = .ok (.dup, 1) := by decide +kernel
theorem dX9_needNote_15 : decode cX9_needNote 15 = .ok (.ldc_w 334, 3) := by decide +kernel
theorem dX9_needNote_18 : decode cX9_needNote 18 = .ok (.invokespecial 124, 3) := by decide +kernel
theorem dX9_needNote_21 : decode cX9_needNote 21 = .ok (.athrow, 1) := by decide +kernel
theorem dX9_needNote_22 : decode cX9_needNote 22 = .ok (.return_, 1) := by decide +kernel
theorem dX9_needPage_0 : decode cX9_needPage 0 = .ok (.iload_n 0, 1) := by decide +kernel
theorem dX9_needPage_1 : decode cX9_needPage 1 = .ok (.invokestatic 352, 3) := by decide +kernel
theorem dX9_needPage_4 : decode cX9_needPage 4 = .ok (.ifCond .ne 14, 3) := by decide +kernel
theorem dX9_needPage_7 : decode cX9_needPage 7 = .ok (.new 232, 3) := by decide +kernel
theorem dX9_needPage_10 : decode cX9_needPage 10 = .ok (.dup, 1) := by decide +kernel
theorem dX9_needPage_11 : decode cX9_needPage 11 = .ok (.ldc_w 355, 3) := by decide +kernel
theorem dX9_needPage_14 : decode cX9_needPage 14 = .ok (.invokespecial 236, 3) := by decide +kernel
theorem dX9_needPage_17 : decode cX9_needPage 17 = .ok (.athrow, 1) := by decide +kernel
theorem dX9_needPage_18 : decode cX9_needPage 18 = .ok (.return_, 1) := by decide +kernel
theorem dX9_needNet_0 : decode cX9_needNet 0 = .ok (.aload_n 0, 1) := by decide +kernel
theorem dX9_needNet_1 : decode cX9_needNet 1 = .ok (.getfield 12, 3) := by decide +kernel
theorem dX9_needNet_4 : decode cX9_needNet 4 = .ok (.iload_n 1, 1) := by decide +kernel
theorem dX9_needNet_5 : decode cX9_needNet 5 = .ok (.invokevirtual 357, 3) := by decide +kernel
theorem dX9_needNet_8 : decode cX9_needNet 8 = .ok (.ifCond .ne 14, 3) := by decide +kernel
theorem dX9_needNet_11 : decode cX9_needNet 11 = .ok (.new 275, 3) := by decide +kernel
theorem dX9_needNet_14 : decode cX9_needNet 14 = .ok (.dup, 1) := by decide +kernel
theorem dX9_needNet_15 : decode cX9_needNet 15 = .ok (.ldc_w 336, 3) := by decide +kernel
theorem dX9_needNet_18 : decode cX9_needNet 18 = .ok (.invokespecial 279, 3) := by decide +kernel
theorem dX9_needNet_21 : decode cX9_needNet 21 = .ok (.athrow, 1) := by decide +kernel
theorem dX9_needNet_22 : decode cX9_needNet 22 = .ok (.return_, 1) := by decide +kernel
theorem dX9_needDenial_0 : decode cX9_needDenial 0 = .ok (.aload_n 0, 1) := by decide +kernel
theorem dX9_needDenial_1 : decode cX9_needDenial 1 = .ok (.getfield 50, 3) := by decide +kernel
theorem dX9_needDenial_4 : decode cX9_needDenial 4 = .ok (.getfield 287, 3) := by decide +kernel
theorem dX9_needDenial_7 : decode cX9_needDenial 7 = .ok (.ifCond .ne 14, 3) := by decide +kernel
theorem dX9_needDenial_10 : decode cX9_needDenial 10 = .ok (.new 120, 3) := by decide +kernel
theorem dX9_needDenial_13 : decode cX9_needDenial 13 = .ok (.dup, 1) := by decide +kernel
theorem dX9_needDenial_14 : decode cX9_needDenial 14 = .ok (.ldc_w 360, 3) := by decide +kernel
theorem dX9_needDenial_17 : decode cX9_needDenial 17 = .ok (.invokespecial 124, 3) := by decide +kernel
theorem dX9_needDenial_20 : decode cX9_needDenial 20 = .ok (.athrow, 1) := by decide +kernel
theorem dX9_needDenial_21 : decode cX9_needDenial 21 = .ok (.return_, 1) := by decide +kernel
theorem dX9_isPage_0 : decode cX9_isPage 0 = .ok (.iload_n 0, 1) := by decide +kernel
theorem dX9_isPage_1 : decode cX9_isPage 1 = .ok (.iconst 0, 1) := by decide +kernel
theorem dX9_isPage_2 : decode cX9_isPage 2 = .ok (.bipush 11, 2) := by decide +kernel
theorem dX9_isPage_4 : decode cX9_isPage 4 = .ok (.invokestatic 362, 3) := by decide +kernel
theorem dX9_isPage_7 : decode cX9_isPage 7 = .ok (.ireturn, 1) := by decide +kernel
theorem dX9_isBetween_0 : decode cX9_isBetween 0 = .ok (.iload_n 0, 1) := by decide +kernel
theorem dX9_isBetween_1 : decode cX9_isBetween 1 = .ok (.iload_n 1, 1) := by decide +kernel
theorem dX9_isBetween_2 : decode cX9_isBetween 2 = .ok (.if_icmp .lt 12, 3) := by decide +kernel
theorem dX9_isBetween_5 : decode cX9_isBetween 5 = .ok (.iload_n 0, 1) := by decide +kernel
theorem dX9_isBetween_6 : decode cX9_isBetween 6 = .ok (.iload_n 2, 1) := by decide +kernel
theorem dX9_isBetween_7 : decode cX9_isBetween 7 = .ok (.if_icmp .gt 7, 3) := by decide +kernel
theorem dX9_isBetween_10 : decode cX9_isBetween 10 = .ok (.iconst 1, 1) := by decide +kernel
theorem dX9_isBetween_11 : decode cX9_isBetween 11 = .ok (.goto 4, 3) := by decide +kernel
theorem dX9_isBetween_14 : decode cX9_isBetween 14 = .ok (.iconst 0, 1) := by decide +kernel
theorem dX9_isBetween_15 : decode cX9_isBetween 15 = .ok (.ireturn, 1) := by decide +kernel
theorem dX9_has_0 : decode cX9_has 0 = .ok (.iload_n 0, 1) := by decide +kernel
theorem dX9_has_1 : decode cX9_has 1 = .ok (.iload_n 1, 1) := by decide +kernel
theorem dX9_has_2 : decode cX9_has 2 = .ok (.ishr, 1) := by decide +kernel
theorem dX9_has_3 : decode cX9_has 3 = .ok (.iconst 1, 1) := by decide +kernel
theorem dX9_has_4 : decode cX9_has 4 = .ok (.iand, 1) := by decide +kernel
theorem dX9_has_5 : decode cX9_has 5 = .ok (.ifCond .eq 7, 3) := by decide +kernel
theorem dX9_has_8 : decode cX9_has 8 = .ok (.iconst 1, 1) := by decide +kernel
theorem dX9_has_9 : decode cX9_has 9 = .ok (.goto 4, 3) := by decide +kernel
theorem dX9_has_12 : decode cX9_has 12 = .ok (.iconst 0, 1) := by decide +kernel
theorem dX9_has_13 : decode cX9_has 13 = .ok (.ireturn, 1) := by decide +kernel
theorem dX9_bit_0 : decode cX9_bit 0 = .ok (.iconst 1, 1) := by decide +kernel
theorem dX9_bit_1 : decode cX9_bit 1 = .ok (.iload_n 0, 1) := by decide +kernel
theorem dX9_bit_2 : decode cX9_bit 2 = .ok (.ishl, 1) := by decide +kernel
theorem dX9_bit_3 : decode cX9_bit 3 = .ok (.ireturn, 1) := by decide +kernel
theorem dX10_init_0 : decode cX10_init 0 = .ok (.aload_n 0, 1) := by decide +kernel
theorem dX10_init_1 : decode cX10_init 1 = .ok (.invokespecial 1, 3) := by decide +kernel
theorem dX10_init_4 : decode cX10_init 4 = .ok (.aload_n 0, 1) := by decide +kernel
theorem dX10_init_5 : decode cX10_init 5 = .ok (.bipush 99, 2) := by decide +kernel
theorem dX10_init_7 : decode cX10_init 7 = .ok (.newarray .int, 2) := by decide +kernel
theorem dX10_init_9 : decode cX10_init 9 = .ok (.putfield 7, 3) := by decide +kernel
theorem dX10_init_12 : decode cX10_init 12 = .ok (.aload_n 0, 1) := by decide +kernel
theorem dX10_init_13 : decode cX10_init 13 = .ok (.sipush 792, 3) := by decide +kernel
theorem dX10_init_16 : decode cX10_init 16 = .ok (.newarray .int, 2) := by decide +kernel
theorem dX10_init_18 : decode cX10_init 18 = .ok (.putfield 13, 3) := by decide +kernel
theorem dX10_init_21 : decode cX10_init 21 = .ok (.aload_n 0, 1) := by decide +kernel
theorem dX10_init_22 : decode cX10_init 22 = .ok (.bipush 99, 2) := by decide +kernel
theorem dX10_init_24 : decode cX10_init 24 = .ok (.newarray .int, 2) := by decide +kernel
theorem dX10_init_26 : decode cX10_init 26 = .ok (.putfield 16, 3) := by decide +kernel
theorem dX10_init_29 : decode cX10_init 29 = .ok (.aload_n 0, 1) := by decide +kernel
theorem dX10_init_30 : decode cX10_init 30 = .ok (.bipush 99, 2) := by decide +kernel
theorem dX10_init_32 : decode cX10_init 32 = .ok (.newarray .int, 2) := by decide +kernel
theorem dX10_init_34 : decode cX10_init 34 = .ok (.putfield 19, 3) := by decide +kernel
theorem dX10_init_37 : decode cX10_init 37 = .ok (.aload_n 0, 1) := by decide +kernel
theorem dX10_init_38 : decode cX10_init 38 = .ok (.bipush 60, 2) := by decide +kernel
theorem dX10_init_40 : decode cX10_init 40 = .ok (.newarray .int, 2) := by decide +kernel
theorem dX10_init_42 : decode cX10_init 42 = .ok (.putfield 22, 3) := by decide +kernel
theorem dX10_init_45 : decode cX10_init 45 = .ok (.aload_n 0, 1) := by decide +kernel
theorem dX10_init_46 : decode cX10_init 46 = .ok (.iconst (-1), 1) := by decide +kernel
theorem dX10_init_47 : decode cX10_init 47 = .ok (.putfield 25, 3) := by decide +kernel
theorem dX10_init_50 : decode cX10_init 50 = .ok (.aload_n 0, 1) := by decide +kernel
theorem dX10_init_51 : decode cX10_init 51 = .ok (.bipush 60, 2) := by decide +kernel
theorem dX10_init_53 : decode cX10_init 53 = .ok (.newarray .char, 2) := by decide +kernel
theorem dX10_init_55 : decode cX10_init 55 = .ok (.putfield 29, 3) := by decide +kernel
theorem dX10_init_58 : decode cX10_init 58 = .ok (.aload_n 0, 1) := by decide +kernel
theorem dX10_init_59 : decode cX10_init 59 = .ok (.bipush 124, 2) := by decide +kernel
theorem dX10_init_61 : decode cX10_init 61 = .ok (.newarray .int, 2) := by decide +kernel
theorem dX10_init_63 : decode cX10_init 63 = .ok (.putfield 33, 3) := by decide +kernel
theorem dX10_init_66 : decode cX10_init 66 = .ok (.iconst 0, 1) := by decide +kernel
theorem dX10_init_67 : decode cX10_init 67 = .ok (.istore_n 1, 1) := by decide +kernel
theorem dX10_init_68 : decode cX10_init 68 = .ok (.iload_n 1, 1) := by decide +kernel
theorem dX10_init_69 : decode cX10_init 69 = .ok (.bipush 12, 2) := by decide +kernel
theorem dX10_init_71 : decode cX10_init 71 = .ok (.if_icmp .ge 20, 3) := by decide +kernel
theorem dX10_init_74 : decode cX10_init 74 = .ok (.aload_n 0, 1) := by decide +kernel
theorem dX10_init_75 : decode cX10_init 75 = .ok (.getfield 7, 3) := by decide +kernel
theorem dX10_init_78 : decode cX10_init 78 = .ok (.bipush 20, 2) := by decide +kernel
theorem dX10_init_80 : decode cX10_init 80 = .ok (.iload_n 1, 1) := by decide +kernel
theorem dX10_init_81 : decode cX10_init 81 = .ok (.iadd, 1) := by decide +kernel
theorem dX10_init_82 : decode cX10_init 82 = .ok (.bipush 20, 2) := by decide +kernel
theorem dX10_init_84 : decode cX10_init 84 = .ok (.iastore, 1) := by decide +kernel
theorem dX10_init_85 : decode cX10_init 85 = .ok (.iinc 1 1, 3) := by decide +kernel
theorem dX10_init_88 : decode cX10_init 88 = .ok (.goto (-20), 3) := by decide +kernel
theorem dX10_init_91 : decode cX10_init 91 = .ok (.aload_n 0, 1) := by decide +kernel
theorem dX10_init_92 : decode cX10_init 92 = .ok (.getfield 7, 3) := by decide +kernel
theorem dX10_init_95 : decode cX10_init 95 = .ok (.iconst 4, 1) := by decide +kernel
theorem dX10_init_96 : decode cX10_init 96 = .ok (.bipush 100, 2) := by decide +kernel
theorem dX10_init_98 : decode cX10_init 98 = .ok (.iastore, 1) := by decide +kernel
theorem dX10_init_99 : decode cX10_init 99 = .ok (.return_, 1) := by decide +kernel
theorem dX10_thrown_0 : decode cX10_thrown 0 = .ok (.aload_n 0, 1) := by decide +kernel
theorem dX10_thrown_1 : decode cX10_thrown 1 = .ok (.getfield 36, 3) := by decide +kernel
theorem dX10_thrown_4 : decode cX10_thrown 4 = .ok (.ireturn, 1) := by decide +kernel
theorem dX10_fails_0 : decode cX10_fails 0 = .ok (.aload_n 0, 1) := by decide +kernel
theorem dX10_fails_1 : decode cX10_fails 1 = .ok (.iload_n 1, 1) := by decide +kernel
theorem dX10_fails_2 : decode cX10_fails 2 = .ok (.putfield 36, 3) := by decide +kernel
theorem dX10_fails_5 : decode cX10_fails 5 = .ok (.aload_n 0, 1) := by decide +kernel
theorem dX10_fails_6 : decode cX10_fails 6 = .ok (.iconst 0, 1) := by decide +kernel
theorem dX10_fails_7 : decode cX10_fails 7 = .ok (.putfield 39, 3) := by decide +kernel
theorem dX10_fails_10 : decode cX10_fails 10 = .ok (.iload_n 1, 1) := by decide +kernel
theorem dX10_fails_11 : decode cX10_fails 11 = .ok (.ifCond .le 7, 3) := by decide +kernel
theorem dX10_fails_14 : decode cX10_fails 14 = .ok (.iconst 1, 1) := by decide +kernel
theorem dX10_fails_15 : decode cX10_fails 15 = .ok (.goto 4, 3) := by decide +kernel
theorem dX10_fails_18 : decode cX10_fails 18 = .ok (.iconst 0, 1) := by decide +kernel
theorem dX10_fails_19 : decode cX10_fails 19 = .ok (.ireturn, 1) := by decide +kernel
theorem dX10_denies_0 : decode cX10_denies 0 = .ok (.aload_n 0, 1) := by decide +kernel
theorem dX10_denies_1 : decode cX10_denies 1 = .ok (.iload_n 1, 1) := by decide +kernel
theorem dX10_denies_2 : decode cX10_denies 2 = .ok (.putfield 36, 3) := by decide +kernel
theorem dX10_denies_5 : decode cX10_denies 5 = .ok (.aload_n 0, 1) := by decide +kernel
theorem dX10_denies_6 : decode cX10_denies 6 = .ok (.iconst 1, 1) := by decide +kernel
theorem dX10_denies_7 : decode cX10_denies 7 = .ok (.putfield 39, 3) := by decide +kernel
theorem dX10_denies_10 : decode cX10_denies 10 = .ok (.aload_n 0, 1) := by decide +kernel
theorem dX10_denies_11 : decode cX10_denies 11 = .ok (.iload_n 2, 1) := by decide +kernel
theorem dX10_denies_12 : decode cX10_denies 12 = .ok (.putfield 43, 3) := by decide +kernel
theorem dX10_denies_15 : decode cX10_denies 15 = .ok (.aload_n 0, 1) := by decide +kernel
theorem dX10_denies_16 : decode cX10_denies 16 = .ok (.iload_n 3, 1) := by decide +kernel
theorem dX10_denies_17 : decode cX10_denies 17 = .ok (.putfield 46, 3) := by decide +kernel
theorem dX10_denies_20 : decode cX10_denies 20 = .ok (.aload_n 0, 1) := by decide +kernel
theorem dX10_denies_21 : decode cX10_denies 21 = .ok (.iconst 0, 1) := by decide +kernel
theorem dX10_denies_22 : decode cX10_denies 22 = .ok (.putfield 49, 3) := by decide +kernel
theorem dX10_denies_25 : decode cX10_denies 25 = .ok (.iconst 0, 1) := by decide +kernel
theorem dX10_denies_26 : decode cX10_denies 26 = .ok (.ireturn, 1) := by decide +kernel
theorem dX10_in_0 : decode cX10_in 0 = .ok (.iload_n 0, 1) := by decide +kernel
theorem dX10_in_1 : decode cX10_in 1 = .ok (.iload_n 1, 1) := by decide +kernel
theorem dX10_in_2 : decode cX10_in 2 = .ok (.if_icmp .lt 12, 3) := by decide +kernel
theorem dX10_in_5 : decode cX10_in 5 = .ok (.iload_n 0, 1) := by decide +kernel
theorem dX10_in_6 : decode cX10_in 6 = .ok (.iload_n 2, 1) := by decide +kernel
theorem dX10_in_7 : decode cX10_in 7 = .ok (.if_icmp .gt 7, 3) := by decide +kernel
theorem dX10_in_10 : decode cX10_in 10 = .ok (.iconst 1, 1) := by decide +kernel
theorem dX10_in_11 : decode cX10_in 11 = .ok (.goto 4, 3) := by decide +kernel
theorem dX10_in_14 : decode cX10_in 14 = .ok (.iconst 0, 1) := by decide +kernel
theorem dX10_in_15 : decode cX10_in 15 = .ok (.ireturn, 1) := by decide +kernel
theorem dX10_copies_0 : decode cX10_copies 0 = .ok (.iconst 0, 1) := by decide +kernel
theorem dX10_copies_1 : decode cX10_copies 1 = .ok (.istore 4, 2) := by decide +kernel
theorem dX10_copies_3 : decode cX10_copies 3 = .ok (.iload 4, 2) := by decide +kernel
theorem dX10_copies_5 : decode cX10_copies 5 = .ok (.bipush 99, 2) := by decide +kernel
theorem dX10_copies_7 : decode cX10_copies 7 = .ok (.if_icmp .ge 21, 3) := by decide +kernel
theorem dX10_copies_10 : decode cX10_copies 10 = .ok (.aload_n 2, 1) := by decide +kernel
theorem dX10_copies_11 : decode cX10_copies 11 = .ok (.iload_n 3, 1) := by decide +kernel
theorem dX10_copies_12 : decode cX10_copies 12 = .ok (.iload 4, 2) := by decide +kernel
theorem dX10_copies_14 : decode cX10_copies 14 = .ok (.iadd, 1) := by decide +kernel
theorem dX10_copies_15 : decode cX10_copies 15 = .ok (.aload_n 0, 1) := by decide +kernel
theorem dX10_copies_16 : decode cX10_copies 16 = .ok (.iload_n 1, 1) := by decide +kernel
theorem dX10_copies_17 : decode cX10_copies 17 = .ok (.iload 4, 2) := by decide +kernel
theorem dX10_copies_19 : decode cX10_copies 19 = .ok (.iadd, 1) := by decide +kernel
theorem dX10_copies_20 : decode cX10_copies 20 = .ok (.iaload, 1) := by decide +kernel
theorem dX10_copies_21 : decode cX10_copies 21 = .ok (.iastore, 1) := by decide +kernel
theorem dX10_copies_22 : decode cX10_copies 22 = .ok (.iinc 4 1, 3) := by decide +kernel
theorem dX10_copies_25 : decode cX10_copies 25 = .ok (.goto (-22), 3) := by decide +kernel
theorem dX10_copies_28 : decode cX10_copies 28 = .ok (.return_, 1) := by decide +kernel
theorem dX10_keeps_0 : decode cX10_keeps 0 = .ok (.aload_n 0, 1) := by decide +kernel
theorem dX10_keeps_1 : decode cX10_keeps 1 = .ok (.iconst 0, 1) := by decide +kernel
theorem dX10_keeps_2 : decode cX10_keeps 2 = .ok (.putfield 36, 3) := by decide +kernel
theorem dX10_keeps_5 : decode cX10_keeps 5 = .ok (.aload_n 0, 1) := by decide +kernel
theorem dX10_keeps_6 : decode cX10_keeps 6 = .ok (.getfield 52, 3) := by decide +kernel
theorem dX10_keeps_9 : decode cX10_keeps 9 = .ok (.ifCond .eq 4, 3) := by decide +kernel
theorem dX10_keeps_12 : decode cX10_keeps 12 = .ok (.return_, 1) := by decide +kernel
theorem dX10_keeps_13 : decode cX10_keeps 13 = .ok (.aload_n 0, 1) := by decide +kernel
theorem dX10_keeps_14 : decode cX10_keeps 14 = .ok (.getfield 55, 3) := by decide +kernel
theorem dX10_keeps_17 : decode cX10_keeps 17 = .ok (.bipush 8, 2) := by decide +kernel
theorem dX10_keeps_19 : decode cX10_keeps 19 = .ok (.if_icmp .ne 43, 3) := by decide +kernel
theorem dX10_keeps_22 : decode cX10_keeps 22 = .ok (.iconst 0, 1) := by decide +kernel
theorem dX10_keeps_23 : decode cX10_keeps 23 = .ok (.istore_n 2, 1) := by decide +kernel
theorem dX10_keeps_24 : decode cX10_keeps 24 = .ok (.iload_n 2, 1) := by decide +kernel
theorem dX10_keeps_25 : decode cX10_keeps 25 = .ok (.sipush 693, 3) := by decide +kernel
theorem dX10_keeps_28 : decode cX10_keeps 28 = .ok (.if_icmp .ge 24, 3) := by decide +kernel
theorem dX10_keeps_31 : decode cX10_keeps 31 = .ok (.aload_n 0, 1) := by decide +kernel
theorem dX10_keeps_32 : decode cX10_keeps 32 = .ok (.getfield 13, 3) := by decide +kernel
theorem dX10_keeps_35 : decode cX10_keeps 35 = .ok (.iload_n 2, 1) := by decide +kernel
theorem dX10_keeps_36 : decode cX10_keeps 36 = .ok (.aload_n 0, 1) := by decide +kernel
theorem dX10_keeps_37 : decode cX10_keeps 37 = .ok (.getfield 13, 3) := by decide +kernel
theorem dX10_keeps_40 : decode cX10_keeps 40 = .ok (.iload_n 2, 1) := by decide +kernel
theorem dX10_keeps_41 : decode cX10_keeps 41 = .ok (.bipush 99, 2) := by decide +kernel
theorem dX10_keeps_43 : decode cX10_keeps 43 = .ok (.iadd, 1) := by decide +kernel
theorem dX10_keeps_44 : decode cX10_keeps 44 = .ok (.iaload, 1) := by decide +kernel
theorem dX10_keeps_45 : decode cX10_keeps 45 = .ok (.iastore, 1) := by decide +kernel
theorem dX10_keeps_46 : decode cX10_keeps 46 = .ok (.iinc 2 1, 3) := by decide +kernel
theorem dX10_keeps_49 : decode cX10_keeps 49 = .ok (.goto (-25), 3) := by decide +kernel
theorem dX10_keeps_52 : decode cX10_keeps 52 = .ok (.aload_n 0, 1) := by decide +kernel
theorem dX10_keeps_53 : decode cX10_keeps 53 = .ok (.dup, 1) := by decide +kernel
theorem dX10_keeps_54 : decode cX10_keeps 54 = .ok (.getfield 55, 3) := by decide +kernel
theorem dX10_keeps_57 : decode cX10_keeps 57 = .ok (.iconst 1, 1) := by decide +kernel
theorem dX10_keeps_58 : decode cX10_keeps 58 = .ok (.isub, 1) := by decide +kernel
theorem dX10_keeps_59 : decode cX10_keeps 59 = .ok (.putfield 55, 3) := by decide +kernel
theorem dX10_keeps_62 : decode cX10_keeps 62 = .ok (.aload_n 1, 1) := by decide +kernel
theorem dX10_keeps_63 : decode cX10_keeps 63 = .ok (.iconst 0, 1) := by decide +kernel
theorem dX10_keeps_64 : decode cX10_keeps 64 = .ok (.aload_n 0, 1) := by decide +kernel
theorem dX10_keeps_65 : decode cX10_keeps 65 = .ok (.getfield 13, 3) := by decide +kernel
theorem dX10_keeps_68 : decode cX10_keeps 68 = .ok (.bipush 99, 2) := by decide +kernel
theorem dX10_keeps_70 : decode cX10_keeps 70 = .ok (.aload_n 0, 1) := by decide +kernel
theorem dX10_keeps_71 : decode cX10_keeps 71 = .ok (.getfield 55, 3) := by decide +kernel
theorem dX10_keeps_74 : decode cX10_keeps 74 = .ok (.imul, 1) := by decide +kernel
theorem dX10_keeps_75 : decode cX10_keeps 75 = .ok (.invokestatic 58, 3) := by decide +kernel
theorem dX10_keeps_78 : decode cX10_keeps 78 = .ok (.aload_n 0, 1) := by decide +kernel
theorem dX10_keeps_79 : decode cX10_keeps 79 = .ok (.dup, 1) := by decide +kernel
theorem dX10_keeps_80 : decode cX10_keeps 80 = .ok (.getfield 55, 3) := by decide +kernel
theorem dX10_keeps_83 : decode cX10_keeps 83 = .ok (.iconst 1, 1) := by decide +kernel
theorem dX10_keeps_84 : decode cX10_keeps 84 = .ok (.iadd, 1) := by decide +kernel
theorem dX10_keeps_85 : decode cX10_keeps 85 = .ok (.putfield 55, 3) := by decide +kernel
theorem dX10_keeps_88 : decode cX10_keeps 88 = .ok (.return_, 1) := by decide +kernel
theorem dX10_bits_0 : decode cX10_bits 0 = .ok (.iconst 0, 1) := by decide +kernel
theorem dX10_bits_1 : decode cX10_bits 1 = .ok (.istore_n 1, 1) := by decide +kernel
theorem dX10_bits_2 : decode cX10_bits 2 = .ok (.iconst 0, 1) := by decide +kernel
theorem dX10_bits_3 : decode cX10_bits 3 = .ok (.istore_n 2, 1) := by decide +kernel
theorem dX10_bits_4 : decode cX10_bits 4 = .ok (.iload_n 2, 1) := by decide +kernel
theorem dX10_bits_5 : decode cX10_bits 5 = .ok (.bipush 12, 2) := by decide +kernel
theorem dX10_bits_7 : decode cX10_bits 7 = .ok (.if_icmp .ge 17, 3) := by decide +kernel
theorem dX10_bits_10 : decode cX10_bits 10 = .ok (.iload_n 1, 1) := by decide +kernel
theorem dX10_bits_11 : decode cX10_bits 11 = .ok (.iload_n 0, 1) := by decide +kernel
theorem dX10_bits_12 : decode cX10_bits 12 = .ok (.iload_n 2, 1) := by decide +kernel
theorem dX10_bits_13 : decode cX10_bits 13 = .ok (.ishr, 1) := by decide +kernel
theorem dX10_bits_14 : decode cX10_bits 14 = .ok (.iconst 1, 1) := by decide +kernel
theorem dX10_bits_15 : decode cX10_bits 15 = .ok (.iand, 1) := by decide +kernel
theorem dX10_bits_16 : decode cX10_bits 16 = .ok (.iadd, 1) := by decide +kernel
theorem dX10_bits_17 : decode cX10_bits 17 = .ok (.istore_n 1, 1) := by decide +kernel
theorem dX10_bits_18 : decode cX10_bits 18 = .ok (.iinc 2 1, 3) := by decide +kernel
theorem dX10_bits_21 : decode cX10_bits 21 = .ok (.goto (-17), 3) := by decide +kernel
theorem dX10_bits_24 : decode cX10_bits 24 = .ok (.iload_n 1, 1) := by decide +kernel
theorem dX10_bits_25 : decode cX10_bits 25 = .ok (.ireturn, 1) := by decide +kernel
theorem dX10_isPage_0 : decode cX10_isPage 0 = .ok (.iload_n 0, 1) := by decide +kernel
theorem dX10_isPage_1 : decode cX10_isPage 1 = .ok (.iconst 0, 1) := by decide +kernel
theorem dX10_isPage_2 : decode cX10_isPage 2 = .ok (.bipush 11, 2) := by decide +kernel
theorem dX10_isPage_4 : decode cX10_isPage 4 = .ok (.invokestatic 62, 3) := by decide +kernel
theorem dX10_isPage_7 : decode cX10_isPage 7 = .ok (.ireturn, 1) := by decide +kernel
theorem dX10_isNote_0 : decode cX10_isNote 0 = .ok (.iload_n 1, 1) := by decide +kernel
theorem dX10_isNote_1 : decode cX10_isNote 1 = .ok (.iconst 0, 1) := by decide +kernel
theorem dX10_isNote_2 : decode cX10_isNote 2 = .ok (.aload_n 0, 1) := by decide +kernel
theorem dX10_isNote_3 : decode cX10_isNote 3 = .ok (.getfield 7, 3) := by decide +kernel
theorem dX10_isNote_6 : decode cX10_isNote 6 = .ok (.iconst 0, 1) := by decide +kernel
theorem dX10_isNote_7 : decode cX10_isNote 7 = .ok (.iaload, 1) := by decide +kernel
theorem dX10_isNote_8 : decode cX10_isNote 8 = .ok (.iconst 1, 1) := by decide +kernel
theorem dX10_isNote_9 : decode cX10_isNote 9 = .ok (.isub, 1) := by decide +kernel
theorem dX10_isNote_10 : decode cX10_isNote 10 = .ok (.invokestatic 62, 3) := by decide +kernel
theorem dX10_isNote_13 : decode cX10_isNote 13 = .ok (.ireturn, 1) := by decide +kernel
theorem dX10_isNone_0 : decode cX10_isNone 0 = .ok (.aload_n 0, 1) := by decide +kernel
theorem dX10_isNone_1 : decode cX10_isNone 1 = .ok (.aload_n 0, 1) := by decide +kernel
theorem dX10_isNone_2 : decode cX10_isNone 2 = .ok (.iload_n 1, 1) := by decide +kernel
theorem dX10_isNone_3 : decode cX10_isNone 3 = .ok (.invokevirtual 66, 3) := by decide +kernel
theorem dX10_isNone_6 : decode cX10_isNone 6 = .ok (.ifCond .eq 7, 3) := by decide +kernel
theorem dX10_isNone_9 : decode cX10_isNone 9 = .ok (.iconst 0, 1) := by decide +kernel
theorem dX10_isNone_10 : decode cX10_isNone 10 = .ok (.goto 4, 3) := by decide +kernel
theorem dX10_isNone_13 : decode cX10_isNone 13 = .ok (.iconst 1, 1) := by decide +kernel
theorem dX10_isNone_14 : decode cX10_isNone 14 = .ok (.invokevirtual 70, 3) := by decide +kernel
theorem dX10_isNone_17 : decode cX10_isNone 17 = .ok (.ireturn, 1) := by decide +kernel
theorem dX10_areNone_0 : decode cX10_areNone 0 = .ok (.aload_n 0, 1) := by decide +kernel
theorem dX10_areNone_1 : decode cX10_areNone 1 = .ok (.aload_n 0, 1) := by decide +kernel
theorem dX10_areNone_2 : decode cX10_areNone 2 = .ok (.iload_n 1, 1) := by decide +kernel
theorem dX10_areNone_3 : decode cX10_areNone 3 = .ok (.invokevirtual 66, 3) := by decide +kernel
theorem dX10_areNone_6 : decode cX10_areNone 6 = .ok (.ifCond .eq 15, 3) := by decide +kernel
theorem dX10_areNone_9 : decode cX10_areNone 9 = .ok (.aload_n 0, 1) := by decide +kernel
theorem dX10_areNone_10 : decode cX10_areNone 10 = .ok (.iload_n 2, 1) := by decide +kernel
theorem dX10_areNone_11 : decode cX10_areNone 11 = .ok (.invokevirtual 66, 3) := by decide +kernel
theorem dX10_areNone_14 : decode cX10_areNone 14 = .ok (.ifCond .eq 7, 3) := by decide +kernel
theorem dX10_areNone_17 : decode cX10_areNone 17 = .ok (.iconst 0, 1) := by decide +kernel
theorem dX10_areNone_18 : decode cX10_areNone 18 = .ok (.goto 4, 3) := by decide +kernel
theorem dX10_areNone_21 : decode cX10_areNone 21 = .ok (.iconst 1, 1) := by decide +kernel
theorem dX10_areNone_22 : decode cX10_areNone 22 = .ok (.invokevirtual 70, 3) := by decide +kernel
theorem dX10_areNone_25 : decode cX10_areNone 25 = .ok (.ireturn, 1) := by decide +kernel
theorem dX10_of_0 : decode cX10_of 0 = .ok (.aload_n 0, 1) := by decide +kernel
theorem dX10_of_1 : decode cX10_of 1 = .ok (.getfield 7, 3) := by decide +kernel
theorem dX10_of_4 : decode cX10_of 4 = .ok (.bipush 44, 2) := by decide +kernel
theorem dX10_of_6 : decode cX10_of 6 = .ok (.iconst 4, 1) := by decide +kernel
theorem dX10_of_7 : decode cX10_of 7 = .ok (.iload_n 1, 1) := by decide +kernel
theorem dX10_of_8 : decode cX10_of 8 = .ok (.imul, 1) := by decide +kernel
theorem dX10_of_9 : decode cX10_of 9 = .ok (.iadd, 1) := by decide +kernel
theorem dX10_of_10 : decode cX10_of 10 = .ok (.iload_n 2, 1) := by decide +kernel
theorem dX10_of_11 : decode cX10_of 11 = .ok (.iadd, 1) := by decide +kernel
theorem dX10_of_12 : decode cX10_of 12 = .ok (.iaload, 1) := by decide +kernel
theorem dX10_of_13 : decode cX10_of 13 = .ok (.ireturn, 1) := by decide +kernel
theorem dX10_lays_0 : decode cX10_lays 0 = .ok (.aload_n 0, 1) := by decide +kernel
theorem dX10_lays_1 : decode cX10_lays 1 = .ok (.getfield 7, 3) := by decide +kernel
theorem dX10_lays_4 : decode cX10_lays 4 = .ok (.bipush 44, 2) := by decide +kernel
theorem dX10_lays_6 : decode cX10_lays 6 = .ok (.iconst 4, 1) := by decide +kernel
theorem dX10_lays_7 : decode cX10_lays 7 = .ok (.iload_n 1, 1) := by decide +kernel
theorem dX10_lays_8 : decode cX10_lays 8 = .ok (.imul, 1) := by decide +kernel
theorem dX10_lays_9 : decode cX10_lays 9 = .ok (.iadd, 1) := by decide +kernel
theorem dX10_lays_10 : decode cX10_lays 10 = .ok (.iload_n 2, 1) := by decide +kernel
theorem dX10_lays_11 : decode cX10_lays 11 = .ok (.iadd, 1) := by decide +kernel
theorem dX10_lays_12 : decode cX10_lays 12 = .ok (.iload_n 3, 1) := by decide +kernel
theorem dX10_lays_13 : decode cX10_lays 13 = .ok (.iastore, 1) := by decide +kernel
theorem dX10_lays_14 : decode cX10_lays 14 = .ok (.return_, 1) := by decide +kernel
theorem dX10_isCiting_0 : decode cX10_isCiting 0 = .ok (.aload_n 0, 1) := by decide +kernel
theorem dX10_isCiting_1 : decode cX10_isCiting 1 = .ok (.iload_n 1, 1) := by decide +kernel
theorem dX10_isCiting_2 : decode cX10_isCiting 2 = .ok (.iconst 3, 1) := by decide +kernel
theorem dX10_isCiting_3 : decode cX10_isCiting 3 = .ok (.invokevirtual 73, 3) := by decide +kernel
theorem dX10_isCiting_6 : decode cX10_isCiting 6 = .ok (.iload_n 2, 1) := by decide +kernel
theorem dX10_isCiting_7 : decode cX10_isCiting 7 = .ok (.ishr, 1) := by decide +kernel
theorem dX10_isCiting_8 : decode cX10_isCiting 8 = .ok (.iconst 1, 1) := by decide +kernel
theorem dX10_isCiting_9 : decode cX10_isCiting 9 = .ok (.iand, 1) := by decide +kernel
theorem dX10_isCiting_10 : decode cX10_isCiting 10 = .ok (.iconst 1, 1) := by decide +kernel
theorem dX10_isCiting_11 : decode cX10_isCiting 11 = .ok (.if_icmp .ne 7, 3) := by decide +kernel
theorem dX10_isCiting_14 : decode cX10_isCiting 14 = .ok (.iconst 1, 1) := by decide +kernel
theorem dX10_isCiting_15 : decode cX10_isCiting 15 = .ok (.goto 4, 3) := by decide +kernel
theorem dX10_isCiting_18 : decode cX10_isCiting 18 = .ok (.iconst 0, 1) := by decide +kernel
theorem dX10_isCiting_19 : decode cX10_isCiting 19 = .ok (.ireturn, 1) := by decide +kernel
theorem dX10_addNote_0 : decode cX10_addNote 0 = .ok (.aload_n 0, 1) := by decide +kernel
theorem dX10_addNote_1 : decode cX10_addNote 1 = .ok (.iload_n 1, 1) := by decide +kernel
theorem dX10_addNote_2 : decode cX10_addNote 2 = .ok (.invokestatic 77, 3) := by decide +kernel
theorem dX10_addNote_5 : decode cX10_addNote 5 = .ok (.ifCond .eq 17, 3) := by decide +kernel
theorem dX10_addNote_8 : decode cX10_addNote 8 = .ok (.iload_n 2, 1) := by decide +kernel
theorem dX10_addNote_9 : decode cX10_addNote 9 = .ok (.iconst 1, 1) := by decide +kernel
theorem dX10_addNote_10 : decode cX10_addNote 10 = .ok (.bipush 30, 2) := by decide +kernel
theorem dX10_addNote_12 : decode cX10_addNote 12 = .ok (.invokestatic 62, 3) := by decide +kernel
theorem dX10_addNote_15 : decode cX10_addNote 15 = .ok (.ifCond .eq 7, 3) := by decide +kernel
theorem dX10_addNote_18 : decode cX10_addNote 18 = .ok (.iconst 0, 1) := by decide +kernel
theorem dX10_addNote_19 : decode cX10_addNote 19 = .ok (.goto 4, 3) := by decide +kernel
theorem dX10_addNote_22 : decode cX10_addNote 22 = .ok (.iconst 1, 1) := by decide +kernel
theorem dX10_addNote_23 : decode cX10_addNote 23 = .ok (.invokevirtual 70, 3) := by decide +kernel
theorem dX10_addNote_26 : decode cX10_addNote 26 = .ok (.ifCond .eq 5, 3) := by decide +kernel
theorem dX10_addNote_29 : decode cX10_addNote 29 = .ok (.iconst 0, 1) := by decide +kernel
theorem dX10_addNote_30 : decode cX10_addNote 30 = .ok (.ireturn, 1) := by decide +kernel
theorem dX10_addNote_31 : decode cX10_addNote 31 = .ok (.aload_n 0, 1) := by decide +kernel
theorem dX10_addNote_32 : decode cX10_addNote 32 = .ok (.getfield 7, 3) := by decide +kernel
theorem dX10_addNote_35 : decode cX10_addNote 35 = .ok (.iconst 0, 1) := by decide +kernel
theorem dX10_addNote_36 : decode cX10_addNote 36 = .ok (.iaload, 1) := by decide +kernel
theorem dX10_addNote_37 : decode cX10_addNote 37 = .ok (.bipush 10, 2) := by decide +kernel
theorem dX10_addNote_39 : decode cX10_addNote 39 = .ok (.if_icmp .ne 12, 3) := by decide +kernel
theorem dX10_addNote_42 : decode cX10_addNote 42 = .ok (.aload_n 0, 1) := by decide +kernel
theorem dX10_addNote_43 : decode cX10_addNote 43 = .ok (.iconst 2, 1) := by decide +kernel
theorem dX10_addNote_44 : decode cX10_addNote 44 = .ok (.iconst 1, 1) := by decide +kernel
theorem dX10_addNote_45 : decode cX10_addNote 45 = .ok (.bipush 10, 2) := by decide +kernel
theorem dX10_addNote_47 : decode cX10_addNote 47 = .ok (.invokevirtual 80, 3) := by decide +kernel
theorem dX10_addNote_50 : decode cX10_addNote 50 = .ok (.ireturn, 1) := by decide +kernel
theorem dX10_addNote_51 : decode cX10_addNote 51 = .ok (.aload_n 0, 1) := by decide +kernel
theorem dX10_addNote_52 : decode cX10_addNote 52 = .ok (.aload_n 0, 1) := by decide +kernel
theorem dX10_addNote_53 : decode cX10_addNote 53 = .ok (.getfield 7, 3) := by decide +kernel
theorem dX10_addNote_56 : decode cX10_addNote 56 = .ok (.invokevirtual 84, 3) := by decide +kernel
theorem dX10_addNote_59 : decode cX10_addNote 59 = .ok (.aload_n 0, 1) := by decide +kernel
theorem dX10_addNote_60 : decode cX10_addNote 60 = .ok (.getfield 7, 3) := by decide +kernel
theorem dX10_addNote_63 : decode cX10_addNote 63 = .ok (.iconst 0, 1) := by decide +kernel
theorem dX10_addNote_64 : decode cX10_addNote 64 = .ok (.iaload, 1) := by decide +kernel
theorem dX10_addNote_65 : decode cX10_addNote 65 = .ok (.istore_n 3, 1) := by decide +kernel
theorem dX10_addNote_66 : decode cX10_addNote 66 = .ok (.aload_n 0, 1) := by decide +kernel
theorem dX10_addNote_67 : decode cX10_addNote 67 = .ok (.getfield 7, 3) := by decide +kernel
theorem dX10_addNote_70 : decode cX10_addNote 70 = .ok (.iconst 0, 1) := by decide +kernel
theorem dX10_addNote_71 : decode cX10_addNote 71 = .ok (.dup2, 1) := by decide +kernel
theorem dX10_addNote_72 : decode cX10_addNote 72 = .ok (.iaload, 1) := by decide +kernel
theorem dX10_addNote_73 : decode cX10_addNote 73 = .ok (.iconst 1, 1) := by decide +kernel
theorem dX10_addNote_74 : decode cX10_addNote 74 = .ok (.iadd, 1) := by decide +kernel
theorem dX10_addNote_75 : decode cX10_addNote 75 = .ok (.iastore, 1) := by decide +kernel
theorem dX10_addNote_76 : decode cX10_addNote 76 = .ok (.aload_n 0, 1) := by decide +kernel
theorem dX10_addNote_77 : decode cX10_addNote 77 = .ok (.iload_n 3, 1) := by decide +kernel
theorem dX10_addNote_78 : decode cX10_addNote 78 = .ok (.iconst 0, 1) := by decide +kernel
theorem dX10_addNote_79 : decode cX10_addNote 79 = .ok (.iload_n 1, 1) := by decide +kernel
theorem dX10_addNote_80 : decode cX10_addNote 80 = .ok (.invokevirtual 88, 3) := by decide +kernel
theorem dX10_addNote_83 : decode cX10_addNote 83 = .ok (.aload_n 0, 1) := by decide +kernel
theorem dX10_addNote_84 : decode cX10_addNote 84 = .ok (.iload_n 3, 1) := by decide +kernel
theorem dX10_addNote_85 : decode cX10_addNote 85 = .ok (.iconst 1, 1) := by decide +kernel
theorem dX10_addNote_86 : decode cX10_addNote 86 = .ok (.iload_n 2, 1) := by decide +kernel
theorem dX10_addNote_87 : decode cX10_addNote 87 = .ok (.invokevirtual 88, 3) := by decide +kernel
theorem dX10_addNote_90 : decode cX10_addNote 90 = .ok (.aload_n 0, 1) := by decide +kernel
theorem dX10_addNote_91 : decode cX10_addNote 91 = .ok (.iload_n 3, 1) := by decide +kernel
theorem dX10_addNote_92 : decode cX10_addNote 92 = .ok (.iconst 2, 1) := by decide +kernel
theorem dX10_addNote_93 : decode cX10_addNote 93 = .ok (.iconst 0, 1) := by decide +kernel
theorem dX10_addNote_94 : decode cX10_addNote 94 = .ok (.invokevirtual 88, 3) := by decide +kernel
theorem dX10_addNote_97 : decode cX10_addNote 97 = .ok (.aload_n 0, 1) := by decide +kernel
theorem dX10_addNote_98 : decode cX10_addNote 98 = .ok (.iload_n 3, 1) := by decide +kernel
theorem dX10_addNote_99 : decode cX10_addNote 99 = .ok (.iconst 3, 1) := by decide +kernel
theorem dX10_addNote_100 : decode cX10_addNote 100 = .ok (.iconst 0, 1) := by decide +kernel
theorem dX10_addNote_101 : decode cX10_addNote 101 = .ok (.invokevirtual 88, 3) := by decide +kernel
theorem dX10_addNote_104 : decode cX10_addNote 104 = .ok (.iload_n 3, 1) := by decide +kernel
theorem dX10_addNote_105 : decode cX10_addNote 105 = .ok (.ireturn, 1) := by decide +kernel
theorem dX10_turns_0 : decode cX10_turns 0 = .ok (.aload_n 0, 1) := by decide +kernel
theorem dX10_turns_1 : decode cX10_turns 1 = .ok (.iload_n 1, 1) := by decide +kernel
theorem dX10_turns_2 : decode cX10_turns 2 = .ok (.iload_n 2, 1) := by decide +kernel
theorem dX10_turns_3 : decode cX10_turns 3 = .ok (.invokevirtual 92, 3) := by decide +kernel
theorem dX10_turns_6 : decode cX10_turns 6 = .ok (.ifCond .ne 20, 3) := by decide +kernel
theorem dX10_turns_9 : decode cX10_turns 9 = .ok (.aload_n 0, 1) := by decide +kernel
theorem dX10_turns_10 : decode cX10_turns 10 = .ok (.iload_n 1, 1) := by decide +kernel
theorem dX10_turns_11 : decode cX10_turns 11 = .ok (.iload_n 2, 1) := by decide +kernel
theorem dX10_turns_12 : decode cX10_turns 12 = .ok (.if_icmp .ne 7, 3) := by decide +kernel
theorem dX10_turns_15 : decode cX10_turns 15 = .ok (.iconst 2, 1) := by decide +kernel
theorem dX10_turns_16 : decode cX10_turns 16 = .ok (.goto 4, 3) := by decide +kernel
theorem dX10_turns_19 : decode cX10_turns 19 = .ok (.iconst 0, 1) := by decide +kernel
theorem dX10_turns_20 : decode cX10_turns 20 = .ok (.invokevirtual 70, 3) := by decide +kernel
theorem dX10_turns_23 : decode cX10_turns 23 = .ok (.ifCond .eq 5, 3) := by decide +kernel
theorem dX10_turns_26 : decode cX10_turns 26 = .ok (.iconst 0, 1) := by decide +kernel
theorem dX10_turns_27 : decode cX10_turns 27 = .ok (.ireturn, 1) := by decide +kernel
theorem dX10_turns_28 : decode cX10_turns 28 = .ok (.aload_n 0, 1) := by decide +kernel
theorem dX10_turns_29 : decode cX10_turns 29 = .ok (.iload_n 1, 1) := by decide +kernel
theorem dX10_turns_30 : decode cX10_turns 30 = .ok (.iload_n 2, 1) := by decide +kernel
theorem dX10_turns_31 : decode cX10_turns 31 = .ok (.invokevirtual 96, 3) := by decide +kernel
theorem dX10_turns_34 : decode cX10_turns 34 = .ok (.iload_n 3, 1) := by decide +kernel
theorem dX10_turns_35 : decode cX10_turns 35 = .ok (.if_icmp .ne 19, 3) := by decide +kernel
theorem dX10_turns_38 : decode cX10_turns 38 = .ok (.aload_n 0, 1) := by decide +kernel
theorem dX10_turns_39 : decode cX10_turns 39 = .ok (.iconst 3, 1) := by decide +kernel
theorem dX10_turns_40 : decode cX10_turns 40 = .ok (.iconst 5, 1) := by decide +kernel
theorem dX10_turns_41 : decode cX10_turns 41 = .ok (.aload_n 0, 1) := by decide +kernel
theorem dX10_turns_42 : decode cX10_turns 42 = .ok (.iload_n 1, 1) := by decide +kernel
theorem dX10_turns_43 : decode cX10_turns 43 = .ok (.iconst 3, 1) := by decide +kernel
theorem dX10_turns_44 : decode cX10_turns 44 = .ok (.invokevirtual 73, 3) := by decide +kernel
theorem dX10_turns_47 : decode cX10_turns 47 = .ok (.invokestatic 99, 3) := by decide +kernel
theorem dX10_turns_50 : decode cX10_turns 50 = .ok (.invokevirtual 80, 3) := by decide +kernel
theorem dX10_turns_53 : decode cX10_turns 53 = .ok (.ireturn, 1) := by decide +kernel
theorem dX10_turns_54 : decode cX10_turns 54 = .ok (.aload_n 0, 1) := by decide +kernel
theorem dX10_turns_55 : decode cX10_turns 55 = .ok (.aload_n 0, 1) := by decide +kernel
theorem dX10_turns_56 : decode cX10_turns 56 = .ok (.getfield 7, 3) := by decide +kernel
theorem dX10_turns_59 : decode cX10_turns 59 = .ok (.invokevirtual 84, 3) := by decide +kernel
theorem dX10_turns_62 : decode cX10_turns 62 = .ok (.aload_n 0, 1) := by decide +kernel
theorem dX10_turns_63 : decode cX10_turns 63 = .ok (.iload_n 1, 1) := by decide +kernel
theorem dX10_turns_64 : decode cX10_turns 64 = .ok (.iconst 3, 1) := by decide +kernel
theorem dX10_turns_65 : decode cX10_turns 65 = .ok (.aload_n 0, 1) := by decide +kernel
theorem dX10_turns_66 : decode cX10_turns 66 = .ok (.iload_n 1, 1) := by decide +kernel
theorem dX10_turns_67 : decode cX10_turns 67 = .ok (.iconst 3, 1) := by decide +kernel
theorem dX10_turns_68 : decode cX10_turns 68 = .ok (.invokevirtual 73, 3) := by decide +kernel
theorem dX10_turns_71 : decode cX10_turns 71 = .ok (.iconst 1, 1) := by decide +kernel
theorem dX10_turns_72 : decode cX10_turns 72 = .ok (.iload_n 2, 1) := by decide +kernel
theorem dX10_turns_73 : decode cX10_turns 73 = .ok (.ishl, 1) := by decide +kernel
theorem dX10_turns_74 : decode cX10_turns 74 = .ok (.ixor, 1) := by decide +kernel
theorem dX10_turns_75 : decode cX10_turns 75 = .ok (.invokevirtual 88, 3) := by decide +kernel
theorem dX10_turns_78 : decode cX10_turns 78 = .ok (.aload_n 0, 1) := by decide +kernel
theorem dX10_turns_79 : decode cX10_turns 79 = .ok (.iload_n 1, 1) := by decide +kernel
theorem dX10_turns_80 : decode cX10_turns 80 = .ok (.iconst 3, 1) := by decide +kernel
theorem dX10_turns_81 : decode cX10_turns 81 = .ok (.invokevirtual 73, 3) := by decide +kernel
theorem dX10_turns_84 : decode cX10_turns 84 = .ok (.invokestatic 99, 3) := by decide +kernel
theorem dX10_turns_87 : decode cX10_turns 87 = .ok (.ireturn, 1) := by decide +kernel
theorem dX10_cite_0 : decode cX10_cite 0 = .ok (.aload_n 0, 1) := by decide +kernel
theorem dX10_cite_1 : decode cX10_cite 1 = .ok (.iload_n 1, 1) := by decide +kernel
theorem dX10_cite_2 : decode cX10_cite 2 = .ok (.iload_n 2, 1) := by decide +kernel
theorem dX10_cite_3 : decode cX10_cite 3 = .ok (.iconst 1, 1) := by decide +kernel
theorem dX10_cite_4 : decode cX10_cite 4 = .ok (.invokevirtual 103, 3) := by decide +kernel
theorem dX10_cite_7 : decode cX10_cite 7 = .ok (.ireturn, 1) := by decide +kernel
theorem dX10_uncite_0 : decode cX10_uncite 0 = .ok (.aload_n 0, 1) := by decide +kernel
theorem dX10_uncite_1 : decode cX10_uncite 1 = .ok (.iload_n 1, 1) := by decide +kernel
theorem dX10_uncite_2 : decode cX10_uncite 2 = .ok (.iload_n 2, 1) := by decide +kernel
theorem dX10_uncite_3 : decode cX10_uncite 3 = .ok (.iconst 0, 1) := by decide +kernel
theorem dX10_uncite_4 : decode cX10_uncite 4 = .ok (.invokevirtual 103, 3) := by decide +kernel
theorem dX10_uncite_7 : decode cX10_uncite 7 = .ok (.ireturn, 1) := by decide +kernel
theorem dX10_noteCount_0 : decode cX10_noteCount 0 = .ok (.aload_n 0, 1) := by decide +kernel
theorem dX10_noteCount_1 : decode cX10_noteCount 1 = .ok (.iconst 0, 1) := by decide +kernel
theorem dX10_noteCount_2 : decode cX10_noteCount 2 = .ok (.putfield 36, 3) := by decide +kernel
theorem dX10_noteCount_5 : decode cX10_noteCount 5 = .ok (.aload_n 0, 1) := by decide +kernel
theorem dX10_noteCount_6 : decode cX10_noteCount 6 = .ok (.getfield 7, 3) := by decide +kernel
theorem dX10_noteCount_9 : decode cX10_noteCount 9 = .ok (.iconst 0, 1) := by decide +kernel
theorem dX10_noteCount_10 : decode cX10_noteCount 10 = .ok (.iaload, 1) := by decide +kernel
theorem dX10_noteCount_11 : decode cX10_noteCount 11 = .ok (.ireturn, 1) := by decide +kernel
theorem dX10_pageOf_0 : decode cX10_pageOf 0 = .ok (.aload_n 0, 1) := by decide +kernel
theorem dX10_pageOf_1 : decode cX10_pageOf 1 = .ok (.iload_n 1, 1) := by decide +kernel
theorem dX10_pageOf_2 : decode cX10_pageOf 2 = .ok (.invokevirtual 107, 3) := by decide +kernel
theorem dX10_pageOf_5 : decode cX10_pageOf 5 = .ok (.ifCond .eq 7, 3) := by decide +kernel
theorem dX10_pageOf_8 : decode cX10_pageOf 8 = .ok (.iconst 0, 1) := by decide +kernel
theorem dX10_pageOf_9 : decode cX10_pageOf 9 = .ok (.goto 9, 3) := by decide +kernel
theorem dX10_pageOf_12 : decode cX10_pageOf 12 = .ok (.aload_n 0, 1) := by decide +kernel
theorem dX10_pageOf_13 : decode cX10_pageOf 13 = .ok (.iload_n 1, 1) := by decide +kernel
theorem dX10_pageOf_14 : decode cX10_pageOf 14 = .ok (.iconst 0, 1) := by decide +kernel
theorem dX10_pageOf_15 : decode cX10_pageOf 15 = .ok (.invokevirtual 73, 3) := by decide +kernel
theorem dX10_pageOf_18 : decode cX10_pageOf 18 = .ok (.ireturn, 1) := by decide +kernel
theorem dX10_weightOf_0 : decode cX10_weightOf 0 = .ok (.aload_n 0, 1) := by decide +kernel
theorem dX10_weightOf_1 : decode cX10_weightOf 1 = .ok (.iload_n 1, 1) := by decide +kernel
theorem dX10_weightOf_2 : decode cX10_weightOf 2 = .ok (.invokevirtual 107, 3) := by decide +kernel
theorem dX10_weightOf_5 : decode cX10_weightOf 5 = .ok (.ifCond .eq 7, 3) := by decide +kernel
theorem dX10_weightOf_8 : decode cX10_weightOf 8 = .ok (.iconst 0, 1) := by decide +kernel
theorem dX10_weightOf_9 : decode cX10_weightOf 9 = .ok (.goto 9, 3) := by decide +kernel
theorem dX10_weightOf_12 : decode cX10_weightOf 12 = .ok (.aload_n 0, 1) := by decide +kernel
theorem dX10_weightOf_13 : decode cX10_weightOf 13 = .ok (.iload_n 1, 1) := by decide +kernel
theorem dX10_weightOf_14 : decode cX10_weightOf 14 = .ok (.iconst 1, 1) := by decide +kernel
theorem dX10_weightOf_15 : decode cX10_weightOf 15 = .ok (.invokevirtual 73, 3) := by decide +kernel
theorem dX10_weightOf_18 : decode cX10_weightOf 18 = .ok (.ireturn, 1) := by decide +kernel
theorem dX10_sign_0 : decode cX10_sign 0 = .ok (.aload_n 0, 1) := by decide +kernel
theorem dX10_sign_1 : decode cX10_sign 1 = .ok (.iload_n 1, 1) := by decide +kernel
theorem dX10_sign_2 : decode cX10_sign 2 = .ok (.iconst 2, 1) := by decide +kernel
theorem dX10_sign_3 : decode cX10_sign 3 = .ok (.invokevirtual 73, 3) := by decide +kernel
theorem dX10_sign_6 : decode cX10_sign 6 = .ok (.ifCond .ne 8, 3) := by decide +kernel
theorem dX10_sign_9 : decode cX10_sign 9 = .ok (.bipush 102, 2) := by decide +kernel
theorem dX10_sign_11 : decode cX10_sign 11 = .ok (.goto 20, 3) := by decide +kernel
theorem dX10_sign_14 : decode cX10_sign 14 = .ok (.aload_n 0, 1) := by decide +kernel
theorem dX10_sign_15 : decode cX10_sign 15 = .ok (.iload_n 1, 1) := by decide +kernel
theorem dX10_sign_16 : decode cX10_sign 16 = .ok (.iconst 2, 1) := by decide +kernel
theorem dX10_sign_17 : decode cX10_sign 17 = .ok (.invokevirtual 73, 3) := by decide +kernel
theorem dX10_sign_20 : decode cX10_sign 20 = .ok (.iconst 1, 1) := by decide +kernel
theorem dX10_sign_21 : decode cX10_sign 21 = .ok (.if_icmp .ne 8, 3) := by decide +kernel
theorem dX10_sign_24 : decode cX10_sign 24 = .ok (.bipush 104, 2) := by decide +kernel
theorem dX10_sign_26 : decode cX10_sign 26 = .ok (.goto 5, 3) := by decide +kernel
theorem dX10_sign_29 : decode cX10_sign 29 = .ok (.bipush 108, 2) := by decide +kernel
theorem dX10_sign_31 : decode cX10_sign 31 = .ok (.ireturn, 1) := by decide +kernel
theorem dX10_stateOf_0 : decode cX10_stateOf 0 = .ok (.aload_n 0, 1) := by decide +kernel
theorem dX10_stateOf_1 : decode cX10_stateOf 1 = .ok (.iload_n 1, 1) := by decide +kernel
theorem dX10_stateOf_2 : decode cX10_stateOf 2 = .ok (.invokevirtual 107, 3) := by decide +kernel
theorem dX10_stateOf_5 : decode cX10_stateOf 5 = .ok (.ifCond .eq 8, 3) := by decide +kernel
theorem dX10_stateOf_8 : decode cX10_stateOf 8 = .ok (.bipush 32, 2) := by decide +kernel
theorem dX10_stateOf_10 : decode cX10_stateOf 10 = .ok (.goto 8, 3) := by decide +kernel
theorem dX10_stateOf_13 : decode cX10_stateOf 13 = .ok (.aload_n 0, 1) := by decide +kernel
theorem dX10_stateOf_14 : decode cX10_stateOf 14 = .ok (.iload_n 1, 1) := by decide +kernel
theorem dX10_stateOf_15 : decode cX10_stateOf 15 = .ok (.invokevirtual 110, 3) := by decide +kernel
theorem dX10_stateOf_18 : decode cX10_stateOf 18 = .ok (.ireturn, 1) := by decide +kernel
theorem dX10_cited_0 : decode cX10_cited 0 = .ok (.iconst 0, 1) := by decide +kernel
theorem dX10_cited_1 : decode cX10_cited 1 = .ok (.istore_n 2, 1) := by decide +kernel
theorem dX10_cited_2 : decode cX10_cited 2 = .ok (.iconst 0, 1) := by decide +kernel
theorem dX10_cited_3 : decode cX10_cited 3 = .ok (.istore_n 3, 1) := by decide +kernel
theorem dX10_cited_4 : decode cX10_cited 4 = .ok (.iload_n 3, 1) := by decide +kernel
theorem dX10_cited_5 : decode cX10_cited 5 = .ok (.aload_n 0, 1) := by decide +kernel
theorem dX10_cited_6 : decode cX10_cited 6 = .ok (.getfield 7, 3) := by decide +kernel
theorem dX10_cited_9 : decode cX10_cited 9 = .ok (.iconst 0, 1) := by decide +kernel
theorem dX10_cited_10 : decode cX10_cited 10 = .ok (.iaload, 1) := by decide +kernel
theorem dX10_cited_11 : decode cX10_cited 11 = .ok (.if_icmp .ge 22, 3) := by decide +kernel
theorem dX10_cited_14 : decode cX10_cited 14 = .ok (.iload_n 2, 1) := by decide +kernel
theorem dX10_cited_15 : decode cX10_cited 15 = .ok (.aload_n 0, 1) := by decide +kernel
theorem dX10_cited_16 : decode cX10_cited 16 = .ok (.iload_n 3, 1) := by decide +kernel
theorem dX10_cited_17 : decode cX10_cited 17 = .ok (.iconst 3, 1) := by decide +kernel
theorem dX10_cited_18 : decode cX10_cited 18 = .ok (.invokevirtual 73, 3) := by decide +kernel
theorem dX10_cited_21 : decode cX10_cited 21 = .ok (.iload_n 1, 1) := by decide +kernel
theorem dX10_cited_22 : decode cX10_cited 22 = .ok (.ishr, 1) := by decide +kernel
theorem dX10_cited_23 : decode cX10_cited 23 = .ok (.iconst 1, 1) := by decide +kernel
theorem dX10_cited_24 : decode cX10_cited 24 = .ok (.iand, 1) := by decide +kernel
theorem dX10_cited_25 : decode cX10_cited 25 = .ok (.iadd, 1) := by decide +kernel
theorem dX10_cited_26 : decode cX10_cited 26 = .ok (.istore_n 2, 1) := by decide +kernel
theorem dX10_cited_27 : decode cX10_cited 27 = .ok (.iinc 3 1, 3) := by decide +kernel
theorem dX10_cited_30 : decode cX10_cited 30 = .ok (.goto (-26), 3) := by decide +kernel
theorem dX10_cited_33 : decode cX10_cited 33 = .ok (.iload_n 2, 1) := by decide +kernel
theorem dX10_cited_34 : decode cX10_cited 34 = .ok (.ireturn, 1) := by decide +kernel
theorem dX10_citedBy_0 : decode cX10_citedBy 0 = .ok (.aload_n 0, 1) := by decide +kernel
theorem dX10_citedBy_1 : decode cX10_citedBy 1 = .ok (.iload_n 1, 1) := by decide +kernel
theorem dX10_citedBy_2 : decode cX10_citedBy 2 = .ok (.invokevirtual 107, 3) := by decide +kernel
theorem dX10_citedBy_5 : decode cX10_citedBy 5 = .ok (.ifCond .eq 7, 3) := by decide +kernel
theorem dX10_citedBy_8 : decode cX10_citedBy 8 = .ok (.iconst 0, 1) := by decide +kernel
theorem dX10_citedBy_9 : decode cX10_citedBy 9 = .ok (.goto 8, 3) := by decide +kernel
theorem dX10_citedBy_12 : decode cX10_citedBy 12 = .ok (.aload_n 0, 1) := by decide +kernel
theorem dX10_citedBy_13 : decode cX10_citedBy 13 = .ok (.iload_n 1, 1) := by decide +kernel
theorem dX10_citedBy_14 : decode cX10_citedBy 14 = .ok (.invokevirtual 114, 3) := by decide +kernel
theorem dX10_citedBy_17 : decode cX10_citedBy 17 = .ok (.ireturn, 1) := by decide +kernel
theorem dX10_doesCite_0 : decode cX10_doesCite 0 = .ok (.aload_n 0, 1) := by decide +kernel
theorem dX10_doesCite_1 : decode cX10_doesCite 1 = .ok (.iload_n 1, 1) := by decide +kernel
theorem dX10_doesCite_2 : decode cX10_doesCite 2 = .ok (.iload_n 2, 1) := by decide +kernel
theorem dX10_doesCite_3 : decode cX10_doesCite 3 = .ok (.invokevirtual 92, 3) := by decide +kernel
theorem dX10_doesCite_6 : decode cX10_doesCite 6 = .ok (.ifCond .ne 16, 3) := by decide +kernel
theorem dX10_doesCite_9 : decode cX10_doesCite 9 = .ok (.aload_n 0, 1) := by decide +kernel
theorem dX10_doesCite_10 : decode cX10_doesCite 10 = .ok (.iload_n 1, 1) := by decide +kernel
theorem dX10_doesCite_11 : decode cX10_doesCite 11 = .ok (.iload_n 2, 1) := by decide +kernel
theorem dX10_doesCite_12 : decode cX10_doesCite 12 = .ok (.invokevirtual 96, 3) := by decide +kernel
theorem dX10_doesCite_15 : decode cX10_doesCite 15 = .ok (.ifCond .eq 7, 3) := by decide +kernel
theorem dX10_doesCite_18 : decode cX10_doesCite 18 = .ok (.iconst 1, 1) := by decide +kernel
theorem dX10_doesCite_19 : decode cX10_doesCite 19 = .ok (.goto 4, 3) := by decide +kernel
theorem dX10_doesCite_22 : decode cX10_doesCite 22 = .ok (.iconst 0, 1) := by decide +kernel
theorem dX10_doesCite_23 : decode cX10_doesCite 23 = .ok (.ireturn, 1) := by decide +kernel
theorem dX10_reached_0 : decode cX10_reached 0 = .ok (.aload_n 0, 1) := by decide +kernel
theorem dX10_reached_1 : decode cX10_reached 1 = .ok (.iload_n 1, 1) := by decide +kernel
theorem dX10_reached_2 : decode cX10_reached 2 = .ok (.iconst 3, 1) := by decide +kernel
theorem dX10_reached_3 : decode cX10_reached 3 = .ok (.invokevirtual 73, 3) := by decide +kernel
theorem dX10_reached_6 : decode cX10_reached 6 = .ok (.istore_n 2, 1) := by decide +kernel
theorem dX10_reached_7 : decode cX10_reached 7 = .ok (.iconst (-1), 1) := by decide +kernel
theorem dX10_reached_8 : decode cX10_reached 8 = .ok (.istore_n 3, 1) := by decide +kernel
theorem dX10_reached_9 : decode cX10_reached 9 = .ok (.iload_n 2, 1) := by decide +kernel
theorem dX10_reached_10 : decode cX10_reached 10 = .ok (.iload_n 3, 1) := by decide +kernel
theorem dX10_reached_11 : decode cX10_reached 11 = .ok (.if_icmp .eq 48, 3) := by decide +kernel
theorem dX10_reached_14 : decode cX10_reached 14 = .ok (.iload_n 2, 1) := by decide +kernel
theorem dX10_reached_15 : decode cX10_reached 15 = .ok (.istore_n 3, 1) := by decide +kernel
theorem dX10_reached_16 : decode cX10_reached 16 = .ok (.iconst 0, 1) := by decide +kernel
theorem dX10_reached_17 : decode cX10_reached 17 = .ok (.istore 4, 2) := by decide +kernel
theorem dX10_reached_19 : decode cX10_reached 19 = .ok (.iload 4, 2) := by decide +kernel
theorem dX10_reached_21 : decode cX10_reached 21 = .ok (.aload_n 0, 1) := by decide +kernel
theorem dX10_reached_22 : decode cX10_reached 22 = .ok (.getfield 7, 3) := by decide +kernel
theorem dX10_reached_25 : decode cX10_reached 25 = .ok (.iconst 0, 1) := by decide +kernel
theorem dX10_reached_26 : decode cX10_reached 26 = .ok (.iaload, 1) := by decide +kernel
theorem dX10_reached_27 : decode cX10_reached 27 = .ok (.if_icmp .ge 29, 3) := by decide +kernel
theorem dX10_reached_30 : decode cX10_reached 30 = .ok (.iload_n 3, 1) := by decide +kernel
theorem dX10_reached_31 : decode cX10_reached 31 = .ok (.iload 4, 2) := by decide +kernel
theorem dX10_reached_33 : decode cX10_reached 33 = .ok (.ishr, 1) := by decide +kernel
theorem dX10_reached_34 : decode cX10_reached 34 = .ok (.iconst 1, 1) := by decide +kernel
theorem dX10_reached_35 : decode cX10_reached 35 = .ok (.iand, 1) := by decide +kernel
theorem dX10_reached_36 : decode cX10_reached 36 = .ok (.iconst 1, 1) := by decide +kernel
theorem dX10_reached_37 : decode cX10_reached 37 = .ok (.if_icmp .ne 13, 3) := by decide +kernel
theorem dX10_reached_40 : decode cX10_reached 40 = .ok (.iload_n 2, 1) := by decide +kernel
theorem dX10_reached_41 : decode cX10_reached 41 = .ok (.aload_n 0, 1) := by decide +kernel
theorem dX10_reached_42 : decode cX10_reached 42 = .ok (.iload 4, 2) := by decide +kernel
theorem dX10_reached_44 : decode cX10_reached 44 = .ok (.iconst 3, 1) := by decide +kernel
theorem dX10_reached_45 : decode cX10_reached 45 = .ok (.invokevirtual 73, 3) := by decide +kernel
theorem dX10_reached_48 : decode cX10_reached 48 = .ok (.ior, 1) := by decide +kernel
theorem dX10_reached_49 : decode cX10_reached 49 = .ok (.istore_n 2, 1) := by decide +kernel
theorem dX10_reached_50 : decode cX10_reached 50 = .ok (.iinc 4 1, 3) := by decide +kernel
theorem dX10_reached_53 : decode cX10_reached 53 = .ok (.goto (-34), 3) := by decide +kernel
theorem dX10_reached_56 : decode cX10_reached 56 = .ok (.goto (-47), 3) := by decide +kernel
theorem dX10_reached_59 : decode cX10_reached 59 = .ok (.iload_n 2, 1) := by decide +kernel
theorem dX10_reached_60 : decode cX10_reached 60 = .ok (.ireturn, 1) := by decide +kernel
theorem dX10_reaches_0 : decode cX10_reaches 0 = .ok (.aload_n 0, 1) := by decide +kernel
theorem dX10_reaches_1 : decode cX10_reaches 1 = .ok (.iload_n 1, 1) := by decide +kernel
theorem dX10_reaches_2 : decode cX10_reaches 2 = .ok (.iload_n 2, 1) := by decide +kernel
theorem dX10_reaches_3 : decode cX10_reaches 3 = .ok (.invokevirtual 92, 3) := by decide +kernel
theorem dX10_reaches_6 : decode cX10_reaches 6 = .ok (.ifCond .ne 20, 3) := by decide +kernel
theorem dX10_reaches_9 : decode cX10_reaches 9 = .ok (.aload_n 0, 1) := by decide +kernel
theorem dX10_reaches_10 : decode cX10_reaches 10 = .ok (.iload_n 1, 1) := by decide +kernel
theorem dX10_reaches_11 : decode cX10_reaches 11 = .ok (.invokevirtual 117, 3) := by decide +kernel
theorem dX10_reaches_14 : decode cX10_reaches 14 = .ok (.iload_n 2, 1) := by decide +kernel
theorem dX10_reaches_15 : decode cX10_reaches 15 = .ok (.ishr, 1) := by decide +kernel
theorem dX10_reaches_16 : decode cX10_reaches 16 = .ok (.iconst 1, 1) := by decide +kernel
theorem dX10_reaches_17 : decode cX10_reaches 17 = .ok (.iand, 1) := by decide +kernel
theorem dX10_reaches_18 : decode cX10_reaches 18 = .ok (.iconst 1, 1) := by decide +kernel
theorem dX10_reaches_19 : decode cX10_reaches 19 = .ok (.if_icmp .ne 7, 3) := by decide +kernel
theorem dX10_reaches_22 : decode cX10_reaches 22 = .ok (.iconst 1, 1) := by decide +kernel
theorem dX10_reaches_23 : decode cX10_reaches 23 = .ok (.goto 4, 3) := by decide +kernel
theorem dX10_reaches_26 : decode cX10_reaches 26 = .ok (.iconst 0, 1) := by decide +kernel
theorem dX10_reaches_27 : decode cX10_reaches 27 = .ok (.ireturn, 1) := by decide +kernel
theorem dX10_circle_0 : decode cX10_circle 0 = .ok (.iconst 1, 1) := by decide +kernel
theorem dX10_circle_1 : decode cX10_circle 1 = .ok (.iload_n 1, 1) := by decide +kernel
theorem dX10_circle_2 : decode cX10_circle 2 = .ok (.ishl, 1) := by decide +kernel
theorem dX10_circle_3 : decode cX10_circle 3 = .ok (.istore_n 2, 1) := by decide +kernel
theorem dX10_circle_4 : decode cX10_circle 4 = .ok (.iconst 0, 1) := by decide +kernel
theorem dX10_circle_5 : decode cX10_circle 5 = .ok (.istore_n 3, 1) := by decide +kernel
theorem dX10_circle_6 : decode cX10_circle 6 = .ok (.iload_n 3, 1) := by decide +kernel
theorem dX10_circle_7 : decode cX10_circle 7 = .ok (.aload_n 0, 1) := by decide +kernel
theorem dX10_circle_8 : decode cX10_circle 8 = .ok (.getfield 7, 3) := by decide +kernel
theorem dX10_circle_11 : decode cX10_circle 11 = .ok (.iconst 0, 1) := by decide +kernel
theorem dX10_circle_12 : decode cX10_circle 12 = .ok (.iaload, 1) := by decide +kernel
theorem dX10_circle_13 : decode cX10_circle 13 = .ok (.if_icmp .ge 41, 3) := by decide +kernel
theorem dX10_circle_16 : decode cX10_circle 16 = .ok (.aload_n 0, 1) := by decide +kernel
theorem dX10_circle_17 : decode cX10_circle 17 = .ok (.iload_n 1, 1) := by decide +kernel
theorem dX10_circle_18 : decode cX10_circle 18 = .ok (.invokevirtual 117, 3) := by decide +kernel
theorem dX10_circle_21 : decode cX10_circle 21 = .ok (.iload_n 3, 1) := by decide +kernel
theorem dX10_circle_22 : decode cX10_circle 22 = .ok (.ishr, 1) := by decide +kernel
theorem dX10_circle_23 : decode cX10_circle 23 = .ok (.iconst 1, 1) := by decide +kernel
theorem dX10_circle_24 : decode cX10_circle 24 = .ok (.iand, 1) := by decide +kernel
theorem dX10_circle_25 : decode cX10_circle 25 = .ok (.iconst 1, 1) := by decide +kernel
theorem dX10_circle_26 : decode cX10_circle 26 = .ok (.if_icmp .ne 22, 3) := by decide +kernel
theorem dX10_circle_29 : decode cX10_circle 29 = .ok (.aload_n 0, 1) := by decide +kernel
theorem dX10_circle_30 : decode cX10_circle 30 = .ok (.iload_n 3, 1) := by decide +kernel
theorem dX10_circle_31 : decode cX10_circle 31 = .ok (.invokevirtual 117, 3) := by decide +kernel
theorem dX10_circle_34 : decode cX10_circle 34 = .ok (.iload_n 1, 1) := by decide +kernel
theorem dX10_circle_35 : decode cX10_circle 35 = .ok (.ishr, 1) := by decide +kernel
theorem dX10_circle_36 : decode cX10_circle 36 = .ok (.iconst 1, 1) := by decide +kernel
theorem dX10_circle_37 : decode cX10_circle 37 = .ok (.iand, 1) := by decide +kernel
theorem dX10_circle_38 : decode cX10_circle 38 = .ok (.iconst 1, 1) := by decide +kernel
theorem dX10_circle_39 : decode cX10_circle 39 = .ok (.if_icmp .ne 9, 3) := by decide +kernel
theorem dX10_circle_42 : decode cX10_circle 42 = .ok (.iload_n 2, 1) := by decide +kernel
theorem dX10_circle_43 : decode cX10_circle 43 = .ok (.iconst 1, 1) := by decide +kernel
theorem dX10_circle_44 : decode cX10_circle 44 = .ok (.iload_n 3, 1) := by decide +kernel
theorem dX10_circle_45 : decode cX10_circle 45 = .ok (.ishl, 1) := by decide +kernel
theorem dX10_circle_46 : decode cX10_circle 46 = .ok (.ior, 1) := by decide +kernel
theorem dX10_circle_47 : decode cX10_circle 47 = .ok (.istore_n 2, 1) := by decide +kernel
theorem dX10_circle_48 : decode cX10_circle 48 = .ok (.iinc 3 1, 3) := by decide +kernel
theorem dX10_circle_51 : decode cX10_circle 51 = .ok (.goto (-45), 3) := by decide +kernel
theorem dX10_circle_54 : decode cX10_circle 54 = .ok (.iload_n 2, 1) := by decide +kernel
theorem dX10_circle_55 : decode cX10_circle 55 = .ok (.ireturn, 1) := by decide +kernel
theorem dX10_rounds_0 : decode cX10_rounds 0 = .ok (.iconst 0, 1) := by decide +kernel
theorem dX10_rounds_1 : decode cX10_rounds 1 = .ok (.istore_n 1, 1) := by decide +kernel
theorem dX10_rounds_2 : decode cX10_rounds 2 = .ok (.iconst 0, 1) := by decide +kernel
theorem dX10_rounds_3 : decode cX10_rounds 3 = .ok (.istore_n 2, 1) := by decide +kernel
theorem dX10_rounds_4 : decode cX10_rounds 4 = .ok (.iload_n 2, 1) := by decide +kernel
theorem dX10_rounds_5 : decode cX10_rounds 5 = .ok (.aload_n 0, 1) := by decide +kernel
theorem dX10_rounds_6 : decode cX10_rounds 6 = .ok (.getfield 7, 3) := by decide +kernel
theorem dX10_rounds_9 : decode cX10_rounds 9 = .ok (.iconst 0, 1) := by decide +kernel
theorem dX10_rounds_10 : decode cX10_rounds 10 = .ok (.iaload, 1) := by decide +kernel
theorem dX10_rounds_11 : decode cX10_rounds 11 = .ok (.if_icmp .ge 43, 3) := by decide +kernel
theorem dX10_rounds_14 : decode cX10_rounds 14 = .ok (.iload_n 1, 1) := by decide +kernel
theorem dX10_rounds_15 : decode cX10_rounds 15 = .ok (.aload_n 0, 1) := by decide +kernel
theorem dX10_rounds_16 : decode cX10_rounds 16 = .ok (.iload_n 2, 1) := by decide +kernel
theorem dX10_rounds_17 : decode cX10_rounds 17 = .ok (.invokevirtual 120, 3) := by decide +kernel
theorem dX10_rounds_20 : decode cX10_rounds 20 = .ok (.invokestatic 99, 3) := by decide +kernel
theorem dX10_rounds_23 : decode cX10_rounds 23 = .ok (.iconst 1, 1) := by decide +kernel
theorem dX10_rounds_24 : decode cX10_rounds 24 = .ok (.if_icmp .le 21, 3) := by decide +kernel
theorem dX10_rounds_27 : decode cX10_rounds 27 = .ok (.aload_n 0, 1) := by decide +kernel
theorem dX10_rounds_28 : decode cX10_rounds 28 = .ok (.iload_n 2, 1) := by decide +kernel
theorem dX10_rounds_29 : decode cX10_rounds 29 = .ok (.invokevirtual 120, 3) := by decide +kernel
theorem dX10_rounds_32 : decode cX10_rounds 32 = .ok (.iconst 1, 1) := by decide +kernel
theorem dX10_rounds_33 : decode cX10_rounds 33 = .ok (.iload_n 2, 1) := by decide +kernel
theorem dX10_rounds_34 : decode cX10_rounds 34 = .ok (.ishl, 1) := by decide +kernel
theorem dX10_rounds_35 : decode cX10_rounds 35 = .ok (.iconst 1, 1) := by decide +kernel
theorem dX10_rounds_36 : decode cX10_rounds 36 = .ok (.isub, 1) := by decide +kernel
theorem dX10_rounds_37 : decode cX10_rounds 37 = .ok (.iand, 1) := by decide +kernel
theorem dX10_rounds_38 : decode cX10_rounds 38 = .ok (.ifCond .ne 7, 3) := by decide +kernel
theorem dX10_rounds_41 : decode cX10_rounds 41 = .ok (.iconst 1, 1) := by decide +kernel
theorem dX10_rounds_42 : decode cX10_rounds 42 = .ok (.goto 4, 3) := by decide +kernel
theorem dX10_rounds_45 : decode cX10_rounds 45 = .ok (.iconst 0, 1) := by decide +kernel
theorem dX10_rounds_46 : decode cX10_rounds 46 = .ok (.iadd, 1) := by decide +kernel
theorem dX10_rounds_47 : decode cX10_rounds 47 = .ok (.istore_n 1, 1) := by decide +kernel
theorem dX10_rounds_48 : decode cX10_rounds 48 = .ok (.iinc 2 1, 3) := by decide +kernel
theorem dX10_rounds_51 : decode cX10_rounds 51 = .ok (.goto (-47), 3) := by decide +kernel
theorem dX10_rounds_54 : decode cX10_rounds 54 = .ok (.iload_n 1, 1) := by decide +kernel
theorem dX10_rounds_55 : decode cX10_rounds 55 = .ok (.ireturn, 1) := by decide +kernel
theorem dX10_circles_0 : decode cX10_circles 0 = .ok (.aload_n 0, 1) := by decide +kernel
theorem dX10_circles_1 : decode cX10_circles 1 = .ok (.iconst 0, 1) := by decide +kernel
theorem dX10_circles_2 : decode cX10_circles 2 = .ok (.putfield 36, 3) := by decide +kernel
theorem dX10_circles_5 : decode cX10_circles 5 = .ok (.aload_n 0, 1) := by decide +kernel
theorem dX10_circles_6 : decode cX10_circles 6 = .ok (.invokevirtual 123, 3) := by decide +kernel
theorem dX10_circles_9 : decode cX10_circles 9 = .ok (.ireturn, 1) := by decide +kernel
theorem dX10_circlesByTable_0 : decode cX10_circlesByTable 0 = .ok (.aload_n 0, 1) := by decide +kernel
theorem dX10_circlesByTable_1 : decode cX10_circlesByTable 1 = .ok (.iconst 0, 1) := by decide +kernel
theorem dX10_circlesByTable_2 : decode cX10_circlesByTable 2 = .ok (.putfield 36, 3) := by decide +kernel
theorem dX10_circlesByTable_5 : decode cX10_circlesByTable 5 = .ok (.aload_n 0, 1) := by decide +kernel
theorem dX10_circlesByTable_6 : decode cX10_circlesByTable 6 = .ok (.invokevirtual 123, 3) := by decide +kernel
theorem dX10_circlesByTable_9 : decode cX10_circlesByTable 9 = .ok (.ireturn, 1) := by decide +kernel
theorem dX10_circleSize_0 : decode cX10_circleSize 0 = .ok (.aload_n 0, 1) := by decide +kernel
theorem dX10_circleSize_1 : decode cX10_circleSize 1 = .ok (.iload_n 1, 1) := by decide +kernel
theorem dX10_circleSize_2 : decode cX10_circleSize 2 = .ok (.invokevirtual 107, 3) := by decide +kernel
theorem dX10_circleSize_5 : decode cX10_circleSize 5 = .ok (.ifCond .eq 7, 3) := by decide +kernel
theorem dX10_circleSize_8 : decode cX10_circleSize 8 = .ok (.iconst 0, 1) := by decide +kernel
theorem dX10_circleSize_9 : decode cX10_circleSize 9 = .ok (.goto 11, 3) := by decide +kernel
theorem dX10_circleSize_12 : decode cX10_circleSize 12 = .ok (.aload_n 0, 1) := by decide +kernel
theorem dX10_circleSize_13 : decode cX10_circleSize 13 = .ok (.iload_n 1, 1) := by decide +kernel
theorem dX10_circleSize_14 : decode cX10_circleSize 14 = .ok (.invokevirtual 120, 3) := by decide +kernel
theorem dX10_circleSize_17 : decode cX10_circleSize 17 = .ok (.invokestatic 99, 3) := by decide +kernel
theorem dX10_circleSize_20 : decode cX10_circleSize 20 = .ok (.ireturn, 1) := by decide +kernel
theorem dX10_indexNow_0 : decode cX10_indexNow 0 = .ok (.iconst 0, 1) := by decide +kernel
theorem dX10_indexNow_1 : decode cX10_indexNow 1 = .ok (.istore_n 1, 1) := by decide +kernel
theorem dX10_indexNow_2 : decode cX10_indexNow 2 = .ok (.iload_n 1, 1) := by decide +kernel
theorem dX10_indexNow_3 : decode cX10_indexNow 3 = .ok (.aload_n 0, 1) := by decide +kernel
theorem dX10_indexNow_4 : decode cX10_indexNow 4 = .ok (.getfield 7, 3) := by decide +kernel
theorem dX10_indexNow_7 : decode cX10_indexNow 7 = .ok (.iconst 0, 1) := by decide +kernel
theorem dX10_indexNow_8 : decode cX10_indexNow 8 = .ok (.iaload, 1) := by decide +kernel
theorem dX10_indexNow_9 : decode cX10_indexNow 9 = .ok (.if_icmp .ge 53, 3) := by decide +kernel
theorem dX10_indexNow_12 : decode cX10_indexNow 12 = .ok (.iconst 0, 1) := by decide +kernel
theorem dX10_indexNow_13 : decode cX10_indexNow 13 = .ok (.istore_n 2, 1) := by decide +kernel
theorem dX10_indexNow_14 : decode cX10_indexNow 14 = .ok (.iconst 0, 1) := by decide +kernel
theorem dX10_indexNow_15 : decode cX10_indexNow 15 = .ok (.istore_n 3, 1) := by decide +kernel
theorem dX10_indexNow_16 : decode cX10_indexNow 16 = .ok (.iload_n 3, 1) := by decide +kernel
theorem dX10_indexNow_17 : decode cX10_indexNow 17 = .ok (.aload_n 0, 1) := by decide +kernel
theorem dX10_indexNow_18 : decode cX10_indexNow 18 = .ok (.getfield 7, 3) := by decide +kernel
theorem dX10_indexNow_21 : decode cX10_indexNow 21 = .ok (.iconst 0, 1) := by decide +kernel
theorem dX10_indexNow_22 : decode cX10_indexNow 22 = .ok (.iaload, 1) := by decide +kernel
theorem dX10_indexNow_23 : decode cX10_indexNow 23 = .ok (.if_icmp .ge 26, 3) := by decide +kernel
theorem dX10_indexNow_26 : decode cX10_indexNow 26 = .ok (.iload_n 2, 1) := by decide +kernel
theorem dX10_indexNow_27 : decode cX10_indexNow 27 = .ok (.aload_n 0, 1) := by decide +kernel
theorem dX10_indexNow_28 : decode cX10_indexNow 28 = .ok (.iload_n 3, 1) := by decide +kernel
theorem dX10_indexNow_29 : decode cX10_indexNow 29 = .ok (.invokevirtual 114, 3) := by decide +kernel
theorem dX10_indexNow_32 : decode cX10_indexNow 32 = .ok (.iload_n 1, 1) := by decide +kernel
theorem dX10_indexNow_33 : decode cX10_indexNow 33 = .ok (.if_icmp .le 7, 3) := by decide +kernel
theorem dX10_indexNow_36 : decode cX10_indexNow 36 = .ok (.iconst 1, 1) := by decide +kernel
theorem dX10_indexNow_37 : decode cX10_indexNow 37 = .ok (.goto 4, 3) := by decide +kernel
theorem dX10_indexNow_40 : decode cX10_indexNow 40 = .ok (.iconst 0, 1) := by decide +kernel
theorem dX10_indexNow_41 : decode cX10_indexNow 41 = .ok (.iadd, 1) := by decide +kernel
theorem dX10_indexNow_42 : decode cX10_indexNow 42 = .ok (.istore_n 2, 1) := by decide +kernel
theorem dX10_indexNow_43 : decode cX10_indexNow 43 = .ok (.iinc 3 1, 3) := by decide +kernel
