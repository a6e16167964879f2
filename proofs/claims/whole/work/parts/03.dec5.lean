theorem dX10_pass_33 : decode cX10_pass 33 = .ok (.istore_n 2, 1) := by decide +kernel
theorem dX10_pass_34 : decode cX10_pass 34 = .ok (.iconst 0, 1) := by decide +kernel
theorem dX10_pass_35 : decode cX10_pass 35 = .ok (.istore_n 3, 1) := by decide +kernel
theorem dX10_pass_36 : decode cX10_pass 36 = .ok (.iload_n 3, 1) := by decide +kernel
theorem dX10_pass_37 : decode cX10_pass 37 = .ok (.iload_n 1, 1) := by decide +kernel
theorem dX10_pass_38 : decode cX10_pass 38 = .ok (.if_icmp .ge 16, 3) := by decide +kernel
theorem dX10_pass_41 : decode cX10_pass 41 = .ok (.iload_n 2, 1) := by decide +kernel
theorem dX10_pass_42 : decode cX10_pass 42 = .ok (.aload_n 0, 1) := by decide +kernel
theorem dX10_pass_43 : decode cX10_pass 43 = .ok (.invokevirtual 172, 3) := by decide +kernel
theorem dX10_pass_46 : decode cX10_pass 46 = .ok (.iadd, 1) := by decide +kernel
theorem dX10_pass_47 : decode cX10_pass 47 = .ok (.istore_n 2, 1) := by decide +kernel
theorem dX10_pass_48 : decode cX10_pass 48 = .ok (.iinc 3 1, 3) := by decide +kernel
theorem dX10_pass_51 : decode cX10_pass 51 = .ok (.goto (-15), 3) := by decide +kernel
theorem dX10_pass_54 : decode cX10_pass 54 = .ok (.iload_n 2, 1) := by decide +kernel
theorem dX10_pass_55 : decode cX10_pass 55 = .ok (.ireturn, 1) := by decide +kernel
theorem dX10_hasLicence_0 : decode cX10_hasLicence 0 = .ok (.aload_n 0, 1) := by decide +kernel
theorem dX10_hasLicence_1 : decode cX10_hasLicence 1 = .ok (.iconst 0, 1) := by decide +kernel
theorem dX10_hasLicence_2 : decode cX10_hasLicence 2 = .ok (.putfield 36, 3) := by decide +kernel
theorem dX10_hasLicence_5 : decode cX10_hasLicence 5 = .ok (.aload_n 0, 1) := by decide +kernel
theorem dX10_hasLicence_6 : decode cX10_hasLicence 6 = .ok (.getfield 7, 3) := by decide +kernel
theorem dX10_hasLicence_9 : decode cX10_hasLicence 9 = .ok (.iconst 3, 1) := by decide +kernel
theorem dX10_hasLicence_10 : decode cX10_hasLicence 10 = .ok (.iaload, 1) := by decide +kernel
theorem dX10_hasLicence_11 : decode cX10_hasLicence 11 = .ok (.iconst 1, 1) := by decide +kernel
theorem dX10_hasLicence_12 : decode cX10_hasLicence 12 = .ok (.if_icmp .ne 7, 3) := by decide +kernel
theorem dX10_hasLicence_15 : decode cX10_hasLicence 15 = .ok (.iconst 1, 1) := by decide +kernel
theorem dX10_hasLicence_16 : decode cX10_hasLicence 16 = .ok (.goto 4, 3) := by decide +kernel
theorem dX10_hasLicence_19 : decode cX10_hasLicence 19 = .ok (.iconst 0, 1) := by decide +kernel
theorem dX10_hasLicence_20 : decode cX10_hasLicence 20 = .ok (.ireturn, 1) := by decide +kernel
theorem dX10_day_0 : decode cX10_day 0 = .ok (.aload_n 0, 1) := by decide +kernel
theorem dX10_day_1 : decode cX10_day 1 = .ok (.iconst 0, 1) := by decide +kernel
theorem dX10_day_2 : decode cX10_day 2 = .ok (.putfield 36, 3) := by decide +kernel
theorem dX10_day_5 : decode cX10_day 5 = .ok (.aload_n 0, 1) := by decide +kernel
theorem dX10_day_6 : decode cX10_day 6 = .ok (.getfield 7, 3) := by decide +kernel
theorem dX10_day_9 : decode cX10_day 9 = .ok (.iconst 2, 1) := by decide +kernel
theorem dX10_day_10 : decode cX10_day 10 = .ok (.iaload, 1) := by decide +kernel
theorem dX10_day_11 : decode cX10_day 11 = .ok (.ireturn, 1) := by decide +kernel
theorem dX10_season_0 : decode cX10_season 0 = .ok (.aload_n 0, 1) := by decide +kernel
theorem dX10_season_1 : decode cX10_season 1 = .ok (.iconst 0, 1) := by decide +kernel
theorem dX10_season_2 : decode cX10_season 2 = .ok (.putfield 36, 3) := by decide +kernel
theorem dX10_season_5 : decode cX10_season 5 = .ok (.aload_n 0, 1) := by decide +kernel
theorem dX10_season_6 : decode cX10_season 6 = .ok (.invokevirtual 136, 3) := by decide +kernel
theorem dX10_season_9 : decode cX10_season 9 = .ok (.ireturn, 1) := by decide +kernel
theorem dX10_coins_0 : decode cX10_coins 0 = .ok (.aload_n 0, 1) := by decide +kernel
theorem dX10_coins_1 : decode cX10_coins 1 = .ok (.iconst 0, 1) := by decide +kernel
theorem dX10_coins_2 : decode cX10_coins 2 = .ok (.putfield 36, 3) := by decide +kernel
theorem dX10_coins_5 : decode cX10_coins 5 = .ok (.aload_n 0, 1) := by decide +kernel
theorem dX10_coins_6 : decode cX10_coins 6 = .ok (.getfield 7, 3) := by decide +kernel
theorem dX10_coins_9 : decode cX10_coins 9 = .ok (.iconst 4, 1) := by decide +kernel
theorem dX10_coins_10 : decode cX10_coins 10 = .ok (.iaload, 1) := by decide +kernel
theorem dX10_coins_11 : decode cX10_coins 11 = .ok (.ireturn, 1) := by decide +kernel
theorem dX10_caught_0 : decode cX10_caught 0 = .ok (.aload_n 0, 1) := by decide +kernel
theorem dX10_caught_1 : decode cX10_caught 1 = .ok (.iconst 0, 1) := by decide +kernel
theorem dX10_caught_2 : decode cX10_caught 2 = .ok (.putfield 36, 3) := by decide +kernel
theorem dX10_caught_5 : decode cX10_caught 5 = .ok (.aload_n 0, 1) := by decide +kernel
theorem dX10_caught_6 : decode cX10_caught 6 = .ok (.getfield 7, 3) := by decide +kernel
theorem dX10_caught_9 : decode cX10_caught 9 = .ok (.iconst 5, 1) := by decide +kernel
theorem dX10_caught_10 : decode cX10_caught 10 = .ok (.iaload, 1) := by decide +kernel
theorem dX10_caught_11 : decode cX10_caught 11 = .ok (.ireturn, 1) := by decide +kernel
theorem dX10_landed_0 : decode cX10_landed 0 = .ok (.aload_n 0, 1) := by decide +kernel
theorem dX10_landed_1 : decode cX10_landed 1 = .ok (.iconst 0, 1) := by decide +kernel
theorem dX10_landed_2 : decode cX10_landed 2 = .ok (.putfield 36, 3) := by decide +kernel
theorem dX10_landed_5 : decode cX10_landed 5 = .ok (.aload_n 0, 1) := by decide +kernel
theorem dX10_landed_6 : decode cX10_landed 6 = .ok (.getfield 7, 3) := by decide +kernel
theorem dX10_landed_9 : decode cX10_landed 9 = .ok (.bipush 6, 2) := by decide +kernel
theorem dX10_landed_11 : decode cX10_landed 11 = .ok (.iaload, 1) := by decide +kernel
theorem dX10_landed_12 : decode cX10_landed 12 = .ok (.ireturn, 1) := by decide +kernel
theorem dX10_returned_0 : decode cX10_returned 0 = .ok (.aload_n 0, 1) := by decide +kernel
theorem dX10_returned_1 : decode cX10_returned 1 = .ok (.iconst 0, 1) := by decide +kernel
theorem dX10_returned_2 : decode cX10_returned 2 = .ok (.putfield 36, 3) := by decide +kernel
theorem dX10_returned_5 : decode cX10_returned 5 = .ok (.aload_n 0, 1) := by decide +kernel
theorem dX10_returned_6 : decode cX10_returned 6 = .ok (.getfield 7, 3) := by decide +kernel
theorem dX10_returned_9 : decode cX10_returned 9 = .ok (.bipush 7, 2) := by decide +kernel
theorem dX10_returned_11 : decode cX10_returned 11 = .ok (.iaload, 1) := by decide +kernel
theorem dX10_returned_12 : decode cX10_returned 12 = .ok (.ireturn, 1) := by decide +kernel
theorem dX10_meanWeight_0 : decode cX10_meanWeight 0 = .ok (.aload_n 0, 1) := by decide +kernel
theorem dX10_meanWeight_1 : decode cX10_meanWeight 1 = .ok (.iconst 0, 1) := by decide +kernel
theorem dX10_meanWeight_2 : decode cX10_meanWeight 2 = .ok (.invokevirtual 142, 3) := by decide +kernel
theorem dX10_meanWeight_5 : decode cX10_meanWeight 5 = .ok (.istore_n 1, 1) := by decide +kernel
theorem dX10_meanWeight_6 : decode cX10_meanWeight 6 = .ok (.aload_n 0, 1) := by decide +kernel
theorem dX10_meanWeight_7 : decode cX10_meanWeight 7 = .ok (.iload_n 1, 1) := by decide +kernel
theorem dX10_meanWeight_8 : decode cX10_meanWeight 8 = .ok (.ifCond .ne 7, 3) := by decide +kernel
theorem dX10_meanWeight_11 : decode cX10_meanWeight 11 = .ok (.iconst 1, 1) := by decide +kernel
theorem dX10_meanWeight_12 : decode cX10_meanWeight 12 = .ok (.goto 4, 3) := by decide +kernel
theorem dX10_meanWeight_15 : decode cX10_meanWeight 15 = .ok (.iconst 0, 1) := by decide +kernel
theorem dX10_meanWeight_16 : decode cX10_meanWeight 16 = .ok (.invokevirtual 70, 3) := by decide +kernel
theorem dX10_meanWeight_19 : decode cX10_meanWeight 19 = .ok (.ifCond .eq 7, 3) := by decide +kernel
theorem dX10_meanWeight_22 : decode cX10_meanWeight 22 = .ok (.dconst 0, 1) := by decide +kernel
theorem dX10_meanWeight_23 : decode cX10_meanWeight 23 = .ok (.goto 15, 3) := by decide +kernel
theorem dX10_meanWeight_26 : decode cX10_meanWeight 26 = .ok (.aload_n 0, 1) := by decide +kernel
theorem dX10_meanWeight_27 : decode cX10_meanWeight 27 = .ok (.iload_n 1, 1) := by decide +kernel
theorem dX10_meanWeight_28 : decode cX10_meanWeight 28 = .ok (.invokevirtual 160, 3) := by decide +kernel
theorem dX10_meanWeight_31 : decode cX10_meanWeight 31 = .ok (.i2d, 1) := by decide +kernel
theorem dX10_meanWeight_32 : decode cX10_meanWeight 32 = .ok (.iload_n 1, 1) := by decide +kernel
theorem dX10_meanWeight_33 : decode cX10_meanWeight 33 = .ok (.invokestatic 99, 3) := by decide +kernel
theorem dX10_meanWeight_36 : decode cX10_meanWeight 36 = .ok (.i2d, 1) := by decide +kernel
theorem dX10_meanWeight_37 : decode cX10_meanWeight 37 = .ok (.ddiv, 1) := by decide +kernel
theorem dX10_meanWeight_38 : decode cX10_meanWeight 38 = .ok (.dreturn, 1) := by decide +kernel
theorem dX10_landedShare_0 : decode cX10_landedShare 0 = .ok (.aload_n 0, 1) := by decide +kernel
theorem dX10_landedShare_1 : decode cX10_landedShare 1 = .ok (.aload_n 0, 1) := by decide +kernel
theorem dX10_landedShare_2 : decode cX10_landedShare 2 = .ok (.getfield 7, 3) := by decide +kernel
theorem dX10_landedShare_5 : decode cX10_landedShare 5 = .ok (.iconst 0, 1) := by decide +kernel
theorem dX10_landedShare_6 : decode cX10_landedShare 6 = .ok (.iaload, 1) := by decide +kernel
theorem dX10_landedShare_7 : decode cX10_landedShare 7 = .ok (.ifCond .ne 7, 3) := by decide +kernel
theorem dX10_landedShare_10 : decode cX10_landedShare 10 = .ok (.iconst 1, 1) := by decide +kernel
theorem dX10_landedShare_11 : decode cX10_landedShare 11 = .ok (.goto 4, 3) := by decide +kernel
theorem dX10_landedShare_14 : decode cX10_landedShare 14 = .ok (.iconst 0, 1) := by decide +kernel
theorem dX10_landedShare_15 : decode cX10_landedShare 15 = .ok (.invokevirtual 70, 3) := by decide +kernel
theorem dX10_landedShare_18 : decode cX10_landedShare 18 = .ok (.ifCond .eq 7, 3) := by decide +kernel
theorem dX10_landedShare_21 : decode cX10_landedShare 21 = .ok (.fconst 0, 1) := by decide +kernel
theorem dX10_landedShare_22 : decode cX10_landedShare 22 = .ok (.goto 20, 3) := by decide +kernel
theorem dX10_landedShare_25 : decode cX10_landedShare 25 = .ok (.aload_n 0, 1) := by decide +kernel
theorem dX10_landedShare_26 : decode cX10_landedShare 26 = .ok (.iconst 2, 1) := by decide +kernel
theorem dX10_landedShare_27 : decode cX10_landedShare 27 = .ok (.invokevirtual 142, 3) := by decide +kernel
theorem dX10_landedShare_30 : decode cX10_landedShare 30 = .ok (.invokestatic 99, 3) := by decide +kernel
theorem dX10_landedShare_33 : decode cX10_landedShare 33 = .ok (.i2f, 1) := by decide +kernel
theorem dX10_landedShare_34 : decode cX10_landedShare 34 = .ok (.aload_n 0, 1) := by decide +kernel
theorem dX10_landedShare_35 : decode cX10_landedShare 35 = .ok (.getfield 7, 3) := by decide +kernel
theorem dX10_landedShare_38 : decode cX10_landedShare 38 = .ok (.iconst 0, 1) := by decide +kernel
theorem dX10_landedShare_39 : decode cX10_landedShare 39 = .ok (.iaload, 1) := by decide +kernel
theorem dX10_landedShare_40 : decode cX10_landedShare 40 = .ok (.i2f, 1) := by decide +kernel
theorem dX10_landedShare_41 : decode cX10_landedShare 41 = .ok (.fdiv, 1) := by decide +kernel
theorem dX10_landedShare_42 : decode cX10_landedShare 42 = .ok (.freturn, 1) := by decide +kernel
theorem dX10_feed_0 : decode cX10_feed 0 = .ok (.aload_n 0, 1) := by decide +kernel
theorem dX10_feed_1 : decode cX10_feed 1 = .ok (.aload_n 0, 1) := by decide +kernel
theorem dX10_feed_2 : decode cX10_feed 2 = .ok (.getfield 175, 3) := by decide +kernel
theorem dX10_feed_5 : decode cX10_feed 5 = .ok (.bipush 60, 2) := by decide +kernel
theorem dX10_feed_7 : decode cX10_feed 7 = .ok (.if_icmp .ne 7, 3) := by decide +kernel
theorem dX10_feed_10 : decode cX10_feed 10 = .ok (.iconst 1, 1) := by decide +kernel
theorem dX10_feed_11 : decode cX10_feed 11 = .ok (.goto 4, 3) := by decide +kernel
theorem dX10_feed_14 : decode cX10_feed 14 = .ok (.iconst 0, 1) := by decide +kernel
theorem dX10_feed_15 : decode cX10_feed 15 = .ok (.invokevirtual 70, 3) := by decide +kernel
theorem dX10_feed_18 : decode cX10_feed 18 = .ok (.ifCond .eq 5, 3) := by decide +kernel
theorem dX10_feed_21 : decode cX10_feed 21 = .ok (.iconst 0, 1) := by decide +kernel
theorem dX10_feed_22 : decode cX10_feed 22 = .ok (.ireturn, 1) := by decide +kernel
theorem dX10_feed_23 : decode cX10_feed 23 = .ok (.aload_n 0, 1) := by decide +kernel
theorem dX10_feed_24 : decode cX10_feed 24 = .ok (.getfield 22, 3) := by decide +kernel
theorem dX10_feed_27 : decode cX10_feed 27 = .ok (.aload_n 0, 1) := by decide +kernel
theorem dX10_feed_28 : decode cX10_feed 28 = .ok (.getfield 175, 3) := by decide +kernel
theorem dX10_feed_31 : decode cX10_feed 31 = .ok (.iload_n 1, 1) := by decide +kernel
theorem dX10_feed_32 : decode cX10_feed 32 = .ok (.iastore, 1) := by decide +kernel
theorem dX10_feed_33 : decode cX10_feed 33 = .ok (.aload_n 0, 1) := by decide +kernel
theorem dX10_feed_34 : decode cX10_feed 34 = .ok (.dup, 1) := by decide +kernel
theorem dX10_feed_35 : decode cX10_feed 35 = .ok (.getfield 175, 3) := by decide +kernel
theorem dX10_feed_38 : decode cX10_feed 38 = .ok (.iconst 1, 1) := by decide +kernel
theorem dX10_feed_39 : decode cX10_feed 39 = .ok (.iadd, 1) := by decide +kernel
theorem dX10_feed_40 : decode cX10_feed 40 = .ok (.putfield 175, 3) := by decide +kernel
theorem dX10_feed_43 : decode cX10_feed 43 = .ok (.aload_n 0, 1) := by decide +kernel
theorem dX10_feed_44 : decode cX10_feed 44 = .ok (.getfield 175, 3) := by decide +kernel
theorem dX10_feed_47 : decode cX10_feed 47 = .ok (.ireturn, 1) := by decide +kernel
theorem dX10_here_0 : decode cX10_here 0 = .ok (.aload_n 0, 1) := by decide +kernel
theorem dX10_here_1 : decode cX10_here 1 = .ok (.getfield 178, 3) := by decide +kernel
theorem dX10_here_4 : decode cX10_here 4 = .ok (.aload_n 0, 1) := by decide +kernel
theorem dX10_here_5 : decode cX10_here 5 = .ok (.getfield 175, 3) := by decide +kernel
theorem dX10_here_8 : decode cX10_here 8 = .ok (.if_icmp .ge 15, 3) := by decide +kernel
theorem dX10_here_11 : decode cX10_here 11 = .ok (.aload_n 0, 1) := by decide +kernel
theorem dX10_here_12 : decode cX10_here 12 = .ok (.getfield 22, 3) := by decide +kernel
theorem dX10_here_15 : decode cX10_here 15 = .ok (.aload_n 0, 1) := by decide +kernel
theorem dX10_here_16 : decode cX10_here 16 = .ok (.getfield 178, 3) := by decide +kernel
theorem dX10_here_19 : decode cX10_here 19 = .ok (.iaload, 1) := by decide +kernel
theorem dX10_here_20 : decode cX10_here 20 = .ok (.goto 4, 3) := by decide +kernel
theorem dX10_here_23 : decode cX10_here 23 = .ok (.iconst (-1), 1) := by decide +kernel
theorem dX10_here_24 : decode cX10_here 24 = .ok (.ireturn, 1) := by decide +kernel
theorem dX10_skips_0 : decode cX10_skips 0 = .ok (.aload_n 0, 1) := by decide +kernel
theorem dX10_skips_1 : decode cX10_skips 1 = .ok (.invokevirtual 181, 3) := by decide +kernel
theorem dX10_skips_4 : decode cX10_skips 4 = .ok (.iload_n 1, 1) := by decide +kernel
theorem dX10_skips_5 : decode cX10_skips 5 = .ok (.if_icmp .eq 5, 3) := by decide +kernel
theorem dX10_skips_8 : decode cX10_skips 8 = .ok (.iconst 0, 1) := by decide +kernel
theorem dX10_skips_9 : decode cX10_skips 9 = .ok (.ireturn, 1) := by decide +kernel
theorem dX10_skips_10 : decode cX10_skips 10 = .ok (.aload_n 0, 1) := by decide +kernel
theorem dX10_skips_11 : decode cX10_skips 11 = .ok (.dup, 1) := by decide +kernel
theorem dX10_skips_12 : decode cX10_skips 12 = .ok (.getfield 178, 3) := by decide +kernel
theorem dX10_skips_15 : decode cX10_skips 15 = .ok (.iconst 1, 1) := by decide +kernel
theorem dX10_skips_16 : decode cX10_skips 16 = .ok (.iadd, 1) := by decide +kernel
theorem dX10_skips_17 : decode cX10_skips 17 = .ok (.putfield 178, 3) := by decide +kernel
theorem dX10_skips_20 : decode cX10_skips 20 = .ok (.iconst 1, 1) := by decide +kernel
theorem dX10_skips_21 : decode cX10_skips 21 = .ok (.ireturn, 1) := by decide +kernel
theorem dX10_isWord_0 : decode cX10_isWord 0 = .ok (.aload_n 0, 1) := by decide +kernel
theorem dX10_isWord_1 : decode cX10_isWord 1 = .ok (.getfield 33, 3) := by decide +kernel
theorem dX10_isWord_4 : decode cX10_isWord 4 = .ok (.iconst 4, 1) := by decide +kernel
theorem dX10_isWord_5 : decode cX10_isWord 5 = .ok (.aload_n 0, 1) := by decide +kernel
theorem dX10_isWord_6 : decode cX10_isWord 6 = .ok (.getfield 184, 3) := by decide +kernel
theorem dX10_isWord_9 : decode cX10_isWord 9 = .ok (.imul, 1) := by decide +kernel
theorem dX10_isWord_10 : decode cX10_isWord 10 = .ok (.iload_n 1, 1) := by decide +kernel
theorem dX10_isWord_11 : decode cX10_isWord 11 = .ok (.iastore, 1) := by decide +kernel
theorem dX10_isWord_12 : decode cX10_isWord 12 = .ok (.iconst 0, 1) := by decide +kernel
theorem dX10_isWord_13 : decode cX10_isWord 13 = .ok (.istore_n 3, 1) := by decide +kernel
theorem dX10_isWord_14 : decode cX10_isWord 14 = .ok (.iload_n 3, 1) := by decide +kernel
theorem dX10_isWord_15 : decode cX10_isWord 15 = .ok (.aload_n 2, 1) := by decide +kernel
theorem dX10_isWord_16 : decode cX10_isWord 16 = .ok (.invokevirtual 187, 3) := by decide +kernel
theorem dX10_isWord_19 : decode cX10_isWord 19 = .ok (.if_icmp .ge 23, 3) := by decide +kernel
theorem dX10_isWord_22 : decode cX10_isWord 22 = .ok (.aload_n 0, 1) := by decide +kernel
theorem dX10_isWord_23 : decode cX10_isWord 23 = .ok (.aload_n 2, 1) := by decide +kernel
theorem dX10_isWord_24 : decode cX10_isWord 24 = .ok (.iload_n 3, 1) := by decide +kernel
theorem dX10_isWord_25 : decode cX10_isWord 25 = .ok (.invokevirtual 191, 3) := by decide +kernel
theorem dX10_isWord_28 : decode cX10_isWord 28 = .ok (.invokevirtual 194, 3) := by decide +kernel
theorem dX10_isWord_31 : decode cX10_isWord 31 = .ok (.ifCond .ne 5, 3) := by decide +kernel
theorem dX10_isWord_34 : decode cX10_isWord 34 = .ok (.iconst 0, 1) := by decide +kernel
theorem dX10_isWord_35 : decode cX10_isWord 35 = .ok (.ireturn, 1) := by decide +kernel
theorem dX10_isWord_36 : decode cX10_isWord 36 = .ok (.iinc 3 1, 3) := by decide +kernel
theorem dX10_isWord_39 : decode cX10_isWord 39 = .ok (.goto (-25), 3) := by decide +kernel
theorem dX10_isWord_42 : decode cX10_isWord 42 = .ok (.iconst 1, 1) := by decide +kernel
theorem dX10_isWord_43 : decode cX10_isWord 43 = .ok (.ireturn, 1) := by decide +kernel
theorem dX10_digits_0 : decode cX10_digits 0 = .ok (.aload_n 0, 1) := by decide +kernel
theorem dX10_digits_1 : decode cX10_digits 1 = .ok (.invokevirtual 181, 3) := by decide +kernel
theorem dX10_digits_4 : decode cX10_digits 4 = .ok (.bipush 48, 2) := by decide +kernel
theorem dX10_digits_6 : decode cX10_digits 6 = .ok (.bipush 57, 2) := by decide +kernel
theorem dX10_digits_8 : decode cX10_digits 8 = .ok (.invokestatic 62, 3) := by decide +kernel
theorem dX10_digits_11 : decode cX10_digits 11 = .ok (.ifCond .ne 5, 3) := by decide +kernel
theorem dX10_digits_14 : decode cX10_digits 14 = .ok (.iconst 0, 1) := by decide +kernel
theorem dX10_digits_15 : decode cX10_digits 15 = .ok (.ireturn, 1) := by decide +kernel
theorem dX10_digits_16 : decode cX10_digits 16 = .ok (.aload_n 0, 1) := by decide +kernel
theorem dX10_digits_17 : decode cX10_digits 17 = .ok (.getfield 33, 3) := by decide +kernel
theorem dX10_digits_20 : decode cX10_digits 20 = .ok (.iload_n 1, 1) := by decide +kernel
theorem dX10_digits_21 : decode cX10_digits 21 = .ok (.iconst 0, 1) := by decide +kernel
theorem dX10_digits_22 : decode cX10_digits 22 = .ok (.iastore, 1) := by decide +kernel
theorem dX10_digits_23 : decode cX10_digits 23 = .ok (.iconst 0, 1) := by decide +kernel
theorem dX10_digits_24 : decode cX10_digits 24 = .ok (.istore_n 3, 1) := by decide +kernel
theorem dX10_digits_25 : decode cX10_digits 25 = .ok (.iload_n 3, 1) := by decide +kernel
theorem dX10_digits_26 : decode cX10_digits 26 = .ok (.iload_n 2, 1) := by decide +kernel
theorem dX10_digits_27 : decode cX10_digits 27 = .ok (.if_icmp .ge 56, 3) := by decide +kernel
theorem dX10_digits_30 : decode cX10_digits 30 = .ok (.aload_n 0, 1) := by decide +kernel
theorem dX10_digits_31 : decode cX10_digits 31 = .ok (.invokevirtual 181, 3) := by decide +kernel
theorem dX10_digits_34 : decode cX10_digits 34 = .ok (.bipush 48, 2) := by decide +kernel
theorem dX10_digits_36 : decode cX10_digits 36 = .ok (.bipush 57, 2) := by decide +kernel
theorem dX10_digits_38 : decode cX10_digits 38 = .ok (.invokestatic 62, 3) := by decide +kernel
theorem dX10_digits_41 : decode cX10_digits 41 = .ok (.ifCond .eq 42, 3) := by decide +kernel
theorem dX10_digits_44 : decode cX10_digits 44 = .ok (.aload_n 0, 1) := by decide +kernel
theorem dX10_digits_45 : decode cX10_digits 45 = .ok (.getfield 33, 3) := by decide +kernel
theorem dX10_digits_48 : decode cX10_digits 48 = .ok (.iload_n 1, 1) := by decide +kernel
theorem dX10_digits_49 : decode cX10_digits 49 = .ok (.bipush 10, 2) := by decide +kernel
theorem dX10_digits_51 : decode cX10_digits 51 = .ok (.aload_n 0, 1) := by decide +kernel
theorem dX10_digits_52 : decode cX10_digits 52 = .ok (.getfield 33, 3) := by decide +kernel
theorem dX10_digits_55 : decode cX10_digits 55 = .ok (.iload_n 1, 1) := by decide +kernel
theorem dX10_digits_56 : decode cX10_digits 56 = .ok (.iaload, 1) := by decide +kernel
theorem dX10_digits_57 : decode cX10_digits 57 = .ok (.imul, 1) := by decide +kernel
theorem dX10_digits_58 : decode cX10_digits 58 = .ok (.aload_n 0, 1) := by decide +kernel
theorem dX10_digits_59 : decode cX10_digits 59 = .ok (.invokevirtual 181, 3) := by decide +kernel
theorem dX10_digits_62 : decode cX10_digits 62 = .ok (.iadd, 1) := by decide +kernel
theorem dX10_digits_63 : decode cX10_digits 63 = .ok (.bipush 48, 2) := by decide +kernel
theorem dX10_digits_65 : decode cX10_digits 65 = .ok (.isub, 1) := by decide +kernel
theorem dX10_digits_66 : decode cX10_digits 66 = .ok (.iastore, 1) := by decide +kernel
theorem dX10_digits_67 : decode cX10_digits 67 = .ok (.aload_n 0, 1) := by decide +kernel
theorem dX10_digits_68 : decode cX10_digits 68 = .ok (.dup, 1) := by decide +kernel
theorem dX10_digits_69 : decode cX10_digits 69 = .ok (.getfield 178, 3) := by decide +kernel
theorem dX10_digits_72 : decode cX10_digits 72 = .ok (.iconst 1, 1) := by decide +kernel
theorem dX10_digits_73 : decode cX10_digits 73 = .ok (.iadd, 1) := by decide +kernel
theorem dX10_digits_74 : decode cX10_digits 74 = .ok (.putfield 178, 3) := by decide +kernel
theorem dX10_digits_77 : decode cX10_digits 77 = .ok (.iinc 3 1, 3) := by decide +kernel
theorem dX10_digits_80 : decode cX10_digits 80 = .ok (.goto (-55), 3) := by decide +kernel
theorem dX10_digits_83 : decode cX10_digits 83 = .ok (.iconst 1, 1) := by decide +kernel
theorem dX10_digits_84 : decode cX10_digits 84 = .ok (.ireturn, 1) := by decide +kernel
theorem dX10_figures_0 : decode cX10_figures 0 = .ok (.aload_n 0, 1) := by decide +kernel
theorem dX10_figures_1 : decode cX10_figures 1 = .ok (.iload_n 1, 1) := by decide +kernel
theorem dX10_figures_2 : decode cX10_figures 2 = .ok (.invokevirtual 194, 3) := by decide +kernel
theorem dX10_figures_5 : decode cX10_figures 5 = .ok (.ifCond .eq 16, 3) := by decide +kernel
theorem dX10_figures_8 : decode cX10_figures 8 = .ok (.aload_n 0, 1) := by decide +kernel
theorem dX10_figures_9 : decode cX10_figures 9 = .ok (.iload_n 2, 1) := by decide +kernel
theorem dX10_figures_10 : decode cX10_figures 10 = .ok (.iload_n 3, 1) := by decide +kernel
theorem dX10_figures_11 : decode cX10_figures 11 = .ok (.invokevirtual 197, 3) := by decide +kernel
theorem dX10_figures_14 : decode cX10_figures 14 = .ok (.ifCond .eq 7, 3) := by decide +kernel
theorem dX10_figures_17 : decode cX10_figures 17 = .ok (.iconst 1, 1) := by decide +kernel
theorem dX10_figures_18 : decode cX10_figures 18 = .ok (.goto 4, 3) := by decide +kernel
theorem dX10_figures_21 : decode cX10_figures 21 = .ok (.iconst 0, 1) := by decide +kernel
theorem dX10_figures_22 : decode cX10_figures 22 = .ok (.ireturn, 1) := by decide +kernel
theorem dX10_signed_0 : decode cX10_signed 0 = .ok (.aload_n 0, 1) := by decide +kernel
theorem dX10_signed_1 : decode cX10_signed 1 = .ok (.bipush 61, 2) := by decide +kernel
theorem dX10_signed_3 : decode cX10_signed 3 = .ok (.invokevirtual 194, 3) := by decide +kernel
theorem dX10_signed_6 : decode cX10_signed 6 = .ok (.ifCond .ne 5, 3) := by decide +kernel
theorem dX10_signed_9 : decode cX10_signed 9 = .ok (.iconst 0, 1) := by decide +kernel
theorem dX10_signed_10 : decode cX10_signed 10 = .ok (.ireturn, 1) := by decide +kernel
theorem dX10_signed_11 : decode cX10_signed 11 = .ok (.aload_n 0, 1) := by decide +kernel
theorem dX10_signed_12 : decode cX10_signed 12 = .ok (.bipush 45, 2) := by decide +kernel
theorem dX10_signed_14 : decode cX10_signed 14 = .ok (.invokevirtual 194, 3) := by decide +kernel
theorem dX10_signed_17 : decode cX10_signed 17 = .ok (.istore_n 2, 1) := by decide +kernel
theorem dX10_signed_18 : decode cX10_signed 18 = .ok (.aload_n 0, 1) := by decide +kernel
theorem dX10_signed_19 : decode cX10_signed 19 = .ok (.iload_n 1, 1) := by decide +kernel
theorem dX10_signed_20 : decode cX10_signed 20 = .ok (.iconst 1, 1) := by decide +kernel
theorem dX10_signed_21 : decode cX10_signed 21 = .ok (.invokevirtual 197, 3) := by decide +kernel
theorem dX10_signed_24 : decode cX10_signed 24 = .ok (.ifCond .ne 5, 3) := by decide +kernel
theorem dX10_signed_27 : decode cX10_signed 27 = .ok (.iconst 0, 1) := by decide +kernel
theorem dX10_signed_28 : decode cX10_signed 28 = .ok (.ireturn, 1) := by decide +kernel
theorem dX10_signed_29 : decode cX10_signed 29 = .ok (.aload_n 0, 1) := by decide +kernel
theorem dX10_signed_30 : decode cX10_signed 30 = .ok (.getfield 33, 3) := by decide +kernel
theorem dX10_signed_33 : decode cX10_signed 33 = .ok (.iload_n 1, 1) := by decide +kernel
theorem dX10_signed_34 : decode cX10_signed 34 = .ok (.iload_n 2, 1) := by decide +kernel
theorem dX10_signed_35 : decode cX10_signed 35 = .ok (.ifCond .eq 13, 3) := by decide +kernel
theorem dX10_signed_38 : decode cX10_signed 38 = .ok (.aload_n 0, 1) := by decide +kernel
theorem dX10_signed_39 : decode cX10_signed 39 = .ok (.getfield 33, 3) := by decide +kernel
theorem dX10_signed_42 : decode cX10_signed 42 = .ok (.iload_n 1, 1) := by decide +kernel
theorem dX10_signed_43 : decode cX10_signed 43 = .ok (.iaload, 1) := by decide +kernel
theorem dX10_signed_44 : decode cX10_signed 44 = .ok (.ineg, 1) := by decide +kernel
theorem dX10_signed_45 : decode cX10_signed 45 = .ok (.goto 9, 3) := by decide +kernel
theorem dX10_signed_48 : decode cX10_signed 48 = .ok (.aload_n 0, 1) := by decide +kernel
theorem dX10_signed_49 : decode cX10_signed 49 = .ok (.getfield 33, 3) := by decide +kernel
theorem dX10_signed_52 : decode cX10_signed 52 = .ok (.iload_n 1, 1) := by decide +kernel
theorem dX10_signed_53 : decode cX10_signed 53 = .ok (.iaload, 1) := by decide +kernel
theorem dX10_signed_54 : decode cX10_signed 54 = .ok (.iastore, 1) := by decide +kernel
theorem dX10_signed_55 : decode cX10_signed 55 = .ok (.iconst 1, 1) := by decide +kernel
theorem dX10_signed_56 : decode cX10_signed 56 = .ok (.ireturn, 1) := by decide +kernel
theorem dX10_withC_0 : decode cX10_withC 0 = .ok (.aload_n 0, 1) := by decide +kernel
theorem dX10_withC_1 : decode cX10_withC 1 = .ok (.bipush 105, 2) := by decide +kernel
theorem dX10_withC_3 : decode cX10_withC 3 = .ok (.invokevirtual 194, 3) := by decide +kernel
theorem dX10_withC_6 : decode cX10_withC 6 = .ok (.ifCond .eq 43, 3) := by decide +kernel
theorem dX10_withC_9 : decode cX10_withC 9 = .ok (.aload_n 0, 1) := by decide +kernel
theorem dX10_withC_10 : decode cX10_withC 10 = .ok (.iconst 1, 1) := by decide +kernel
theorem dX10_withC_11 : decode cX10_withC 11 = .ok (.ldc 200, 2) := by decide +kernel
theorem dX10_withC_13 : decode cX10_withC 13 = .ok (.invokevirtual 202, 3) := by decide +kernel
theorem dX10_withC_16 : decode cX10_withC 16 = .ok (.ifCond .eq 31, 3) := by decide +kernel
theorem dX10_withC_19 : decode cX10_withC 19 = .ok (.aload_n 0, 1) := by decide +kernel
theorem dX10_withC_20 : decode cX10_withC 20 = .ok (.bipush 32, 2) := by decide +kernel
theorem dX10_withC_22 : decode cX10_withC 22 = .ok (.iload_n 1, 1) := by decide +kernel
theorem dX10_withC_23 : decode cX10_withC 23 = .ok (.iconst 1, 1) := by decide +kernel
theorem dX10_withC_24 : decode cX10_withC 24 = .ok (.invokevirtual 206, 3) := by decide +kernel
theorem dX10_withC_27 : decode cX10_withC 27 = .ok (.ifCond .eq 20, 3) := by decide +kernel
theorem dX10_withC_30 : decode cX10_withC 30 = .ok (.aload_n 0, 1) := by decide +kernel
theorem dX10_withC_31 : decode cX10_withC 31 = .ok (.bipush 62, 2) := by decide +kernel
theorem dX10_withC_33 : decode cX10_withC 33 = .ok (.iload_n 1, 1) := by decide +kernel
theorem dX10_withC_34 : decode cX10_withC 34 = .ok (.iconst 1, 1) := by decide +kernel
theorem dX10_withC_35 : decode cX10_withC 35 = .ok (.iadd, 1) := by decide +kernel
theorem dX10_withC_36 : decode cX10_withC 36 = .ok (.iconst 1, 1) := by decide +kernel
theorem dX10_withC_37 : decode cX10_withC 37 = .ok (.invokevirtual 206, 3) := by decide +kernel
theorem dX10_withC_40 : decode cX10_withC 40 = .ok (.ifCond .eq 7, 3) := by decide +kernel
theorem dX10_withC_43 : decode cX10_withC 43 = .ok (.iconst 1, 1) := by decide +kernel
theorem dX10_withC_44 : decode cX10_withC 44 = .ok (.goto 4, 3) := by decide +kernel
theorem dX10_withC_47 : decode cX10_withC 47 = .ok (.iconst 0, 1) := by decide +kernel
theorem dX10_withC_48 : decode cX10_withC 48 = .ok (.ireturn, 1) := by decide +kernel
theorem dX10_withC_49 : decode cX10_withC 49 = .ok (.aload_n 0, 1) := by decide +kernel
theorem dX10_withC_50 : decode cX10_withC 50 = .ok (.bipush 117, 2) := by decide +kernel
theorem dX10_withC_52 : decode cX10_withC 52 = .ok (.invokevirtual 194, 3) := by decide +kernel
theorem dX10_withC_55 : decode cX10_withC 55 = .ok (.ifCond .ne 5, 3) := by decide +kernel
theorem dX10_withC_58 : decode cX10_withC 58 = .ok (.iconst 0, 1) := by decide +kernel
theorem dX10_withC_59 : decode cX10_withC 59 = .ok (.ireturn, 1) := by decide +kernel
theorem dX10_withC_60 : decode cX10_withC 60 = .ok (.aload_n 0, 1) := by decide +kernel
theorem dX10_withC_61 : decode cX10_withC 61 = .ok (.bipush 116, 2) := by decide +kernel
theorem dX10_withC_63 : decode cX10_withC 63 = .ok (.invokevirtual 194, 3) := by decide +kernel
theorem dX10_withC_66 : decode cX10_withC 66 = .ok (.ifCond .eq 32, 3) := by decide +kernel
theorem dX10_withC_69 : decode cX10_withC 69 = .ok (.aload_n 0, 1) := by decide +kernel
theorem dX10_withC_70 : decode cX10_withC 70 = .ok (.iconst 5, 1) := by decide +kernel
theorem dX10_withC_71 : decode cX10_withC 71 = .ok (.ldc 209, 2) := by decide +kernel
theorem dX10_withC_73 : decode cX10_withC 73 = .ok (.invokevirtual 202, 3) := by decide +kernel
theorem dX10_withC_76 : decode cX10_withC 76 = .ok (.ifCond .eq 18, 3) := by decide +kernel
theorem dX10_withC_79 : decode cX10_withC 79 = .ok (.aload_n 0, 1) := by decide +kernel
theorem dX10_withC_80 : decode cX10_withC 80 = .ok (.bipush 32, 2) := by decide +kernel
theorem dX10_withC_82 : decode cX10_withC 82 = .ok (.iload_n 1, 1) := by decide +kernel
theorem dX10_withC_83 : decode cX10_withC 83 = .ok (.iconst 1, 1) := by decide +kernel
theorem dX10_withC_84 : decode cX10_withC 84 = .ok (.invokevirtual 206, 3) := by decide +kernel
theorem dX10_withC_87 : decode cX10_withC 87 = .ok (.ifCond .eq 7, 3) := by decide +kernel
theorem dX10_withC_90 : decode cX10_withC 90 = .ok (.iconst 1, 1) := by decide +kernel
theorem dX10_withC_91 : decode cX10_withC 91 = .ok (.goto 43, 3) := by decide +kernel
theorem dX10_withC_94 : decode cX10_withC 94 = .ok (.iconst 0, 1) := by decide +kernel
theorem dX10_withC_95 : decode cX10_withC 95 = .ok (.goto 39, 3) := by decide +kernel
theorem dX10_withC_98 : decode cX10_withC 98 = .ok (.aload_n 0, 1) := by decide +kernel
theorem dX10_withC_99 : decode cX10_withC 99 = .ok (.iconst 3, 1) := by decide +kernel
theorem dX10_withC_100 : decode cX10_withC 100 = .ok (.ldc 211, 2) := by decide +kernel
theorem dX10_withC_102 : decode cX10_withC 102 = .ok (.invokevirtual 202, 3) := by decide +kernel
theorem dX10_withC_105 : decode cX10_withC 105 = .ok (.ifCond .eq 28, 3) := by decide +kernel
theorem dX10_withC_108 : decode cX10_withC 108 = .ok (.aload_n 0, 1) := by decide +kernel
theorem dX10_withC_109 : decode cX10_withC 109 = .ok (.bipush 32, 2) := by decide +kernel
theorem dX10_withC_111 : decode cX10_withC 111 = .ok (.iload_n 1, 1) := by decide +kernel
theorem dX10_withC_112 : decode cX10_withC 112 = .ok (.iconst 2, 1) := by decide +kernel
theorem dX10_withC_113 : decode cX10_withC 113 = .ok (.invokevirtual 206, 3) := by decide +kernel
theorem dX10_withC_116 : decode cX10_withC 116 = .ok (.ifCond .eq 17, 3) := by decide +kernel
theorem dX10_withC_119 : decode cX10_withC 119 = .ok (.aload_n 0, 1) := by decide +kernel
theorem dX10_withC_120 : decode cX10_withC 120 = .ok (.iload_n 1, 1) := by decide +kernel
theorem dX10_withC_121 : decode cX10_withC 121 = .ok (.iconst 1, 1) := by decide +kernel
theorem dX10_withC_122 : decode cX10_withC 122 = .ok (.iadd, 1) := by decide +kernel
theorem dX10_withC_123 : decode cX10_withC 123 = .ok (.invokevirtual 213, 3) := by decide +kernel
theorem dX10_withC_126 : decode cX10_withC 126 = .ok (.ifCond .eq 7, 3) := by decide +kernel
theorem dX10_withC_129 : decode cX10_withC 129 = .ok (.iconst 1, 1) := by decide +kernel
theorem dX10_withC_130 : decode cX10_withC 130 = .ok (.goto 4, 3) := by decide +kernel
theorem dX10_withC_133 : decode cX10_withC 133 = .ok (.iconst 0, 1) := by decide +kernel
theorem dX10_withC_134 : decode cX10_withC 134 = .ok (.ireturn, 1) := by decide +kernel
theorem dX10_commandHere_0 : decode cX10_commandHere 0 = .ok (.iconst 4, 1) := by decide +kernel
theorem dX10_commandHere_1 : decode cX10_commandHere 1 = .ok (.aload_n 0, 1) := by decide +kernel
theorem dX10_commandHere_2 : decode cX10_commandHere 2 = .ok (.getfield 184, 3) := by decide +kernel
theorem dX10_commandHere_5 : decode cX10_commandHere 5 = .ok (.imul, 1) := by decide +kernel
theorem dX10_commandHere_6 : decode cX10_commandHere 6 = .ok (.iconst 1, 1) := by decide +kernel
theorem dX10_commandHere_7 : decode cX10_commandHere 7 = .ok (.iadd, 1) := by decide +kernel
theorem dX10_commandHere_8 : decode cX10_commandHere 8 = .ok (.istore_n 1, 1) := by decide +kernel
theorem dX10_commandHere_9 : decode cX10_commandHere 9 = .ok (.aload_n 0, 1) := by decide +kernel
theorem dX10_commandHere_10 : decode cX10_commandHere 10 = .ok (.bipush 99, 2) := by decide +kernel
theorem dX10_commandHere_12 : decode cX10_commandHere 12 = .ok (.invokevirtual 194, 3) := by decide +kernel
theorem dX10_commandHere_15 : decode cX10_commandHere 15 = .ok (.ifCond .eq 9, 3) := by decide +kernel
theorem dX10_commandHere_18 : decode cX10_commandHere 18 = .ok (.aload_n 0, 1) := by decide +kernel
theorem dX10_commandHere_19 : decode cX10_commandHere 19 = .ok (.iload_n 1, 1) := by decide +kernel
theorem dX10_commandHere_20 : decode cX10_commandHere 20 = .ok (.invokevirtual 216, 3) := by decide +kernel
theorem dX10_commandHere_23 : decode cX10_commandHere 23 = .ok (.ireturn, 1) := by decide +kernel
theorem dX10_commandHere_24 : decode cX10_commandHere 24 = .ok (.aload_n 0, 1) := by decide +kernel
theorem dX10_commandHere_25 : decode cX10_commandHere 25 = .ok (.bipush 100, 2) := by decide +kernel
theorem dX10_commandHere_27 : decode cX10_commandHere 27 = .ok (.invokevirtual 194, 3) := by decide +kernel
theorem dX10_commandHere_30 : decode cX10_commandHere 30 = .ok (.ifCond .eq 43, 3) := by decide +kernel
theorem dX10_commandHere_33 : decode cX10_commandHere 33 = .ok (.aload_n 0, 1) := by decide +kernel
theorem dX10_commandHere_34 : decode cX10_commandHere 34 = .ok (.iconst 2, 1) := by decide +kernel
theorem dX10_commandHere_35 : decode cX10_commandHere 35 = .ok (.ldc 219, 2) := by decide +kernel
theorem dX10_commandHere_37 : decode cX10_commandHere 37 = .ok (.invokevirtual 202, 3) := by decide +kernel
theorem dX10_commandHere_40 : decode cX10_commandHere 40 = .ok (.ifCond .eq 31, 3) := by decide +kernel
theorem dX10_commandHere_43 : decode cX10_commandHere 43 = .ok (.aload_n 0, 1) := by decide +kernel
theorem dX10_commandHere_44 : decode cX10_commandHere 44 = .ok (.bipush 32, 2) := by decide +kernel
theorem dX10_commandHere_46 : decode cX10_commandHere 46 = .ok (.iload_n 1, 1) := by decide +kernel
theorem dX10_commandHere_47 : decode cX10_commandHere 47 = .ok (.iconst 1, 1) := by decide +kernel
theorem dX10_commandHere_48 : decode cX10_commandHere 48 = .ok (.invokevirtual 206, 3) := by decide +kernel
theorem dX10_commandHere_51 : decode cX10_commandHere 51 = .ok (.ifCond .eq 20, 3) := by decide +kernel
theorem dX10_commandHere_54 : decode cX10_commandHere 54 = .ok (.aload_n 0, 1) := by decide +kernel
theorem dX10_commandHere_55 : decode cX10_commandHere 55 = .ok (.bipush 62, 2) := by decide +kernel
theorem dX10_commandHere_57 : decode cX10_commandHere 57 = .ok (.iload_n 1, 1) := by decide +kernel
theorem dX10_commandHere_58 : decode cX10_commandHere 58 = .ok (.iconst 1, 1) := by decide +kernel
theorem dX10_commandHere_59 : decode cX10_commandHere 59 = .ok (.iadd, 1) := by decide +kernel
theorem dX10_commandHere_60 : decode cX10_commandHere 60 = .ok (.iconst 1, 1) := by decide +kernel
theorem dX10_commandHere_61 : decode cX10_commandHere 61 = .ok (.invokevirtual 206, 3) := by decide +kernel
theorem dX10_commandHere_64 : decode cX10_commandHere 64 = .ok (.ifCond .eq 7, 3) := by decide +kernel
theorem dX10_commandHere_67 : decode cX10_commandHere 67 = .ok (.iconst 1, 1) := by decide +kernel
theorem dX10_commandHere_68 : decode cX10_commandHere 68 = .ok (.goto 4, 3) := by decide +kernel
theorem dX10_commandHere_71 : decode cX10_commandHere 71 = .ok (.iconst 0, 1) := by decide +kernel
theorem dX10_commandHere_72 : decode cX10_commandHere 72 = .ok (.ireturn, 1) := by decide +kernel
theorem dX10_commandHere_73 : decode cX10_commandHere 73 = .ok (.aload_n 0, 1) := by decide +kernel
theorem dX10_commandHere_74 : decode cX10_commandHere 74 = .ok (.bipush 104, 2) := by decide +kernel
theorem dX10_commandHere_76 : decode cX10_commandHere 76 = .ok (.invokevirtual 194, 3) := by decide +kernel
theorem dX10_commandHere_79 : decode cX10_commandHere 79 = .ok (.ifCond .eq 31, 3) := by decide +kernel
theorem dX10_commandHere_82 : decode cX10_commandHere 82 = .ok (.aload_n 0, 1) := by decide +kernel
theorem dX10_commandHere_83 : decode cX10_commandHere 83 = .ok (.bipush 6, 2) := by decide +kernel
theorem dX10_commandHere_85 : decode cX10_commandHere 85 = .ok (.ldc 221, 2) := by decide +kernel
theorem dX10_commandHere_87 : decode cX10_commandHere 87 = .ok (.invokevirtual 202, 3) := by decide +kernel
theorem dX10_commandHere_90 : decode cX10_commandHere 90 = .ok (.ifCond .eq 18, 3) := by decide +kernel
theorem dX10_commandHere_93 : decode cX10_commandHere 93 = .ok (.aload_n 0, 1) := by decide +kernel
theorem dX10_commandHere_94 : decode cX10_commandHere 94 = .ok (.bipush 32, 2) := by decide +kernel
theorem dX10_commandHere_96 : decode cX10_commandHere 96 = .ok (.iload_n 1, 1) := by decide +kernel
theorem dX10_commandHere_97 : decode cX10_commandHere 97 = .ok (.iconst 1, 1) := by decide +kernel
theorem dX10_commandHere_98 : decode cX10_commandHere 98 = .ok (.invokevirtual 206, 3) := by decide +kernel
theorem dX10_commandHere_101 : decode cX10_commandHere 101 = .ok (.ifCond .eq 7, 3) := by decide +kernel
theorem dX10_commandHere_104 : decode cX10_commandHere 104 = .ok (.iconst 1, 1) := by decide +kernel
theorem dX10_commandHere_105 : decode cX10_commandHere 105 = .ok (.goto 4, 3) := by decide +kernel
theorem dX10_commandHere_108 : decode cX10_commandHere 108 = .ok (.iconst 0, 1) := by decide +kernel
theorem dX10_commandHere_109 : decode cX10_commandHere 109 = .ok (.ireturn, 1) := by decide +kernel
theorem dX10_commandHere_110 : decode cX10_commandHere 110 = .ok (.aload_n 0, 1) := by decide +kernel
theorem dX10_commandHere_111 : decode cX10_commandHere 111 = .ok (.bipush 113, 2) := by decide +kernel
theorem dX10_commandHere_113 : decode cX10_commandHere 113 = .ok (.invokevirtual 194, 3) := by decide +kernel
theorem dX10_commandHere_116 : decode cX10_commandHere 116 = .ok (.ifCond .eq 44, 3) := by decide +kernel
theorem dX10_commandHere_119 : decode cX10_commandHere 119 = .ok (.aload_n 0, 1) := by decide +kernel
theorem dX10_commandHere_120 : decode cX10_commandHere 120 = .ok (.bipush 7, 2) := by decide +kernel
theorem dX10_commandHere_122 : decode cX10_commandHere 122 = .ok (.ldc 223, 2) := by decide +kernel
theorem dX10_commandHere_124 : decode cX10_commandHere 124 = .ok (.invokevirtual 202, 3) := by decide +kernel
theorem dX10_commandHere_127 : decode cX10_commandHere 127 = .ok (.ifCond .eq 31, 3) := by decide +kernel
theorem dX10_commandHere_130 : decode cX10_commandHere 130 = .ok (.aload_n 0, 1) := by decide +kernel
theorem dX10_commandHere_131 : decode cX10_commandHere 131 = .ok (.bipush 32, 2) := by decide +kernel
theorem dX10_commandHere_133 : decode cX10_commandHere 133 = .ok (.iload_n 1, 1) := by decide +kernel
theorem dX10_commandHere_134 : decode cX10_commandHere 134 = .ok (.iconst 2, 1) := by decide +kernel
theorem dX10_commandHere_135 : decode cX10_commandHere 135 = .ok (.invokevirtual 206, 3) := by decide +kernel
theorem dX10_commandHere_138 : decode cX10_commandHere 138 = .ok (.ifCond .eq 20, 3) := by decide +kernel
theorem dX10_commandHere_141 : decode cX10_commandHere 141 = .ok (.aload_n 0, 1) := by decide +kernel
theorem dX10_commandHere_142 : decode cX10_commandHere 142 = .ok (.bipush 61, 2) := by decide +kernel
theorem dX10_commandHere_144 : decode cX10_commandHere 144 = .ok (.iload_n 1, 1) := by decide +kernel
theorem dX10_commandHere_145 : decode cX10_commandHere 145 = .ok (.iconst 1, 1) := by decide +kernel
theorem dX10_commandHere_146 : decode cX10_commandHere 146 = .ok (.iadd, 1) := by decide +kernel
theorem dX10_commandHere_147 : decode cX10_commandHere 147 = .ok (.iconst 2, 1) := by decide +kernel
theorem dX10_commandHere_148 : decode cX10_commandHere 148 = .ok (.invokevirtual 206, 3) := by decide +kernel
theorem dX10_commandHere_151 : decode cX10_commandHere 151 = .ok (.ifCond .eq 7, 3) := by decide +kernel
theorem dX10_commandHere_154 : decode cX10_commandHere 154 = .ok (.iconst 1, 1) := by decide +kernel
theorem dX10_commandHere_155 : decode cX10_commandHere 155 = .ok (.goto 4, 3) := by decide +kernel
theorem dX10_commandHere_158 : decode cX10_commandHere 158 = .ok (.iconst 0, 1) := by decide +kernel
theorem dX10_commandHere_159 : decode cX10_commandHere 159 = .ok (.ireturn, 1) := by decide +kernel
theorem dX10_commandHere_160 : decode cX10_commandHere 160 = .ok (.aload_n 0, 1) := by decide +kernel
theorem dX10_commandHere_161 : decode cX10_commandHere 161 = .ok (.bipush 102, 2) := by decide +kernel
theorem dX10_commandHere_163 : decode cX10_commandHere 163 = .ok (.invokevirtual 194, 3) := by decide +kernel
theorem dX10_commandHere_166 : decode cX10_commandHere 166 = .ok (.ifCond .eq 31, 3) := by decide +kernel
theorem dX10_commandHere_169 : decode cX10_commandHere 169 = .ok (.aload_n 0, 1) := by decide +kernel
theorem dX10_commandHere_170 : decode cX10_commandHere 170 = .ok (.bipush 9, 2) := by decide +kernel
theorem dX10_commandHere_172 : decode cX10_commandHere 172 = .ok (.ldc 225, 2) := by decide +kernel
theorem dX10_commandHere_174 : decode cX10_commandHere 174 = .ok (.invokevirtual 202, 3) := by decide +kernel
theorem dX10_commandHere_177 : decode cX10_commandHere 177 = .ok (.ifCond .eq 18, 3) := by decide +kernel
theorem dX10_commandHere_180 : decode cX10_commandHere 180 = .ok (.aload_n 0, 1) := by decide +kernel
theorem dX10_commandHere_181 : decode cX10_commandHere 181 = .ok (.bipush 32, 2) := by decide +kernel
theorem dX10_commandHere_183 : decode cX10_commandHere 183 = .ok (.iload_n 1, 1) := by decide +kernel
theorem dX10_commandHere_184 : decode cX10_commandHere 184 = .ok (.iconst 1, 1) := by decide +kernel
theorem dX10_commandHere_185 : decode cX10_commandHere 185 = .ok (.invokevirtual 206, 3) := by decide +kernel
theorem dX10_commandHere_188 : decode cX10_commandHere 188 = .ok (.ifCond .eq 7, 3) := by decide +kernel
theorem dX10_commandHere_191 : decode cX10_commandHere 191 = .ok (.iconst 1, 1) := by decide +kernel
theorem dX10_commandHere_192 : decode cX10_commandHere 192 = .ok (.goto 4, 3) := by decide +kernel
theorem dX10_commandHere_195 : decode cX10_commandHere 195 = .ok (.iconst 0, 1) := by decide +kernel
theorem dX10_commandHere_196 : decode cX10_commandHere 196 = .ok (.ireturn, 1) := by decide +kernel
theorem dX10_commandHere_197 : decode cX10_commandHere 197 = .ok (.aload_n 0, 1) := by decide +kernel
theorem dX10_commandHere_198 : decode cX10_commandHere 198 = .ok (.bipush 119, 2) := by decide +kernel
theorem dX10_commandHere_200 : decode cX10_commandHere 200 = .ok (.invokevirtual 194, 3) := by decide +kernel
theorem dX10_commandHere_203 : decode cX10_commandHere 203 = .ok (.ifCond .eq 31, 3) := by decide +kernel
theorem dX10_commandHere_206 : decode cX10_commandHere 206 = .ok (.aload_n 0, 1) := by decide +kernel
theorem dX10_commandHere_207 : decode cX10_commandHere 207 = .ok (.bipush 11, 2) := by decide +kernel
theorem dX10_commandHere_209 : decode cX10_commandHere 209 = .ok (.ldc 227, 2) := by decide +kernel
theorem dX10_commandHere_211 : decode cX10_commandHere 211 = .ok (.invokevirtual 202, 3) := by decide +kernel
theorem dX10_commandHere_214 : decode cX10_commandHere 214 = .ok (.ifCond .eq 18, 3) := by decide +kernel
theorem dX10_commandHere_217 : decode cX10_commandHere 217 = .ok (.aload_n 0, 1) := by decide +kernel
theorem dX10_commandHere_218 : decode cX10_commandHere 218 = .ok (.bipush 32, 2) := by decide +kernel
theorem dX10_commandHere_220 : decode cX10_commandHere 220 = .ok (.iload_n 1, 1) := by decide +kernel
theorem dX10_commandHere_221 : decode cX10_commandHere 221 = .ok (.iconst 2, 1) := by decide +kernel
theorem dX10_commandHere_222 : decode cX10_commandHere 222 = .ok (.invokevirtual 206, 3) := by decide +kernel
theorem dX10_commandHere_225 : decode cX10_commandHere 225 = .ok (.ifCond .eq 7, 3) := by decide +kernel
theorem dX10_commandHere_228 : decode cX10_commandHere 228 = .ok (.iconst 1, 1) := by decide +kernel
theorem dX10_commandHere_229 : decode cX10_commandHere 229 = .ok (.goto 4, 3) := by decide +kernel
theorem dX10_commandHere_232 : decode cX10_commandHere 232 = .ok (.iconst 0, 1) := by decide +kernel
theorem dX10_commandHere_233 : decode cX10_commandHere 233 = .ok (.ireturn, 1) := by decide +kernel
theorem dX10_commandHere_234 : decode cX10_commandHere 234 = .ok (.aload_n 0, 1) := by decide +kernel
theorem dX10_commandHere_235 : decode cX10_commandHere 235 = .ok (.bipush 108, 2) := by decide +kernel
theorem dX10_commandHere_237 : decode cX10_commandHere 237 = .ok (.invokevirtual 194, 3) := by decide +kernel
theorem dX10_commandHere_240 : decode cX10_commandHere 240 = .ok (.ifCond .eq 32, 3) := by decide +kernel
theorem dX10_commandHere_243 : decode cX10_commandHere 243 = .ok (.aload_n 0, 1) := by decide +kernel
theorem dX10_commandHere_244 : decode cX10_commandHere 244 = .ok (.bipush 97, 2) := by decide +kernel
theorem dX10_commandHere_246 : decode cX10_commandHere 246 = .ok (.invokevirtual 194, 3) := by decide +kernel
theorem dX10_commandHere_249 : decode cX10_commandHere 249 = .ok (.ifCond .eq 14, 3) := by decide +kernel
theorem dX10_commandHere_252 : decode cX10_commandHere 252 = .ok (.aload_n 0, 1) := by decide +kernel
theorem dX10_commandHere_253 : decode cX10_commandHere 253 = .ok (.bipush 8, 2) := by decide +kernel
theorem dX10_commandHere_255 : decode cX10_commandHere 255 = .ok (.ldc 229, 2) := by decide +kernel
theorem dX10_commandHere_257 : decode cX10_commandHere 257 = .ok (.invokevirtual 202, 3) := by decide +kernel
theorem dX10_commandHere_260 : decode cX10_commandHere 260 = .ok (.goto 11, 3) := by decide +kernel
theorem dX10_commandHere_263 : decode cX10_commandHere 263 = .ok (.aload_n 0, 1) := by decide +kernel
theorem dX10_commandHere_264 : decode cX10_commandHere 264 = .ok (.bipush 10, 2) := by decide +kernel
theorem dX10_commandHere_266 : decode cX10_commandHere 266 = .ok (.ldc 231, 2) := by decide +kernel
theorem dX10_commandHere_268 : decode cX10_commandHere 268 = .ok (.invokevirtual 202, 3) := by decide +kernel
theorem dX10_commandHere_271 : decode cX10_commandHere 271 = .ok (.ireturn, 1) := by decide +kernel
theorem dX10_commandHere_272 : decode cX10_commandHere 272 = .ok (.aload_n 0, 1) := by decide +kernel
theorem dX10_commandHere_273 : decode cX10_commandHere 273 = .ok (.bipush 110, 2) := by decide +kernel
theorem dX10_commandHere_275 : decode cX10_commandHere 275 = .ok (.invokevirtual 194, 3) := by decide +kernel
theorem dX10_commandHere_278 : decode cX10_commandHere 278 = .ok (.ifCond .ne 5, 3) := by decide +kernel
theorem dX10_commandHere_281 : decode cX10_commandHere 281 = .ok (.iconst 0, 1) := by decide +kernel
theorem dX10_commandHere_282 : decode cX10_commandHere 282 = .ok (.ireturn, 1) := by decide +kernel
theorem dX10_commandHere_283 : decode cX10_commandHere 283 = .ok (.aload_n 0, 1) := by decide +kernel
theorem dX10_commandHere_284 : decode cX10_commandHere 284 = .ok (.bipush 111, 2) := by decide +kernel
theorem dX10_commandHere_286 : decode cX10_commandHere 286 = .ok (.invokevirtual 194, 3) := by decide +kernel
theorem dX10_commandHere_289 : decode cX10_commandHere 289 = .ok (.ifCond .eq 43, 3) := by decide +kernel
theorem dX10_commandHere_292 : decode cX10_commandHere 292 = .ok (.aload_n 0, 1) := by decide +kernel
theorem dX10_commandHere_293 : decode cX10_commandHere 293 = .ok (.iconst 0, 1) := by decide +kernel
theorem dX10_commandHere_294 : decode cX10_commandHere 294 = .ok (.ldc 200, 2) := by decide +kernel
theorem dX10_commandHere_296 : decode cX10_commandHere 296 = .ok (.invokevirtual 202, 3) := by decide +kernel
theorem dX10_commandHere_299 : decode cX10_commandHere 299 = .ok (.ifCond .eq 31, 3) := by decide +kernel
theorem dX10_commandHere_302 : decode cX10_commandHere 302 = .ok (.aload_n 0, 1) := by decide +kernel
theorem dX10_commandHere_303 : decode cX10_commandHere 303 = .ok (.bipush 32, 2) := by decide +kernel
theorem dX10_commandHere_305 : decode cX10_commandHere 305 = .ok (.iload_n 1, 1) := by decide +kernel
theorem dX10_commandHere_306 : decode cX10_commandHere 306 = .ok (.iconst 2, 1) := by decide +kernel
theorem dX10_commandHere_307 : decode cX10_commandHere 307 = .ok (.invokevirtual 206, 3) := by decide +kernel
theorem dX10_commandHere_310 : decode cX10_commandHere 310 = .ok (.ifCond .eq 20, 3) := by decide +kernel
theorem dX10_commandHere_313 : decode cX10_commandHere 313 = .ok (.aload_n 0, 1) := by decide +kernel
theorem dX10_commandHere_314 : decode cX10_commandHere 314 = .ok (.bipush 32, 2) := by decide +kernel
theorem dX10_commandHere_316 : decode cX10_commandHere 316 = .ok (.iload_n 1, 1) := by decide +kernel
theorem dX10_commandHere_317 : decode cX10_commandHere 317 = .ok (.iconst 1, 1) := by decide +kernel
theorem dX10_commandHere_318 : decode cX10_commandHere 318 = .ok (.iadd, 1) := by decide +kernel
theorem dX10_commandHere_319 : decode cX10_commandHere 319 = .ok (.iconst 2, 1) := by decide +kernel
theorem dX10_commandHere_320 : decode cX10_commandHere 320 = .ok (.invokevirtual 206, 3) := by decide +kernel
theorem dX10_commandHere_323 : decode cX10_commandHere 323 = .ok (.ifCond .eq 7, 3) := by decide +kernel
theorem dX10_commandHere_326 : decode cX10_commandHere 326 = .ok (.iconst 1, 1) := by decide +kernel
theorem dX10_commandHere_327 : decode cX10_commandHere 327 = .ok (.goto 4, 3) := by decide +kernel
theorem dX10_commandHere_330 : decode cX10_commandHere 330 = .ok (.iconst 0, 1) := by decide +kernel
theorem dX10_commandHere_331 : decode cX10_commandHere 331 = .ok (.ireturn, 1) := by decide +kernel
theorem dX10_commandHere_332 : decode cX10_commandHere 332 = .ok (.aload_n 0, 1) := by decide +kernel
theorem dX10_commandHere_333 : decode cX10_commandHere 333 = .ok (.iconst 4, 1) := by decide +kernel
theorem dX10_commandHere_334 : decode cX10_commandHere 334 = .ok (.ldc 233, 2) := by decide +kernel
theorem dX10_commandHere_336 : decode cX10_commandHere 336 = .ok (.invokevirtual 202, 3) := by decide +kernel
theorem dX10_commandHere_339 : decode cX10_commandHere 339 = .ok (.ifCond .eq 44, 3) := by decide +kernel
theorem dX10_commandHere_342 : decode cX10_commandHere 342 = .ok (.aload_n 0, 1) := by decide +kernel
theorem dX10_commandHere_343 : decode cX10_commandHere 343 = .ok (.bipush 32, 2) := by decide +kernel
theorem dX10_commandHere_345 : decode cX10_commandHere 345 = .ok (.iload_n 1, 1) := by decide +kernel
theorem dX10_commandHere_346 : decode cX10_commandHere 346 = .ok (.iconst 2, 1) := by decide +kernel
theorem dX10_commandHere_347 : decode cX10_commandHere 347 = .ok (.invokevirtual 206, 3) := by decide +kernel
theorem dX10_commandHere_350 : decode cX10_commandHere 350 = .ok (.ifCond .eq 33, 3) := by decide +kernel
theorem dX10_commandHere_353 : decode cX10_commandHere 353 = .ok (.aload_n 0, 1) := by decide +kernel
theorem dX10_commandHere_354 : decode cX10_commandHere 354 = .ok (.bipush 43, 2) := by decide +kernel
theorem dX10_commandHere_356 : decode cX10_commandHere 356 = .ok (.iload_n 1, 1) := by decide +kernel
theorem dX10_commandHere_357 : decode cX10_commandHere 357 = .ok (.iconst 1, 1) := by decide +kernel
theorem dX10_commandHere_358 : decode cX10_commandHere 358 = .ok (.iadd, 1) := by decide +kernel
theorem dX10_commandHere_359 : decode cX10_commandHere 359 = .ok (.iconst 2, 1) := by decide +kernel
theorem dX10_commandHere_360 : decode cX10_commandHere 360 = .ok (.invokevirtual 206, 3) := by decide +kernel
theorem dX10_commandHere_363 : decode cX10_commandHere 363 = .ok (.ifCond .eq 20, 3) := by decide +kernel
theorem dX10_commandHere_366 : decode cX10_commandHere 366 = .ok (.aload_n 0, 1) := by decide +kernel
theorem dX10_commandHere_367 : decode cX10_commandHere 367 = .ok (.bipush 32, 2) := by decide +kernel
theorem dX10_commandHere_369 : decode cX10_commandHere 369 = .ok (.iload_n 1, 1) := by decide +kernel
theorem dX10_commandHere_370 : decode cX10_commandHere 370 = .ok (.iconst 2, 1) := by decide +kernel
theorem dX10_commandHere_371 : decode cX10_commandHere 371 = .ok (.iadd, 1) := by decide +kernel
theorem dX10_commandHere_372 : decode cX10_commandHere 372 = .ok (.iconst 2, 1) := by decide +kernel
theorem dX10_commandHere_373 : decode cX10_commandHere 373 = .ok (.invokevirtual 206, 3) := by decide +kernel
theorem dX10_commandHere_376 : decode cX10_commandHere 376 = .ok (.ifCond .eq 7, 3) := by decide +kernel
theorem dX10_commandHere_379 : decode cX10_commandHere 379 = .ok (.iconst 1, 1) := by decide +kernel
theorem dX10_commandHere_380 : decode cX10_commandHere 380 = .ok (.goto 4, 3) := by decide +kernel
theorem dX10_commandHere_383 : decode cX10_commandHere 383 = .ok (.iconst 0, 1) := by decide +kernel
theorem dX10_commandHere_384 : decode cX10_commandHere 384 = .ok (.ireturn, 1) := by decide +kernel
theorem dX10_isText_0 : decode cX10_isText 0 = .ok (.aload_n 0, 1) := by decide +kernel
theorem dX10_isText_1 : decode cX10_isText 1 = .ok (.iconst 0, 1) := by decide +kernel
theorem dX10_isText_2 : decode cX10_isText 2 = .ok (.putfield 178, 3) := by decide +kernel
theorem dX10_isText_5 : decode cX10_isText 5 = .ok (.aload_n 0, 1) := by decide +kernel
theorem dX10_isText_6 : decode cX10_isText 6 = .ok (.iconst 0, 1) := by decide +kernel
theorem dX10_isText_7 : decode cX10_isText 7 = .ok (.putfield 184, 3) := by decide +kernel
theorem dX10_isText_10 : decode cX10_isText 10 = .ok (.aload_n 0, 1) := by decide +kernel
theorem dX10_isText_11 : decode cX10_isText 11 = .ok (.invokevirtual 235, 3) := by decide +kernel
theorem dX10_isText_14 : decode cX10_isText 14 = .ok (.ifCond .ne 5, 3) := by decide +kernel
theorem dX10_isText_17 : decode cX10_isText 17 = .ok (.iconst 0, 1) := by decide +kernel
theorem dX10_isText_18 : decode cX10_isText 18 = .ok (.ireturn, 1) := by decide +kernel
theorem dX10_isText_19 : decode cX10_isText 19 = .ok (.aload_n 0, 1) := by decide +kernel
theorem dX10_isText_20 : decode cX10_isText 20 = .ok (.dup, 1) := by decide +kernel
theorem dX10_isText_21 : decode cX10_isText 21 = .ok (.getfield 184, 3) := by decide +kernel
theorem dX10_isText_24 : decode cX10_isText 24 = .ok (.iconst 1, 1) := by decide +kernel
theorem dX10_isText_25 : decode cX10_isText 25 = .ok (.iadd, 1) := by decide +kernel
theorem dX10_isText_26 : decode cX10_isText 26 = .ok (.putfield 184, 3) := by decide +kernel
theorem dX10_isText_29 : decode cX10_isText 29 = .ok (.aload_n 0, 1) := by decide +kernel
theorem dX10_isText_30 : decode cX10_isText 30 = .ok (.bipush 59, 2) := by decide +kernel
theorem dX10_isText_32 : decode cX10_isText 32 = .ok (.invokevirtual 194, 3) := by decide +kernel
theorem dX10_isText_35 : decode cX10_isText 35 = .ok (.ifCond .ne (-25), 3) := by decide +kernel
theorem dX10_isText_38 : decode cX10_isText 38 = .ok (.aload_n 0, 1) := by decide +kernel
theorem dX10_isText_39 : decode cX10_isText 39 = .ok (.getfield 178, 3) := by decide +kernel
theorem dX10_isText_42 : decode cX10_isText 42 = .ok (.aload_n 0, 1) := by decide +kernel
theorem dX10_isText_43 : decode cX10_isText 43 = .ok (.getfield 175, 3) := by decide +kernel
theorem dX10_isText_46 : decode cX10_isText 46 = .ok (.if_icmp .ne 7, 3) := by decide +kernel
theorem dX10_isText_49 : decode cX10_isText 49 = .ok (.iconst 1, 1) := by decide +kernel
theorem dX10_isText_50 : decode cX10_isText 50 = .ok (.goto 4, 3) := by decide +kernel
theorem dX10_isText_53 : decode cX10_isText 53 = .ok (.iconst 0, 1) := by decide +kernel
theorem dX10_isText_54 : decode cX10_isText 54 = .ok (.ireturn, 1) := by decide +kernel
theorem dX10_carries_0 : decode cX10_carries 0 = .ok (.aload_n 0, 1) := by decide +kernel
theorem dX10_carries_1 : decode cX10_carries 1 = .ok (.getfield 33, 3) := by decide +kernel
theorem dX10_carries_4 : decode cX10_carries 4 = .ok (.iload_n 1, 1) := by decide +kernel
theorem dX10_carries_5 : decode cX10_carries 5 = .ok (.iconst 1, 1) := by decide +kernel
theorem dX10_carries_6 : decode cX10_carries 6 = .ok (.iadd, 1) := by decide +kernel
theorem dX10_carries_7 : decode cX10_carries 7 = .ok (.iaload, 1) := by decide +kernel
theorem dX10_carries_8 : decode cX10_carries 8 = .ok (.istore_n 2, 1) := by decide +kernel
theorem dX10_carries_9 : decode cX10_carries 9 = .ok (.aload_n 0, 1) := by decide +kernel
theorem dX10_carries_10 : decode cX10_carries 10 = .ok (.getfield 33, 3) := by decide +kernel
theorem dX10_carries_13 : decode cX10_carries 13 = .ok (.iload_n 1, 1) := by decide +kernel
theorem dX10_carries_14 : decode cX10_carries 14 = .ok (.iconst 2, 1) := by decide +kernel
theorem dX10_carries_15 : decode cX10_carries 15 = .ok (.iadd, 1) := by decide +kernel
theorem dX10_carries_16 : decode cX10_carries 16 = .ok (.iaload, 1) := by decide +kernel
theorem dX10_carries_17 : decode cX10_carries 17 = .ok (.istore_n 3, 1) := by decide +kernel
theorem dX10_carries_18 : decode cX10_carries 18 = .ok (.aload_n 0, 1) := by decide +kernel
theorem dX10_carries_19 : decode cX10_carries 19 = .ok (.getfield 33, 3) := by decide +kernel
theorem dX10_carries_22 : decode cX10_carries 22 = .ok (.iload_n 1, 1) := by decide +kernel
theorem dX10_carries_23 : decode cX10_carries 23 = .ok (.iaload, 1) := by decide +kernel
theorem dX10_carries_24 : decode cX10_carries 24 = .ok (.tableswitch 138 0 10 #[60, 67, 74, 81, 88, 103, 109, 115, 122, 127, 133], 60) := by decide +kernel
theorem dX10_carries_84 : decode cX10_carries 84 = .ok (.aload_n 0, 1) := by decide +kernel
theorem dX10_carries_85 : decode cX10_carries 85 = .ok (.iload_n 2, 1) := by decide +kernel
theorem dX10_carries_86 : decode cX10_carries 86 = .ok (.iload_n 3, 1) := by decide +kernel
theorem dX10_carries_87 : decode cX10_carries 87 = .ok (.invokevirtual 239, 3) := by decide +kernel
theorem dX10_carries_90 : decode cX10_carries 90 = .ok (.ireturn, 1) := by decide +kernel
theorem dX10_carries_91 : decode cX10_carries 91 = .ok (.aload_n 0, 1) := by decide +kernel
theorem dX10_carries_92 : decode cX10_carries 92 = .ok (.iload_n 2, 1) := by decide +kernel
theorem dX10_carries_93 : decode cX10_carries 93 = .ok (.iload_n 3, 1) := by decide +kernel
theorem dX10_carries_94 : decode cX10_carries 94 = .ok (.invokevirtual 242, 3) := by decide +kernel
theorem dX10_carries_97 : decode cX10_carries 97 = .ok (.ireturn, 1) := by decide +kernel
theorem dX10_carries_98 : decode cX10_carries 98 = .ok (.aload_n 0, 1) := by decide +kernel
theorem dX10_carries_99 : decode cX10_carries 99 = .ok (.iload_n 2, 1) := by decide +kernel
theorem dX10_carries_100 : decode cX10_carries 100 = .ok (.iload_n 3, 1) := by decide +kernel
theorem dX10_carries_101 : decode cX10_carries 101 = .ok (.invokevirtual 245, 3) := by decide +kernel
theorem dX10_carries_104 : decode cX10_carries 104 = .ok (.ireturn, 1) := by decide +kernel
theorem dX10_carries_105 : decode cX10_carries 105 = .ok (.aload_n 0, 1) := by decide +kernel
theorem dX10_carries_106 : decode cX10_carries 106 = .ok (.iload_n 2, 1) := by decide +kernel
theorem dX10_carries_107 : decode cX10_carries 107 = .ok (.iload_n 3, 1) := by decide +kernel
theorem dX10_carries_108 : decode cX10_carries 108 = .ok (.invokevirtual 248, 3) := by decide +kernel
theorem dX10_carries_111 : decode cX10_carries 111 = .ok (.ireturn, 1) := by decide +kernel
theorem dX10_carries_112 : decode cX10_carries 112 = .ok (.aload_n 0, 1) := by decide +kernel
theorem dX10_carries_113 : decode cX10_carries 113 = .ok (.iload_n 2, 1) := by decide +kernel
theorem dX10_carries_114 : decode cX10_carries 114 = .ok (.iload_n 3, 1) := by decide +kernel
theorem dX10_carries_115 : decode cX10_carries 115 = .ok (.aload_n 0, 1) := by decide +kernel
theorem dX10_carries_116 : decode cX10_carries 116 = .ok (.getfield 33, 3) := by decide +kernel
theorem dX10_carries_119 : decode cX10_carries 119 = .ok (.iload_n 1, 1) := by decide +kernel
theorem dX10_carries_120 : decode cX10_carries 120 = .ok (.iconst 3, 1) := by decide +kernel
theorem dX10_carries_121 : decode cX10_carries 121 = .ok (.iadd, 1) := by decide +kernel
theorem dX10_carries_122 : decode cX10_carries 122 = .ok (.iaload, 1) := by decide +kernel
theorem dX10_carries_123 : decode cX10_carries 123 = .ok (.invokevirtual 251, 3) := by decide +kernel
theorem dX10_carries_126 : decode cX10_carries 126 = .ok (.ireturn, 1) := by decide +kernel
theorem dX10_carries_127 : decode cX10_carries 127 = .ok (.aload_n 0, 1) := by decide +kernel
theorem dX10_carries_128 : decode cX10_carries 128 = .ok (.iload_n 2, 1) := by decide +kernel
theorem dX10_carries_129 : decode cX10_carries 129 = .ok (.invokevirtual 254, 3) := by decide +kernel
theorem dX10_carries_132 : decode cX10_carries 132 = .ok (.ireturn, 1) := by decide +kernel
theorem dX10_carries_133 : decode cX10_carries 133 = .ok (.aload_n 0, 1) := by decide +kernel
theorem dX10_carries_134 : decode cX10_carries 134 = .ok (.iload_n 2, 1) := by decide +kernel
theorem dX10_carries_135 : decode cX10_carries 135 = .ok (.invokevirtual 257, 3) := by decide +kernel
theorem dX10_carries_138 : decode cX10_carries 138 = .ok (.ireturn, 1) := by decide +kernel
theorem dX10_carries_139 : decode cX10_carries 139 = .ok (.aload_n 0, 1) := by decide +kernel
theorem dX10_carries_140 : decode cX10_carries 140 = .ok (.iload_n 2, 1) := by decide +kernel
theorem dX10_carries_141 : decode cX10_carries 141 = .ok (.iload_n 3, 1) := by decide +kernel
theorem dX10_carries_142 : decode cX10_carries 142 = .ok (.invokevirtual 260, 3) := by decide +kernel
theorem dX10_carries_145 : decode cX10_carries 145 = .ok (.ireturn, 1) := by decide +kernel
theorem dX10_carries_146 : decode cX10_carries 146 = .ok (.aload_n 0, 1) := by decide +kernel
theorem dX10_carries_147 : decode cX10_carries 147 = .ok (.invokevirtual 263, 3) := by decide +kernel
theorem dX10_carries_150 : decode cX10_carries 150 = .ok (.ireturn, 1) := by decide +kernel
theorem dX10_carries_151 : decode cX10_carries 151 = .ok (.aload_n 0, 1) := by decide +kernel
theorem dX10_carries_152 : decode cX10_carries 152 = .ok (.iload_n 2, 1) := by decide +kernel
theorem dX10_carries_153 : decode cX10_carries 153 = .ok (.invokevirtual 266, 3) := by decide +kernel
theorem dX10_carries_156 : decode cX10_carries 156 = .ok (.ireturn, 1) := by decide +kernel
theorem dX10_carries_157 : decode cX10_carries 157 = .ok (.aload_n 0, 1) := by decide +kernel
theorem dX10_carries_158 : decode cX10_carries 158 = .ok (.invokevirtual 269, 3) := by decide +kernel
theorem dX10_carries_161 : decode cX10_carries 161 = .ok (.ireturn, 1) := by decide +kernel
theorem dX10_carries_162 : decode cX10_carries 162 = .ok (.aload_n 0, 1) := by decide +kernel
theorem dX10_carries_163 : decode cX10_carries 163 = .ok (.iload_n 2, 1) := by decide +kernel
theorem dX10_carries_164 : decode cX10_carries 164 = .ok (.invokevirtual 272, 3) := by decide +kernel
theorem dX10_carries_167 : decode cX10_carries 167 = .ok (.ireturn, 1) := by decide +kernel
theorem dX10_deniesText_0 : decode cX10_deniesText 0 = .ok (.aload_n 0, 1) := by decide +kernel
theorem dX10_deniesText_1 : decode cX10_deniesText 1 = .ok (.getfield 39, 3) := by decide +kernel
theorem dX10_deniesText_4 : decode cX10_deniesText 4 = .ok (.ifCond .eq 10, 3) := by decide +kernel
theorem dX10_deniesText_7 : decode cX10_deniesText 7 = .ok (.aload_n 0, 1) := by decide +kernel
theorem dX10_deniesText_8 : decode cX10_deniesText 8 = .ok (.getfield 43, 3) := by decide +kernel
theorem dX10_deniesText_11 : decode cX10_deniesText 11 = .ok (.goto 5, 3) := by decide +kernel
theorem dX10_deniesText_14 : decode cX10_deniesText 14 = .ok (.bipush 10, 2) := by decide +kernel
theorem dX10_deniesText_16 : decode cX10_deniesText 16 = .ok (.istore_n 2, 1) := by decide +kernel
theorem dX10_deniesText_17 : decode cX10_deniesText 17 = .ok (.aload_n 0, 1) := by decide +kernel
theorem dX10_deniesText_18 : decode cX10_deniesText 18 = .ok (.iconst 2, 1) := by decide +kernel
theorem dX10_deniesText_19 : decode cX10_deniesText 19 = .ok (.bipush 9, 2) := by decide +kernel
theorem dX10_deniesText_21 : decode cX10_deniesText 21 = .ok (.iload_n 1, 1) := by decide +kernel
theorem dX10_deniesText_22 : decode cX10_deniesText 22 = .ok (.invokevirtual 80, 3) := by decide +kernel
theorem dX10_deniesText_25 : decode cX10_deniesText 25 = .ok (.pop, 1) := by decide +kernel
theorem dX10_deniesText_26 : decode cX10_deniesText 26 = .ok (.aload_n 0, 1) := by decide +kernel
theorem dX10_deniesText_27 : decode cX10_deniesText 27 = .ok (.iload_n 2, 1) := by decide +kernel
theorem dX10_deniesText_28 : decode cX10_deniesText 28 = .ok (.putfield 49, 3) := by decide +kernel
theorem dX10_deniesText_31 : decode cX10_deniesText 31 = .ok (.iconst 0, 1) := by decide +kernel
theorem dX10_deniesText_32 : decode cX10_deniesText 32 = .ok (.ireturn, 1) := by decide +kernel
theorem dX10_execute_0 : decode cX10_execute 0 = .ok (.aload_n 0, 1) := by decide +kernel
theorem dX10_execute_1 : decode cX10_execute 1 = .ok (.invokevirtual 275, 3) := by decide +kernel
theorem dX10_execute_4 : decode cX10_execute 4 = .ok (.istore_n 1, 1) := by decide +kernel
theorem dX10_execute_5 : decode cX10_execute 5 = .ok (.iload_n 1, 1) := by decide +kernel
theorem dX10_execute_6 : decode cX10_execute 6 = .ok (.ifCond .ne 11, 3) := by decide +kernel
theorem dX10_execute_9 : decode cX10_execute 9 = .ok (.aload_n 0, 1) := by decide +kernel
theorem dX10_execute_10 : decode cX10_execute 10 = .ok (.aload_n 0, 1) := by decide +kernel
theorem dX10_execute_11 : decode cX10_execute 11 = .ok (.getfield 178, 3) := by decide +kernel
theorem dX10_execute_14 : decode cX10_execute 14 = .ok (.putfield 25, 3) := by decide +kernel
theorem dX10_execute_17 : decode cX10_execute 17 = .ok (.aload_n 0, 1) := by decide +kernel
theorem dX10_execute_18 : decode cX10_execute 18 = .ok (.iconst 0, 1) := by decide +kernel
theorem dX10_execute_19 : decode cX10_execute 19 = .ok (.putfield 175, 3) := by decide +kernel
theorem dX10_execute_22 : decode cX10_execute 22 = .ok (.aload_n 0, 1) := by decide +kernel
theorem dX10_execute_23 : decode cX10_execute 23 = .ok (.iload_n 1, 1) := by decide +kernel
theorem dX10_execute_24 : decode cX10_execute 24 = .ok (.ifCond .eq 7, 3) := by decide +kernel
theorem dX10_execute_27 : decode cX10_execute 27 = .ok (.iconst 0, 1) := by decide +kernel
theorem dX10_execute_28 : decode cX10_execute 28 = .ok (.goto 4, 3) := by decide +kernel
theorem dX10_execute_31 : decode cX10_execute 31 = .ok (.iconst 1, 1) := by decide +kernel
theorem dX10_execute_32 : decode cX10_execute 32 = .ok (.invokevirtual 70, 3) := by decide +kernel
theorem dX10_execute_35 : decode cX10_execute 35 = .ok (.ifCond .eq 5, 3) := by decide +kernel
theorem dX10_execute_38 : decode cX10_execute 38 = .ok (.iconst 0, 1) := by decide +kernel
theorem dX10_execute_39 : decode cX10_execute 39 = .ok (.ireturn, 1) := by decide +kernel
theorem dX10_execute_40 : decode cX10_execute 40 = .ok (.aload_n 0, 1) := by decide +kernel
theorem dX10_execute_41 : decode cX10_execute 41 = .ok (.getfield 7, 3) := by decide +kernel
theorem dX10_execute_44 : decode cX10_execute 44 = .ok (.iconst 0, 1) := by decide +kernel
theorem dX10_execute_45 : decode cX10_execute 45 = .ok (.aload_n 0, 1) := by decide +kernel
theorem dX10_execute_46 : decode cX10_execute 46 = .ok (.getfield 19, 3) := by decide +kernel
theorem dX10_execute_49 : decode cX10_execute 49 = .ok (.iconst 0, 1) := by decide +kernel
theorem dX10_execute_50 : decode cX10_execute 50 = .ok (.invokestatic 58, 3) := by decide +kernel
theorem dX10_execute_53 : decode cX10_execute 53 = .ok (.aload_n 0, 1) := by decide +kernel
theorem dX10_execute_54 : decode cX10_execute 54 = .ok (.iconst 1, 1) := by decide +kernel
theorem dX10_execute_55 : decode cX10_execute 55 = .ok (.putfield 52, 3) := by decide +kernel
theorem dX10_execute_58 : decode cX10_execute 58 = .ok (.iconst 0, 1) := by decide +kernel
theorem dX10_execute_59 : decode cX10_execute 59 = .ok (.istore_n 2, 1) := by decide +kernel
theorem dX10_execute_60 : decode cX10_execute 60 = .ok (.iconst 0, 1) := by decide +kernel
theorem dX10_execute_61 : decode cX10_execute 61 = .ok (.istore_n 3, 1) := by decide +kernel
theorem dX10_execute_62 : decode cX10_execute 62 = .ok (.iload_n 2, 1) := by decide +kernel
theorem dX10_execute_63 : decode cX10_execute 63 = .ok (.aload_n 0, 1) := by decide +kernel
theorem dX10_execute_64 : decode cX10_execute 64 = .ok (.getfield 184, 3) := by decide +kernel
theorem dX10_execute_67 : decode cX10_execute 67 = .ok (.if_icmp .ge 31, 3) := by decide +kernel
theorem dX10_execute_70 : decode cX10_execute 70 = .ok (.aload_n 0, 1) := by decide +kernel
theorem dX10_execute_71 : decode cX10_execute 71 = .ok (.getfield 36, 3) := by decide +kernel
theorem dX10_execute_74 : decode cX10_execute 74 = .ok (.ifCond .ne 24, 3) := by decide +kernel
theorem dX10_execute_77 : decode cX10_execute 77 = .ok (.aload_n 0, 1) := by decide +kernel
theorem dX10_execute_78 : decode cX10_execute 78 = .ok (.iconst 4, 1) := by decide +kernel
theorem dX10_execute_79 : decode cX10_execute 79 = .ok (.iload_n 2, 1) := by decide +kernel
theorem dX10_execute_80 : decode cX10_execute 80 = .ok (.imul, 1) := by decide +kernel
theorem dX10_execute_81 : decode cX10_execute 81 = .ok (.invokevirtual 278, 3) := by decide +kernel
theorem dX10_execute_84 : decode cX10_execute 84 = .ok (.istore_n 3, 1) := by decide +kernel
theorem dX10_execute_85 : decode cX10_execute 85 = .ok (.aload_n 0, 1) := by decide +kernel
theorem dX10_execute_86 : decode cX10_execute 86 = .ok (.getfield 36, 3) := by decide +kernel
theorem dX10_execute_89 : decode cX10_execute 89 = .ok (.ifCond .ne (-27), 3) := by decide +kernel
theorem dX10_execute_92 : decode cX10_execute 92 = .ok (.iinc 2 1, 3) := by decide +kernel
theorem dX10_execute_95 : decode cX10_execute 95 = .ok (.goto (-33), 3) := by decide +kernel
theorem dX10_execute_98 : decode cX10_execute 98 = .ok (.aload_n 0, 1) := by decide +kernel
theorem dX10_execute_99 : decode cX10_execute 99 = .ok (.iconst 0, 1) := by decide +kernel
theorem dX10_execute_100 : decode cX10_execute 100 = .ok (.putfield 52, 3) := by decide +kernel
theorem dX10_execute_103 : decode cX10_execute 103 = .ok (.aload_n 0, 1) := by decide +kernel
theorem dX10_execute_104 : decode cX10_execute 104 = .ok (.getfield 36, 3) := by decide +kernel
theorem dX10_execute_107 : decode cX10_execute 107 = .ok (.ifCond .le 32, 3) := by decide +kernel
theorem dX10_execute_110 : decode cX10_execute 110 = .ok (.aload_n 0, 1) := by decide +kernel
theorem dX10_execute_111 : decode cX10_execute 111 = .ok (.getfield 19, 3) := by decide +kernel
theorem dX10_execute_114 : decode cX10_execute 114 = .ok (.iconst 0, 1) := by decide +kernel
theorem dX10_execute_115 : decode cX10_execute 115 = .ok (.aload_n 0, 1) := by decide +kernel
theorem dX10_execute_116 : decode cX10_execute 116 = .ok (.getfield 7, 3) := by decide +kernel
theorem dX10_execute_119 : decode cX10_execute 119 = .ok (.iconst 0, 1) := by decide +kernel
theorem dX10_execute_120 : decode cX10_execute 120 = .ok (.invokestatic 58, 3) := by decide +kernel
theorem dX10_execute_123 : decode cX10_execute 123 = .ok (.aload_n 0, 1) := by decide +kernel
theorem dX10_execute_124 : decode cX10_execute 124 = .ok (.iload_n 2, 1) := by decide +kernel
theorem dX10_execute_125 : decode cX10_execute 125 = .ok (.invokevirtual 281, 3) := by decide +kernel
theorem dX10_execute_128 : decode cX10_execute 128 = .ok (.iload_n 3, 1) := by decide +kernel
theorem dX10_execute_129 : decode cX10_execute 129 = .ok (.ifCond .le 7, 3) := by decide +kernel
theorem dX10_execute_132 : decode cX10_execute 132 = .ok (.iconst 0, 1) := by decide +kernel
theorem dX10_execute_133 : decode cX10_execute 133 = .ok (.goto 4, 3) := by decide +kernel
theorem dX10_execute_136 : decode cX10_execute 136 = .ok (.iload_n 3, 1) := by decide +kernel
theorem dX10_execute_137 : decode cX10_execute 137 = .ok (.iadd, 1) := by decide +kernel
theorem dX10_execute_138 : decode cX10_execute 138 = .ok (.ireturn, 1) := by decide +kernel
theorem dX10_execute_139 : decode cX10_execute 139 = .ok (.aload_n 0, 1) := by decide +kernel
theorem dX10_execute_140 : decode cX10_execute 140 = .ok (.aload_n 0, 1) := by decide +kernel
theorem dX10_execute_141 : decode cX10_execute 141 = .ok (.getfield 19, 3) := by decide +kernel
theorem dX10_execute_144 : decode cX10_execute 144 = .ok (.invokevirtual 84, 3) := by decide +kernel
theorem dX10_execute_147 : decode cX10_execute 147 = .ok (.aload_n 0, 1) := by decide +kernel
theorem dX10_execute_148 : decode cX10_execute 148 = .ok (.getfield 184, 3) := by decide +kernel
theorem dX10_execute_151 : decode cX10_execute 151 = .ok (.ireturn, 1) := by decide +kernel
theorem dX10_faultPosition_0 : decode cX10_faultPosition 0 = .ok (.aload_n 0, 1) := by decide +kernel
theorem dX10_faultPosition_1 : decode cX10_faultPosition 1 = .ok (.aload_n 0, 1) := by decide +kernel
theorem dX10_faultPosition_2 : decode cX10_faultPosition 2 = .ok (.getfield 25, 3) := by decide +kernel
theorem dX10_faultPosition_5 : decode cX10_faultPosition 5 = .ok (.ifCond .ge 7, 3) := by decide +kernel
theorem dX10_faultPosition_8 : decode cX10_faultPosition 8 = .ok (.iconst 1, 1) := by decide +kernel
theorem dX10_faultPosition_9 : decode cX10_faultPosition 9 = .ok (.goto 4, 3) := by decide +kernel
theorem dX10_faultPosition_12 : decode cX10_faultPosition 12 = .ok (.iconst 0, 1) := by decide +kernel
theorem dX10_faultPosition_13 : decode cX10_faultPosition 13 = .ok (.invokevirtual 70, 3) := by decide +kernel
theorem dX10_faultPosition_16 : decode cX10_faultPosition 16 = .ok (.ifCond .eq 7, 3) := by decide +kernel
theorem dX10_faultPosition_19 : decode cX10_faultPosition 19 = .ok (.iconst 0, 1) := by decide +kernel
theorem dX10_faultPosition_20 : decode cX10_faultPosition 20 = .ok (.goto 7, 3) := by decide +kernel
theorem dX10_faultPosition_23 : decode cX10_faultPosition 23 = .ok (.aload_n 0, 1) := by decide +kernel
theorem dX10_faultPosition_24 : decode cX10_faultPosition 24 = .ok (.getfield 25, 3) := by decide +kernel
theorem dX10_faultPosition_27 : decode cX10_faultPosition 27 = .ok (.ireturn, 1) := by decide +kernel
theorem dX10_writes_0 : decode cX10_writes 0 = .ok (.aload_n 0, 1) := by decide +kernel
theorem dX10_writes_1 : decode cX10_writes 1 = .ok (.getfield 29, 3) := by decide +kernel
theorem dX10_writes_4 : decode cX10_writes 4 = .ok (.aload_n 0, 1) := by decide +kernel
theorem dX10_writes_5 : decode cX10_writes 5 = .ok (.getfield 284, 3) := by decide +kernel
theorem dX10_writes_8 : decode cX10_writes 8 = .ok (.iload_n 1, 1) := by decide +kernel
theorem dX10_writes_9 : decode cX10_writes 9 = .ok (.i2c, 1) := by decide +kernel
theorem dX10_writes_10 : decode cX10_writes 10 = .ok (.castore, 1) := by decide +kernel
theorem dX10_writes_11 : decode cX10_writes 11 = .ok (.aload_n 0, 1) := by decide +kernel
theorem dX10_writes_12 : decode cX10_writes 12 = .ok (.dup, 1) := by decide +kernel
theorem dX10_writes_13 : decode cX10_writes 13 = .ok (.getfield 284, 3) := by decide +kernel
theorem dX10_writes_16 : decode cX10_writes 16 = .ok (.iconst 1, 1) := by decide +kernel
theorem dX10_writes_17 : decode cX10_writes 17 = .ok (.iadd, 1) := by decide +kernel
theorem dX10_writes_18 : decode cX10_writes 18 = .ok (.putfield 284, 3) := by decide +kernel
theorem dX10_writes_21 : decode cX10_writes 21 = .ok (.return_, 1) := by decide +kernel
theorem dX10_writesNumber_0 : decode cX10_writesNumber 0 = .ok (.iload_n 1, 1) := by decide +kernel
theorem dX10_writesNumber_1 : decode cX10_writesNumber 1 = .ok (.bipush 9, 2) := by decide +kernel
theorem dX10_writesNumber_3 : decode cX10_writesNumber 3 = .ok (.if_icmp .le 11, 3) := by decide +kernel
theorem dX10_writesNumber_6 : decode cX10_writesNumber 6 = .ok (.aload_n 0, 1) := by decide +kernel
theorem dX10_writesNumber_7 : decode cX10_writesNumber 7 = .ok (.iload_n 1, 1) := by decide +kernel
theorem dX10_writesNumber_8 : decode cX10_writesNumber 8 = .ok (.bipush 10, 2) := by decide +kernel
theorem dX10_writesNumber_10 : decode cX10_writesNumber 10 = .ok (.idiv, 1) := by decide +kernel
theorem dX10_writesNumber_11 : decode cX10_writesNumber 11 = .ok (.invokevirtual 287, 3) := by decide +kernel
theorem dX10_writesNumber_14 : decode cX10_writesNumber 14 = .ok (.aload_n 0, 1) := by decide +kernel
theorem dX10_writesNumber_15 : decode cX10_writesNumber 15 = .ok (.bipush 48, 2) := by decide +kernel
theorem dX10_writesNumber_17 : decode cX10_writesNumber 17 = .ok (.iload_n 1, 1) := by decide +kernel
theorem dX10_writesNumber_18 : decode cX10_writesNumber 18 = .ok (.bipush 10, 2) := by decide +kernel
theorem dX10_writesNumber_20 : decode cX10_writesNumber 20 = .ok (.irem, 1) := by decide +kernel
theorem dX10_writesNumber_21 : decode cX10_writesNumber 21 = .ok (.iadd, 1) := by decide +kernel
theorem dX10_writesNumber_22 : decode cX10_writesNumber 22 = .ok (.invokevirtual 291, 3) := by decide +kernel
theorem dX10_writesNumber_25 : decode cX10_writesNumber 25 = .ok (.return_, 1) := by decide +kernel
theorem dX10_writesBehind_0 : decode cX10_writesBehind 0 = .ok (.aload_n 0, 1) := by decide +kernel
theorem dX10_writesBehind_1 : decode cX10_writesBehind 1 = .ok (.iload_n 1, 1) := by decide +kernel
theorem dX10_writesBehind_2 : decode cX10_writesBehind 2 = .ok (.invokevirtual 291, 3) := by decide +kernel
theorem dX10_writesBehind_5 : decode cX10_writesBehind 5 = .ok (.aload_n 0, 1) := by decide +kernel
theorem dX10_writesBehind_6 : decode cX10_writesBehind 6 = .ok (.iload_n 2, 1) := by decide +kernel
theorem dX10_writesBehind_7 : decode cX10_writesBehind 7 = .ok (.invokevirtual 287, 3) := by decide +kernel
theorem dX10_writesBehind_10 : decode cX10_writesBehind 10 = .ok (.return_, 1) := by decide +kernel
theorem dX10_writeNote_0 : decode cX10_writeNote 0 = .ok (.aload_n 0, 1) := by decide +kernel
theorem dX10_writeNote_1 : decode cX10_writeNote 1 = .ok (.iload_n 1, 1) := by decide +kernel
theorem dX10_writeNote_2 : decode cX10_writeNote 2 = .ok (.invokevirtual 107, 3) := by decide +kernel
theorem dX10_writeNote_5 : decode cX10_writeNote 5 = .ok (.ifCond .eq 5, 3) := by decide +kernel
theorem dX10_writeNote_8 : decode cX10_writeNote 8 = .ok (.iconst 0, 1) := by decide +kernel
theorem dX10_writeNote_9 : decode cX10_writeNote 9 = .ok (.ireturn, 1) := by decide +kernel
theorem dX10_writeNote_10 : decode cX10_writeNote 10 = .ok (.aload_n 0, 1) := by decide +kernel
theorem dX10_writeNote_11 : decode cX10_writeNote 11 = .ok (.iconst 0, 1) := by decide +kernel
theorem dX10_writeNote_12 : decode cX10_writeNote 12 = .ok (.putfield 284, 3) := by decide +kernel
theorem dX10_writeNote_15 : decode cX10_writeNote 15 = .ok (.aload_n 0, 1) := by decide +kernel
theorem dX10_writeNote_16 : decode cX10_writeNote 16 = .ok (.iload_n 1, 1) := by decide +kernel
theorem dX10_writeNote_17 : decode cX10_writeNote 17 = .ok (.invokevirtual 287, 3) := by decide +kernel
theorem dX10_writeNote_20 : decode cX10_writeNote 20 = .ok (.aload_n 0, 1) := by decide +kernel
theorem dX10_writeNote_21 : decode cX10_writeNote 21 = .ok (.bipush 112, 2) := by decide +kernel
theorem dX10_writeNote_23 : decode cX10_writeNote 23 = .ok (.aload_n 0, 1) := by decide +kernel
theorem dX10_writeNote_24 : decode cX10_writeNote 24 = .ok (.iload_n 1, 1) := by decide +kernel
theorem dX10_writeNote_25 : decode cX10_writeNote 25 = .ok (.iconst 0, 1) := by decide +kernel
theorem dX10_writeNote_26 : decode cX10_writeNote 26 = .ok (.invokevirtual 73, 3) := by decide +kernel
theorem dX10_writeNote_29 : decode cX10_writeNote 29 = .ok (.invokevirtual 294, 3) := by decide +kernel
theorem dX10_writeNote_32 : decode cX10_writeNote 32 = .ok (.aload_n 0, 1) := by decide +kernel
theorem dX10_writeNote_33 : decode cX10_writeNote 33 = .ok (.bipush 119, 2) := by decide +kernel
theorem dX10_writeNote_35 : decode cX10_writeNote 35 = .ok (.aload_n 0, 1) := by decide +kernel
theorem dX10_writeNote_36 : decode cX10_writeNote 36 = .ok (.iload_n 1, 1) := by decide +kernel
theorem dX10_writeNote_37 : decode cX10_writeNote 37 = .ok (.iconst 1, 1) := by decide +kernel
theorem dX10_writeNote_38 : decode cX10_writeNote 38 = .ok (.invokevirtual 73, 3) := by decide +kernel
theorem dX10_writeNote_41 : decode cX10_writeNote 41 = .ok (.invokevirtual 294, 3) := by decide +kernel
theorem dX10_writeNote_44 : decode cX10_writeNote 44 = .ok (.aload_n 0, 1) := by decide +kernel
theorem dX10_writeNote_45 : decode cX10_writeNote 45 = .ok (.aload_n 0, 1) := by decide +kernel
theorem dX10_writeNote_46 : decode cX10_writeNote 46 = .ok (.iload_n 1, 1) := by decide +kernel
theorem dX10_writeNote_47 : decode cX10_writeNote 47 = .ok (.invokevirtual 110, 3) := by decide +kernel
theorem dX10_writeNote_50 : decode cX10_writeNote 50 = .ok (.invokevirtual 291, 3) := by decide +kernel
theorem dX10_writeNote_53 : decode cX10_writeNote 53 = .ok (.iconst 0, 1) := by decide +kernel
theorem dX10_writeNote_54 : decode cX10_writeNote 54 = .ok (.istore_n 2, 1) := by decide +kernel
theorem dX10_writeNote_55 : decode cX10_writeNote 55 = .ok (.iload_n 2, 1) := by decide +kernel
theorem dX10_writeNote_56 : decode cX10_writeNote 56 = .ok (.aload_n 0, 1) := by decide +kernel
theorem dX10_writeNote_57 : decode cX10_writeNote 57 = .ok (.getfield 7, 3) := by decide +kernel
theorem dX10_writeNote_60 : decode cX10_writeNote 60 = .ok (.iconst 0, 1) := by decide +kernel
theorem dX10_writeNote_61 : decode cX10_writeNote 61 = .ok (.iaload, 1) := by decide +kernel
theorem dX10_writeNote_62 : decode cX10_writeNote 62 = .ok (.if_icmp .ge 25, 3) := by decide +kernel
theorem dX10_writeNote_65 : decode cX10_writeNote 65 = .ok (.aload_n 0, 1) := by decide +kernel
theorem dX10_writeNote_66 : decode cX10_writeNote 66 = .ok (.iload_n 1, 1) := by decide +kernel
theorem dX10_writeNote_67 : decode cX10_writeNote 67 = .ok (.iload_n 2, 1) := by decide +kernel
theorem dX10_writeNote_68 : decode cX10_writeNote 68 = .ok (.invokevirtual 96, 3) := by decide +kernel
theorem dX10_writeNote_71 : decode cX10_writeNote 71 = .ok (.ifCond .eq 10, 3) := by decide +kernel
theorem dX10_writeNote_74 : decode cX10_writeNote 74 = .ok (.aload_n 0, 1) := by decide +kernel
theorem dX10_writeNote_75 : decode cX10_writeNote 75 = .ok (.bipush 62, 2) := by decide +kernel
theorem dX10_writeNote_77 : decode cX10_writeNote 77 = .ok (.iload_n 2, 1) := by decide +kernel
theorem dX10_writeNote_78 : decode cX10_writeNote 78 = .ok (.invokevirtual 294, 3) := by decide +kernel
theorem dX10_writeNote_81 : decode cX10_writeNote 81 = .ok (.iinc 2 1, 3) := by decide +kernel
theorem dX10_writeNote_84 : decode cX10_writeNote 84 = .ok (.goto (-29), 3) := by decide +kernel
theorem dX10_writeNote_87 : decode cX10_writeNote 87 = .ok (.aload_n 0, 1) := by decide +kernel
theorem dX10_writeNote_88 : decode cX10_writeNote 88 = .ok (.getfield 284, 3) := by decide +kernel
theorem dX10_writeNote_91 : decode cX10_writeNote 91 = .ok (.ireturn, 1) := by decide +kernel
theorem dX10_lineCharacter_0 : decode cX10_lineCharacter 0 = .ok (.aload_n 0, 1) := by decide +kernel
theorem dX10_lineCharacter_1 : decode cX10_lineCharacter 1 = .ok (.iload_n 1, 1) := by decide +kernel
theorem dX10_lineCharacter_2 : decode cX10_lineCharacter 2 = .ok (.iconst 0, 1) := by decide +kernel
theorem dX10_lineCharacter_3 : decode cX10_lineCharacter 3 = .ok (.aload_n 0, 1) := by decide +kernel
theorem dX10_lineCharacter_4 : decode cX10_lineCharacter 4 = .ok (.getfield 284, 3) := by decide +kernel
theorem dX10_lineCharacter_7 : decode cX10_lineCharacter 7 = .ok (.iconst 1, 1) := by decide +kernel
theorem dX10_lineCharacter_8 : decode cX10_lineCharacter 8 = .ok (.isub, 1) := by decide +kernel
theorem dX10_lineCharacter_9 : decode cX10_lineCharacter 9 = .ok (.invokestatic 62, 3) := by decide +kernel
theorem dX10_lineCharacter_12 : decode cX10_lineCharacter 12 = .ok (.ifCond .eq 7, 3) := by decide +kernel
theorem dX10_lineCharacter_15 : decode cX10_lineCharacter 15 = .ok (.iconst 0, 1) := by decide +kernel
theorem dX10_lineCharacter_16 : decode cX10_lineCharacter 16 = .ok (.goto 4, 3) := by decide +kernel
theorem dX10_lineCharacter_19 : decode cX10_lineCharacter 19 = .ok (.iconst 1, 1) := by decide +kernel
theorem dX10_lineCharacter_20 : decode cX10_lineCharacter 20 = .ok (.invokevirtual 70, 3) := by decide +kernel
theorem dX10_lineCharacter_23 : decode cX10_lineCharacter 23 = .ok (.ifCond .eq 8, 3) := by decide +kernel
theorem dX10_lineCharacter_26 : decode cX10_lineCharacter 26 = .ok (.bipush 32, 2) := by decide +kernel
theorem dX10_lineCharacter_28 : decode cX10_lineCharacter 28 = .ok (.goto 9, 3) := by decide +kernel
theorem dX10_lineCharacter_31 : decode cX10_lineCharacter 31 = .ok (.aload_n 0, 1) := by decide +kernel
theorem dX10_lineCharacter_32 : decode cX10_lineCharacter 32 = .ok (.getfield 29, 3) := by decide +kernel
theorem dX10_lineCharacter_35 : decode cX10_lineCharacter 35 = .ok (.iload_n 1, 1) := by decide +kernel
theorem dX10_lineCharacter_36 : decode cX10_lineCharacter 36 = .ok (.caload, 1) := by decide +kernel
theorem dX10_lineCharacter_37 : decode cX10_lineCharacter 37 = .ok (.ireturn, 1) := by decide +kernel
theorem dX10_denial_0 : decode cX10_denial 0 = .ok (.aload_n 0, 1) := by decide +kernel
theorem dX10_denial_1 : decode cX10_denial 1 = .ok (.aload_n 0, 1) := by decide +kernel
theorem dX10_denial_2 : decode cX10_denial 2 = .ok (.getfield 43, 3) := by decide +kernel
theorem dX10_denial_5 : decode cX10_denial 5 = .ok (.ifCond .ne 7, 3) := by decide +kernel
theorem dX10_denial_8 : decode cX10_denial 8 = .ok (.iconst 1, 1) := by decide +kernel
theorem dX10_denial_9 : decode cX10_denial 9 = .ok (.goto 4, 3) := by decide +kernel
theorem dX10_denial_12 : decode cX10_denial 12 = .ok (.iconst 0, 1) := by decide +kernel
theorem dX10_denial_13 : decode cX10_denial 13 = .ok (.invokevirtual 70, 3) := by decide +kernel
theorem dX10_denial_16 : decode cX10_denial 16 = .ok (.ifCond .eq 7, 3) := by decide +kernel
theorem dX10_denial_19 : decode cX10_denial 19 = .ok (.iconst 0, 1) := by decide +kernel
theorem dX10_denial_20 : decode cX10_denial 20 = .ok (.goto 7, 3) := by decide +kernel
theorem dX10_denial_23 : decode cX10_denial 23 = .ok (.aload_n 0, 1) := by decide +kernel
theorem dX10_denial_24 : decode cX10_denial 24 = .ok (.getfield 43, 3) := by decide +kernel
theorem dX10_denial_27 : decode cX10_denial 27 = .ok (.ireturn, 1) := by decide +kernel
theorem dX10_denialDetail_0 : decode cX10_denialDetail 0 = .ok (.aload_n 0, 1) := by decide +kernel
theorem dX10_denialDetail_1 : decode cX10_denialDetail 1 = .ok (.aload_n 0, 1) := by decide +kernel
theorem dX10_denialDetail_2 : decode cX10_denialDetail 2 = .ok (.getfield 43, 3) := by decide +kernel
theorem dX10_denialDetail_5 : decode cX10_denialDetail 5 = .ok (.ifCond .ne 7, 3) := by decide +kernel
theorem dX10_denialDetail_8 : decode cX10_denialDetail 8 = .ok (.iconst 1, 1) := by decide +kernel
theorem dX10_denialDetail_9 : decode cX10_denialDetail 9 = .ok (.goto 4, 3) := by decide +kernel
theorem dX10_denialDetail_12 : decode cX10_denialDetail 12 = .ok (.iconst 0, 1) := by decide +kernel
theorem dX10_denialDetail_13 : decode cX10_denialDetail 13 = .ok (.invokevirtual 70, 3) := by decide +kernel
theorem dX10_denialDetail_16 : decode cX10_denialDetail 16 = .ok (.ifCond .eq 7, 3) := by decide +kernel
theorem dX10_denialDetail_19 : decode cX10_denialDetail 19 = .ok (.iconst 0, 1) := by decide +kernel
theorem dX10_denialDetail_20 : decode cX10_denialDetail 20 = .ok (.goto 7, 3) := by decide +kernel
theorem dX10_denialDetail_23 : decode cX10_denialDetail 23 = .ok (.aload_n 0, 1) := by decide +kernel
theorem dX10_denialDetail_24 : decode cX10_denialDetail 24 = .ok (.getfield 46, 3) := by decide +kernel
theorem dX10_denialDetail_27 : decode cX10_denialDetail 27 = .ok (.ireturn, 1) := by decide +kernel
theorem dX10_denialCause_0 : decode cX10_denialCause 0 = .ok (.aload_n 0, 1) := by decide +kernel
theorem dX10_denialCause_1 : decode cX10_denialCause 1 = .ok (.aload_n 0, 1) := by decide +kernel
theorem dX10_denialCause_2 : decode cX10_denialCause 2 = .ok (.getfield 49, 3) := by decide +kernel
theorem dX10_denialCause_5 : decode cX10_denialCause 5 = .ok (.ifCond .ne 7, 3) := by decide +kernel
theorem dX10_denialCause_8 : decode cX10_denialCause 8 = .ok (.iconst 1, 1) := by decide +kernel
theorem dX10_denialCause_9 : decode cX10_denialCause 9 = .ok (.goto 4, 3) := by decide +kernel
theorem dX10_denialCause_12 : decode cX10_denialCause 12 = .ok (.iconst 0, 1) := by decide +kernel
theorem dX10_denialCause_13 : decode cX10_denialCause 13 = .ok (.invokevirtual 70, 3) := by decide +kernel
theorem dX10_denialCause_16 : decode cX10_denialCause 16 = .ok (.ifCond .eq 7, 3) := by decide +kernel
theorem dX10_denialCause_19 : decode cX10_denialCause 19 = .ok (.iconst 0, 1) := by decide +kernel
theorem dX10_denialCause_20 : decode cX10_denialCause 20 = .ok (.goto 7, 3) := by decide +kernel
theorem dX10_denialCause_23 : decode cX10_denialCause 23 = .ok (.aload_n 0, 1) := by decide +kernel
theorem dX10_denialCause_24 : decode cX10_denialCause 24 = .ok (.getfield 49, 3) := by decide +kernel
theorem dX10_denialCause_27 : decode cX10_denialCause 27 = .ok (.ireturn, 1) := by decide +kernel
theorem dX10_undo_0 : decode cX10_undo 0 = .ok (.aload_n 0, 1) := by decide +kernel
theorem dX10_undo_1 : decode cX10_undo 1 = .ok (.aload_n 0, 1) := by decide +kernel
theorem dX10_undo_2 : decode cX10_undo 2 = .ok (.getfield 55, 3) := by decide +kernel
theorem dX10_undo_5 : decode cX10_undo 5 = .ok (.ifCond .ne 7, 3) := by decide +kernel
theorem dX10_undo_8 : decode cX10_undo 8 = .ok (.iconst 1, 1) := by decide +kernel
theorem dX10_undo_9 : decode cX10_undo 9 = .ok (.goto 4, 3) := by decide +kernel
theorem dX10_undo_12 : decode cX10_undo 12 = .ok (.iconst 0, 1) := by decide +kernel
theorem dX10_undo_13 : decode cX10_undo 13 = .ok (.invokevirtual 70, 3) := by decide +kernel
theorem dX10_undo_16 : decode cX10_undo 16 = .ok (.ifCond .eq 5, 3) := by decide +kernel
theorem dX10_undo_19 : decode cX10_undo 19 = .ok (.iconst 0, 1) := by decide +kernel
theorem dX10_undo_20 : decode cX10_undo 20 = .ok (.ireturn, 1) := by decide +kernel
theorem dX10_undo_21 : decode cX10_undo 21 = .ok (.aload_n 0, 1) := by decide +kernel
theorem dX10_undo_22 : decode cX10_undo 22 = .ok (.dup, 1) := by decide +kernel
theorem dX10_undo_23 : decode cX10_undo 23 = .ok (.getfield 55, 3) := by decide +kernel
theorem dX10_undo_26 : decode cX10_undo 26 = .ok (.iconst 1, 1) := by decide +kernel
theorem dX10_undo_27 : decode cX10_undo 27 = .ok (.isub, 1) := by decide +kernel
theorem dX10_undo_28 : decode cX10_undo 28 = .ok (.putfield 55, 3) := by decide +kernel
theorem dX10_undo_31 : decode cX10_undo 31 = .ok (.aload_n 0, 1) := by decide +kernel
theorem dX10_undo_32 : decode cX10_undo 32 = .ok (.getfield 13, 3) := by decide +kernel
theorem dX10_undo_35 : decode cX10_undo 35 = .ok (.bipush 99, 2) := by decide +kernel
theorem dX10_undo_37 : decode cX10_undo 37 = .ok (.aload_n 0, 1) := by decide +kernel
theorem dX10_undo_38 : decode cX10_undo 38 = .ok (.getfield 55, 3) := by decide +kernel
theorem dX10_undo_41 : decode cX10_undo 41 = .ok (.imul, 1) := by decide +kernel
theorem dX10_undo_42 : decode cX10_undo 42 = .ok (.aload_n 0, 1) := by decide +kernel
theorem dX10_undo_43 : decode cX10_undo 43 = .ok (.getfield 7, 3) := by decide +kernel
theorem dX10_undo_46 : decode cX10_undo 46 = .ok (.iconst 0, 1) := by decide +kernel
theorem dX10_undo_47 : decode cX10_undo 47 = .ok (.invokestatic 58, 3) := by decide +kernel
theorem dX10_undo_50 : decode cX10_undo 50 = .ok (.aload_n 0, 1) := by decide +kernel
theorem dX10_undo_51 : decode cX10_undo 51 = .ok (.getfield 55, 3) := by decide +kernel
theorem dX10_undo_54 : decode cX10_undo 54 = .ok (.ireturn, 1) := by decide +kernel
theorem dX10_undoCount_0 : decode cX10_undoCount 0 = .ok (.aload_n 0, 1) := by decide +kernel
theorem dX10_undoCount_1 : decode cX10_undoCount 1 = .ok (.iconst 0, 1) := by decide +kernel
theorem dX10_undoCount_2 : decode cX10_undoCount 2 = .ok (.putfield 36, 3) := by decide +kernel
theorem dX10_undoCount_5 : decode cX10_undoCount 5 = .ok (.aload_n 0, 1) := by decide +kernel
theorem dX10_undoCount_6 : decode cX10_undoCount 6 = .ok (.getfield 55, 3) := by decide +kernel
theorem dX10_undoCount_9 : decode cX10_undoCount 9 = .ok (.ireturn, 1) := by decide +kernel
theorem dX10_saveSnapshot_0 : decode cX10_saveSnapshot 0 = .ok (.aload_n 0, 1) := by decide +kernel
theorem dX10_saveSnapshot_1 : decode cX10_saveSnapshot 1 = .ok (.iconst 0, 1) := by decide +kernel
theorem dX10_saveSnapshot_2 : decode cX10_saveSnapshot 2 = .ok (.putfield 36, 3) := by decide +kernel
theorem dX10_saveSnapshot_5 : decode cX10_saveSnapshot 5 = .ok (.aload_n 0, 1) := by decide +kernel
theorem dX10_saveSnapshot_6 : decode cX10_saveSnapshot 6 = .ok (.iconst 1, 1) := by decide +kernel
theorem dX10_saveSnapshot_7 : decode cX10_saveSnapshot 7 = .ok (.putfield 298, 3) := by decide +kernel
theorem dX10_saveSnapshot_10 : decode cX10_saveSnapshot 10 = .ok (.aload_n 0, 1) := by decide +kernel
theorem dX10_saveSnapshot_11 : decode cX10_saveSnapshot 11 = .ok (.getfield 7, 3) := by decide +kernel
theorem dX10_saveSnapshot_14 : decode cX10_saveSnapshot 14 = .ok (.iconst 0, 1) := by decide +kernel
theorem dX10_saveSnapshot_15 : decode cX10_saveSnapshot 15 = .ok (.aload_n 0, 1) := by decide +kernel
theorem dX10_saveSnapshot_16 : decode cX10_saveSnapshot 16 = .ok (.getfield 16, 3) := by decide +kernel
theorem dX10_saveSnapshot_19 : decode cX10_saveSnapshot 19 = .ok (.iconst 0, 1) := by decide +kernel
theorem dX10_saveSnapshot_20 : decode cX10_saveSnapshot 20 = .ok (.invokestatic 58, 3) := by decide +kernel
theorem dX10_saveSnapshot_23 : decode cX10_saveSnapshot 23 = .ok (.aload_n 0, 1) := by decide +kernel
theorem dX10_saveSnapshot_24 : decode cX10_saveSnapshot 24 = .ok (.getfield 7, 3) := by decide +kernel
theorem dX10_saveSnapshot_27 : decode cX10_saveSnapshot 27 = .ok (.iconst 0, 1) := by decide +kernel
theorem dX10_saveSnapshot_28 : decode cX10_saveSnapshot 28 = .ok (.iaload, 1) := by decide +kernel
theorem dX10_saveSnapshot_29 : decode cX10_saveSnapshot 29 = .ok (.ireturn, 1) := by decide +kernel
theorem dX10_restoreSnapshot_0 : decode cX10_restoreSnapshot 0 = .ok (.aload_n 0, 1) := by decide +kernel
theorem dX10_restoreSnapshot_1 : decode cX10_restoreSnapshot 1 = .ok (.aload_n 0, 1) := by decide +kernel
theorem dX10_restoreSnapshot_2 : decode cX10_restoreSnapshot 2 = .ok (.getfield 298, 3) := by decide +kernel
theorem dX10_restoreSnapshot_5 : decode cX10_restoreSnapshot 5 = .ok (.ifCond .eq 7, 3) := by decide +kernel
theorem dX10_restoreSnapshot_8 : decode cX10_restoreSnapshot 8 = .ok (.iconst 0, 1) := by decide +kernel
theorem dX10_restoreSnapshot_9 : decode cX10_restoreSnapshot 9 = .ok (.goto 4, 3) := by decide +kernel
theorem dX10_restoreSnapshot_12 : decode cX10_restoreSnapshot 12 = .ok (.iconst 1, 1) := by decide +kernel
theorem dX10_restoreSnapshot_13 : decode cX10_restoreSnapshot 13 = .ok (.invokevirtual 70, 3) := by decide +kernel
theorem dX10_restoreSnapshot_16 : decode cX10_restoreSnapshot 16 = .ok (.ifCond .eq 5, 3) := by decide +kernel
theorem dX10_restoreSnapshot_19 : decode cX10_restoreSnapshot 19 = .ok (.iconst 0, 1) := by decide +kernel
theorem dX10_restoreSnapshot_20 : decode cX10_restoreSnapshot 20 = .ok (.ireturn, 1) := by decide +kernel
theorem dX10_restoreSnapshot_21 : decode cX10_restoreSnapshot 21 = .ok (.aload_n 0, 1) := by decide +kernel
theorem dX10_restoreSnapshot_22 : decode cX10_restoreSnapshot 22 = .ok (.getfield 16, 3) := by decide +kernel
theorem dX10_restoreSnapshot_25 : decode cX10_restoreSnapshot 25 = .ok (.iconst 0, 1) := by decide +kernel
theorem dX10_restoreSnapshot_26 : decode cX10_restoreSnapshot 26 = .ok (.aload_n 0, 1) := by decide +kernel
theorem dX10_restoreSnapshot_27 : decode cX10_restoreSnapshot 27 = .ok (.getfield 7, 3) := by decide +kernel
theorem dX10_restoreSnapshot_30 : decode cX10_restoreSnapshot 30 = .ok (.iconst 0, 1) := by decide +kernel
theorem dX10_restoreSnapshot_31 : decode cX10_restoreSnapshot 31 = .ok (.invokestatic 58, 3) := by decide +kernel
theorem dX10_restoreSnapshot_34 : decode cX10_restoreSnapshot 34 = .ok (.aload_n 0, 1) := by decide +kernel
theorem dX10_restoreSnapshot_35 : decode cX10_restoreSnapshot 35 = .ok (.iconst 0, 1) := by decide +kernel
theorem dX10_restoreSnapshot_36 : decode cX10_restoreSnapshot 36 = .ok (.putfield 55, 3) := by decide +kernel
theorem dX10_restoreSnapshot_39 : decode cX10_restoreSnapshot 39 = .ok (.aload_n 0, 1) := by decide +kernel
theorem dX10_restoreSnapshot_40 : decode cX10_restoreSnapshot 40 = .ok (.getfield 7, 3) := by decide +kernel
theorem dX10_restoreSnapshot_43 : decode cX10_restoreSnapshot 43 = .ok (.iconst 0, 1) := by decide +kernel
theorem dX10_restoreSnapshot_44 : decode cX10_restoreSnapshot 44 = .ok (.iaload, 1) := by decide +kernel
theorem dX10_restoreSnapshot_45 : decode cX10_restoreSnapshot 45 = .ok (.ireturn, 1) := by decide +kernel
theorem dJ5_init_d00df_0 : decode cJ5_init_d00df 0 = .ok (.aload_n 0, 1) := by decide +kernel
theorem dJ5_init_d00df_1 : decode cJ5_init_d00df 1 = .ok (.invokespecial 3, 3) := by decide +kernel
theorem dJ5_init_d00df_4 : decode cJ5_init_d00df 4 = .ok (.getstatic 18, 3) := by decide +kernel
theorem dJ5_init_d00df_7 : decode cJ5_init_d00df 7 = .ok (.ifCond .eq 18, 3) := by decide +kernel
theorem dJ5_init_d00df_10 : decode cJ5_init_d00df 10 = .ok (.aload_n 0, 1) := by decide +kernel
theorem dJ5_init_d00df_11 : decode cJ5_init_d00df 11 = .ok (.iload_n 1, 1) := by decide +kernel
theorem dJ5_init_d00df_12 : decode cJ5_init_d00df 12 = .ok (.newarray .byte, 2) := by decide +kernel
theorem dJ5_init_d00df_14 : decode cJ5_init_d00df 14 = .ok (.putfield 15, 3) := by decide +kernel
theorem dJ5_init_d00df_17 : decode cJ5_init_d00df 17 = .ok (.aload_n 0, 1) := by decide +kernel
theorem dJ5_init_d00df_18 : decode cJ5_init_d00df 18 = .ok (.iconst 0, 1) := by decide +kernel
theorem dJ5_init_d00df_19 : decode cJ5_init_d00df 19 = .ok (.putfield 22, 3) := by decide +kernel
theorem dJ5_init_d00df_22 : decode cJ5_init_d00df 22 = .ok (.goto 16, 3) := by decide +kernel
theorem dJ5_init_d00df_25 : decode cJ5_init_d00df 25 = .ok (.aload_n 0, 1) := by decide +kernel
theorem dJ5_init_d00df_26 : decode cJ5_init_d00df 26 = .ok (.iload_n 1, 1) := by decide +kernel
theorem dJ5_init_d00df_27 : decode cJ5_init_d00df 27 = .ok (.invokestatic 26, 3) := by decide +kernel
theorem dJ5_init_d00df_30 : decode cJ5_init_d00df 30 = .ok (.putfield 15, 3) := by decide +kernel
theorem dJ5_init_d00df_33 : decode cJ5_init_d00df 33 = .ok (.aload_n 0, 1) := by decide +kernel
theorem dJ5_init_d00df_34 : decode cJ5_init_d00df 34 = .ok (.iconst 1, 1) := by decide +kernel
theorem dJ5_init_d00df_35 : decode cJ5_init_d00df 35 = .ok (.putfield 22, 3) := by decide +kernel
theorem dJ5_init_d00df_38 : decode cJ5_init_d00df 38 = .ok (.return_, 1) := by decide +kernel
theorem dJ5_length_8abf5_0 : decode cJ5_length_8abf5 0 = .ok (.aload_n 0, 1) := by decide +kernel
theorem dJ5_length_8abf5_1 : decode cJ5_length_8abf5 1 = .ok (.getfield 79, 3) := by decide +kernel
theorem dJ5_length_8abf5_4 : decode cJ5_length_8abf5 4 = .ok (.ireturn, 1) := by decide +kernel
theorem dJ5_ensureCapacityInternal_d00df_0 : decode cJ5_ensureCapacityInternal_d00df 0 = .ok (.aload_n 0, 1) := by decide +kernel
theorem dJ5_ensureCapacityInternal_d00df_1 : decode cJ5_ensureCapacityInternal_d00df 1 = .ok (.getfield 15, 3) := by decide +kernel
theorem dJ5_ensureCapacityInternal_d00df_4 : decode cJ5_ensureCapacityInternal_d00df 4 = .ok (.arraylength, 1) := by decide +kernel
theorem dJ5_ensureCapacityInternal_d00df_5 : decode cJ5_ensureCapacityInternal_d00df 5 = .ok (.aload_n 0, 1) := by decide +kernel
theorem dJ5_ensureCapacityInternal_d00df_6 : decode cJ5_ensureCapacityInternal_d00df 6 = .ok (.getfield 22, 3) := by decide +kernel
theorem dJ5_ensureCapacityInternal_d00df_9 : decode cJ5_ensureCapacityInternal_d00df 9 = .ok (.ishr, 1) := by decide +kernel
theorem dJ5_ensureCapacityInternal_d00df_10 : decode cJ5_ensureCapacityInternal_d00df 10 = .ok (.istore_n 2, 1) := by decide +kernel
theorem dJ5_ensureCapacityInternal_d00df_11 : decode cJ5_ensureCapacityInternal_d00df 11 = .ok (.iload_n 1, 1) := by decide +kernel
theorem dJ5_ensureCapacityInternal_d00df_12 : decode cJ5_ensureCapacityInternal_d00df 12 = .ok (.iload_n 2, 1) := by decide +kernel
theorem dJ5_ensureCapacityInternal_d00df_13 : decode cJ5_ensureCapacityInternal_d00df 13 = .ok (.isub, 1) := by decide +kernel
theorem dJ5_ensureCapacityInternal_d00df_14 : decode cJ5_ensureCapacityInternal_d00df 14 = .ok (.ifCond .le 24, 3) := by decide +kernel
theorem dJ5_ensureCapacityInternal_d00df_17 : decode cJ5_ensureCapacityInternal_d00df 17 = .ok (.aload_n 0, 1) := by decide +kernel
theorem dJ5_ensureCapacityInternal_d00df_18 : decode cJ5_ensureCapacityInternal_d00df 18 = .ok (.aload_n 0, 1) := by decide +kernel
theorem dJ5_ensureCapacityInternal_d00df_19 : decode cJ5_ensureCapacityInternal_d00df 19 = .ok (.getfield 15, 3) := by decide +kernel
theorem dJ5_ensureCapacityInternal_d00df_22 : decode cJ5_ensureCapacityInternal_d00df 22 = .ok (.aload_n 0, 1) := by decide +kernel
theorem dJ5_ensureCapacityInternal_d00df_23 : decode cJ5_ensureCapacityInternal_d00df 23 = .ok (.iload_n 1, 1) := by decide +kernel
theorem dJ5_ensureCapacityInternal_d00df_24 : decode cJ5_ensureCapacityInternal_d00df 24 = .ok (.invokevirtual 104, 3) := by decide +kernel
theorem dJ5_ensureCapacityInternal_d00df_27 : decode cJ5_ensureCapacityInternal_d00df 27 = .ok (.aload_n 0, 1) := by decide +kernel
theorem dJ5_ensureCapacityInternal_d00df_28 : decode cJ5_ensureCapacityInternal_d00df 28 = .ok (.getfield 22, 3) := by decide +kernel
theorem dJ5_ensureCapacityInternal_d00df_31 : decode cJ5_ensureCapacityInternal_d00df 31 = .ok (.ishl, 1) := by decide +kernel
theorem dJ5_ensureCapacityInternal_d00df_32 : decode cJ5_ensureCapacityInternal_d00df 32 = .ok (.invokestatic 108, 3) := by decide +kernel
theorem dJ5_ensureCapacityInternal_d00df_35 : decode cJ5_ensureCapacityInternal_d00df 35 = .ok (.putfield 15, 3) := by decide +kernel
theorem dJ5_ensureCapacityInternal_d00df_38 : decode cJ5_ensureCapacityInternal_d00df 38 = .ok (.return_, 1) := by decide +kernel
theorem dJ5_newCapacity_0f7a4_0 : decode cJ5_newCapacity_0f7a4 0 = .ok (.aload_n 0, 1) := by decide +kernel
theorem dJ5_newCapacity_0f7a4_1 : decode cJ5_newCapacity_0f7a4 1 = .ok (.getfield 15, 3) := by decide +kernel
theorem dJ5_newCapacity_0f7a4_4 : decode cJ5_newCapacity_0f7a4 4 = .ok (.arraylength, 1) := by decide +kernel
theorem dJ5_newCapacity_0f7a4_5 : decode cJ5_newCapacity_0f7a4 5 = .ok (.istore_n 2, 1) := by decide +kernel
theorem dJ5_newCapacity_0f7a4_6 : decode cJ5_newCapacity_0f7a4 6 = .ok (.iload_n 1, 1) := by decide +kernel
theorem dJ5_newCapacity_0f7a4_7 : decode cJ5_newCapacity_0f7a4 7 = .ok (.aload_n 0, 1) := by decide +kernel
theorem dJ5_newCapacity_0f7a4_8 : decode cJ5_newCapacity_0f7a4 8 = .ok (.getfield 22, 3) := by decide +kernel
theorem dJ5_newCapacity_0f7a4_11 : decode cJ5_newCapacity_0f7a4 11 = .ok (.ishl, 1) := by decide +kernel
theorem dJ5_newCapacity_0f7a4_12 : decode cJ5_newCapacity_0f7a4 12 = .ok (.istore_n 3, 1) := by decide +kernel
theorem dJ5_newCapacity_0f7a4_13 : decode cJ5_newCapacity_0f7a4 13 = .ok (.iload_n 3, 1) := by decide +kernel
theorem dJ5_newCapacity_0f7a4_14 : decode cJ5_newCapacity_0f7a4 14 = .ok (.iload_n 2, 1) := by decide +kernel
theorem dJ5_newCapacity_0f7a4_15 : decode cJ5_newCapacity_0f7a4 15 = .ok (.isub, 1) := by decide +kernel
theorem dJ5_newCapacity_0f7a4_16 : decode cJ5_newCapacity_0f7a4 16 = .ok (.istore 4, 2) := by decide +kernel
theorem dJ5_newCapacity_0f7a4_18 : decode cJ5_newCapacity_0f7a4 18 = .ok (.iload_n 2, 1) := by decide +kernel
theorem dJ5_newCapacity_0f7a4_19 : decode cJ5_newCapacity_0f7a4 19 = .ok (.iload 4, 2) := by decide +kernel
theorem dJ5_newCapacity_0f7a4_21 : decode cJ5_newCapacity_0f7a4 21 = .ok (.iload_n 2, 1) := by decide +kernel
theorem dJ5_newCapacity_0f7a4_22 : decode cJ5_newCapacity_0f7a4 22 = .ok (.iconst 2, 1) := by decide +kernel
theorem dJ5_newCapacity_0f7a4_23 : decode cJ5_newCapacity_0f7a4 23 = .ok (.aload_n 0, 1) := by decide +kernel
theorem dJ5_newCapacity_0f7a4_24 : decode cJ5_newCapacity_0f7a4 24 = .ok (.getfield 22, 3) := by decide +kernel
theorem dJ5_newCapacity_0f7a4_27 : decode cJ5_newCapacity_0f7a4 27 = .ok (.ishl, 1) := by decide +kernel
theorem dJ5_newCapacity_0f7a4_28 : decode cJ5_newCapacity_0f7a4 28 = .ok (.iadd, 1) := by decide +kernel
theorem dJ5_newCapacity_0f7a4_29 : decode cJ5_newCapacity_0f7a4 29 = .ok (.invokestatic 114, 3) := by decide +kernel
theorem dJ5_newCapacity_0f7a4_32 : decode cJ5_newCapacity_0f7a4 32 = .ok (.istore 5, 2) := by decide +kernel
theorem dJ5_newCapacity_0f7a4_34 : decode cJ5_newCapacity_0f7a4 34 = .ok (.iload 5, 2) := by decide +kernel
theorem dJ5_newCapacity_0f7a4_36 : decode cJ5_newCapacity_0f7a4 36 = .ok (.ldc 39, 2) := by decide +kernel
theorem dJ5_newCapacity_0f7a4_38 : decode cJ5_newCapacity_0f7a4 38 = .ok (.if_icmp .ne 13, 3) := by decide +kernel
theorem dJ5_newCapacity_0f7a4_41 : decode cJ5_newCapacity_0f7a4 41 = .ok (.new 120, 3) := by decide +kernel
theorem dJ5_newCapacity_0f7a4_44 : decode cJ5_newCapacity_0f7a4 44 = .ok (.dup, 1) := by decide +kernel
theorem dJ5_newCapacity_0f7a4_45 : decode cJ5_newCapacity_0f7a4 45 = .ok (.ldc 122, 2) := by decide +kernel
theorem dJ5_newCapacity_0f7a4_47 : decode cJ5_newCapacity_0f7a4 47 = .ok (.invokespecial 124, 3) := by decide +kernel
theorem dJ5_newCapacity_0f7a4_50 : decode cJ5_newCapacity_0f7a4 50 = .ok (.athrow, 1) := by decide +kernel
theorem dJ5_newCapacity_0f7a4_51 : decode cJ5_newCapacity_0f7a4 51 = .ok (.iload 5, 2) := by decide +kernel
theorem dJ5_newCapacity_0f7a4_53 : decode cJ5_newCapacity_0f7a4 53 = .ok (.aload_n 0, 1) := by decide +kernel
theorem dJ5_newCapacity_0f7a4_54 : decode cJ5_newCapacity_0f7a4 54 = .ok (.getfield 22, 3) := by decide +kernel
theorem dJ5_newCapacity_0f7a4_57 : decode cJ5_newCapacity_0f7a4 57 = .ok (.ishr, 1) := by decide +kernel
theorem dJ5_newCapacity_0f7a4_58 : decode cJ5_newCapacity_0f7a4 58 = .ok (.ireturn, 1) := by decide +kernel
theorem dJ5_inflate_da8c8_0 : decode cJ5_inflate_da8c8 0 = .ok (.aload_n 0, 1) := by decide +kernel
theorem dJ5_inflate_da8c8_1 : decode cJ5_inflate_da8c8 1 = .ok (.invokevirtual 83, 3) := by decide +kernel
theorem dJ5_inflate_da8c8_4 : decode cJ5_inflate_da8c8 4 = .ok (.ifCond .ne 4, 3) := by decide +kernel
theorem dJ5_inflate_da8c8_7 : decode cJ5_inflate_da8c8 7 = .ok (.return_, 1) := by decide +kernel
theorem dJ5_inflate_da8c8_8 : decode cJ5_inflate_da8c8 8 = .ok (.aload_n 0, 1) := by decide +kernel
theorem dJ5_inflate_da8c8_9 : decode cJ5_inflate_da8c8 9 = .ok (.getfield 15, 3) := by decide +kernel
theorem dJ5_inflate_da8c8_12 : decode cJ5_inflate_da8c8 12 = .ok (.arraylength, 1) := by decide +kernel
theorem dJ5_inflate_da8c8_13 : decode cJ5_inflate_da8c8 13 = .ok (.invokestatic 26, 3) := by decide +kernel
theorem dJ5_inflate_da8c8_16 : decode cJ5_inflate_da8c8 16 = .ok (.astore_n 1, 1) := by decide +kernel
theorem dJ5_inflate_da8c8_17 : decode cJ5_inflate_da8c8 17 = .ok (.aload_n 0, 1) := by decide +kernel
theorem dJ5_inflate_da8c8_18 : decode cJ5_inflate_da8c8 18 = .ok (.getfield 15, 3) := by decide +kernel
theorem dJ5_inflate_da8c8_21 : decode cJ5_inflate_da8c8 21 = .ok (.iconst 0, 1) := by decide +kernel
theorem dJ5_inflate_da8c8_22 : decode cJ5_inflate_da8c8 22 = .ok (.aload_n 1, 1) := by decide +kernel
theorem dJ5_inflate_da8c8_23 : decode cJ5_inflate_da8c8 23 = .ok (.iconst 0, 1) := by decide +kernel
theorem dJ5_inflate_da8c8_24 : decode cJ5_inflate_da8c8 24 = .ok (.aload_n 0, 1) := by decide +kernel
theorem dJ5_inflate_da8c8_25 : decode cJ5_inflate_da8c8 25 = .ok (.getfield 79, 3) := by decide +kernel
theorem dJ5_inflate_da8c8_28 : decode cJ5_inflate_da8c8 28 = .ok (.invokestatic 125, 3) := by decide +kernel
theorem dJ5_inflate_da8c8_31 : decode cJ5_inflate_da8c8 31 = .ok (.aload_n 0, 1) := by decide +kernel
theorem dJ5_inflate_da8c8_32 : decode cJ5_inflate_da8c8 32 = .ok (.aload_n 1, 1) := by decide +kernel
theorem dJ5_inflate_da8c8_33 : decode cJ5_inflate_da8c8 33 = .ok (.putfield 15, 3) := by decide +kernel
theorem dJ5_inflate_da8c8_36 : decode cJ5_inflate_da8c8 36 = .ok (.aload_n 0, 1) := by decide +kernel
theorem dJ5_inflate_da8c8_37 : decode cJ5_inflate_da8c8 37 = .ok (.iconst 1, 1) := by decide +kernel
theorem dJ5_inflate_da8c8_38 : decode cJ5_inflate_da8c8 38 = .ok (.putfield 22, 3) := by decide +kernel
theorem dJ5_inflate_da8c8_41 : decode cJ5_inflate_da8c8 41 = .ok (.return_, 1) := by decide +kernel
theorem dJ5_setLength_d00df_0 : decode cJ5_setLength_d00df 0 = .ok (.iload_n 1, 1) := by decide +kernel
theorem dJ5_setLength_d00df_1 : decode cJ5_setLength_d00df 1 = .ok (.ifCond .ge 12, 3) := by decide +kernel
theorem dJ5_setLength_d00df_4 : decode cJ5_setLength_d00df 4 = .ok (.new 129, 3) := by decide +kernel
theorem dJ5_setLength_d00df_7 : decode cJ5_setLength_d00df 7 = .ok (.dup, 1) := by decide +kernel
theorem dJ5_setLength_d00df_8 : decode cJ5_setLength_d00df 8 = .ok (.iload_n 1, 1) := by decide +kernel
theorem dJ5_setLength_d00df_9 : decode cJ5_setLength_d00df 9 = .ok (.invokespecial 131, 3) := by decide +kernel
theorem dJ5_setLength_d00df_12 : decode cJ5_setLength_d00df 12 = .ok (.athrow, 1) := by decide +kernel
theorem dJ5_setLength_d00df_13 : decode cJ5_setLength_d00df 13 = .ok (.aload_n 0, 1) := by decide +kernel
theorem dJ5_setLength_d00df_14 : decode cJ5_setLength_d00df 14 = .ok (.iload_n 1, 1) := by decide +kernel
theorem dJ5_setLength_d00df_15 : decode cJ5_setLength_d00df 15 = .ok (.invokevirtual 100, 3) := by decide +kernel
theorem dJ5_setLength_d00df_18 : decode cJ5_setLength_d00df 18 = .ok (.aload_n 0, 1) := by decide +kernel
theorem dJ5_setLength_d00df_19 : decode cJ5_setLength_d00df 19 = .ok (.getfield 79, 3) := by decide +kernel
theorem dJ5_setLength_d00df_22 : decode cJ5_setLength_d00df 22 = .ok (.iload_n 1, 1) := by decide +kernel
theorem dJ5_setLength_d00df_23 : decode cJ5_setLength_d00df 23 = .ok (.if_icmp .ge 40, 3) := by decide +kernel
theorem dJ5_setLength_d00df_26 : decode cJ5_setLength_d00df 26 = .ok (.aload_n 0, 1) := by decide +kernel
theorem dJ5_setLength_d00df_27 : decode cJ5_setLength_d00df 27 = .ok (.invokevirtual 83, 3) := by decide +kernel
theorem dJ5_setLength_d00df_30 : decode cJ5_setLength_d00df 30 = .ok (.ifCond .eq 18, 3) := by decide +kernel
theorem dJ5_setLength_d00df_33 : decode cJ5_setLength_d00df 33 = .ok (.aload_n 0, 1) := by decide +kernel
theorem dJ5_setLength_d00df_34 : decode cJ5_setLength_d00df 34 = .ok (.getfield 15, 3) := by decide +kernel
theorem dJ5_setLength_d00df_37 : decode cJ5_setLength_d00df 37 = .ok (.aload_n 0, 1) := by decide +kernel
theorem dJ5_setLength_d00df_38 : decode cJ5_setLength_d00df 38 = .ok (.getfield 79, 3) := by decide +kernel
theorem dJ5_setLength_d00df_41 : decode cJ5_setLength_d00df 41 = .ok (.iload_n 1, 1) := by decide +kernel
theorem dJ5_setLength_d00df_42 : decode cJ5_setLength_d00df 42 = .ok (.invokestatic 133, 3) := by decide +kernel
theorem dJ5_setLength_d00df_45 : decode cJ5_setLength_d00df 45 = .ok (.goto 31, 3) := by decide +kernel
theorem dJ5_setLength_d00df_48 : decode cJ5_setLength_d00df 48 = .ok (.aload_n 0, 1) := by decide +kernel
theorem dJ5_setLength_d00df_49 : decode cJ5_setLength_d00df 49 = .ok (.getfield 15, 3) := by decide +kernel
theorem dJ5_setLength_d00df_52 : decode cJ5_setLength_d00df 52 = .ok (.aload_n 0, 1) := by decide +kernel
theorem dJ5_setLength_d00df_53 : decode cJ5_setLength_d00df 53 = .ok (.getfield 79, 3) := by decide +kernel
theorem dJ5_setLength_d00df_56 : decode cJ5_setLength_d00df 56 = .ok (.iload_n 1, 1) := by decide +kernel
theorem dJ5_setLength_d00df_57 : decode cJ5_setLength_d00df 57 = .ok (.invokestatic 137, 3) := by decide +kernel
theorem dJ5_setLength_d00df_60 : decode cJ5_setLength_d00df 60 = .ok (.goto 16, 3) := by decide +kernel
theorem dJ5_setLength_d00df_63 : decode cJ5_setLength_d00df 63 = .ok (.aload_n 0, 1) := by decide +kernel
theorem dJ5_setLength_d00df_64 : decode cJ5_setLength_d00df 64 = .ok (.getfield 79, 3) := by decide +kernel
theorem dJ5_setLength_d00df_67 : decode cJ5_setLength_d00df 67 = .ok (.iload_n 1, 1) := by decide +kernel
theorem dJ5_setLength_d00df_68 : decode cJ5_setLength_d00df 68 = .ok (.if_icmp .le 8, 3) := by decide +kernel
theorem dJ5_setLength_d00df_71 : decode cJ5_setLength_d00df 71 = .ok (.aload_n 0, 1) := by decide +kernel
theorem dJ5_setLength_d00df_72 : decode cJ5_setLength_d00df 72 = .ok (.iconst 1, 1) := by decide +kernel
theorem dJ5_setLength_d00df_73 : decode cJ5_setLength_d00df 73 = .ok (.putfield 73, 3) := by decide +kernel
theorem dJ5_setLength_d00df_76 : decode cJ5_setLength_d00df 76 = .ok (.aload_n 0, 1) := by decide +kernel
theorem dJ5_setLength_d00df_77 : decode cJ5_setLength_d00df 77 = .ok (.iload_n 1, 1) := by decide +kernel
theorem dJ5_setLength_d00df_78 : decode cJ5_setLength_d00df 78 = .ok (.putfield 79, 3) := by decide +kernel
theorem dJ5_setLength_d00df_81 : decode cJ5_setLength_d00df 81 = .ok (.return_, 1) := by decide +kernel
theorem dJ5_charAt_5068e_0 : decode cJ5_charAt_5068e 0 = .ok (.aload_n 0, 1) := by decide +kernel
theorem dJ5_charAt_5068e_1 : decode cJ5_charAt_5068e 1 = .ok (.getfield 22, 3) := by decide +kernel
theorem dJ5_charAt_5068e_4 : decode cJ5_charAt_5068e 4 = .ok (.istore_n 2, 1) := by decide +kernel
theorem dJ5_charAt_5068e_5 : decode cJ5_charAt_5068e 5 = .ok (.aload_n 0, 1) := by decide +kernel
theorem dJ5_charAt_5068e_6 : decode cJ5_charAt_5068e 6 = .ok (.getfield 15, 3) := by decide +kernel
theorem dJ5_charAt_5068e_9 : decode cJ5_charAt_5068e 9 = .ok (.astore_n 3, 1) := by decide +kernel
theorem dJ5_charAt_5068e_10 : decode cJ5_charAt_5068e 10 = .ok (.aload_n 0, 1) := by decide +kernel
theorem dJ5_charAt_5068e_11 : decode cJ5_charAt_5068e 11 = .ok (.getfield 79, 3) := by decide +kernel
theorem dJ5_charAt_5068e_14 : decode cJ5_charAt_5068e 14 = .ok (.aload_n 3, 1) := by decide +kernel
theorem dJ5_charAt_5068e_15 : decode cJ5_charAt_5068e 15 = .ok (.arraylength, 1) := by decide +kernel
theorem dJ5_charAt_5068e_16 : decode cJ5_charAt_5068e 16 = .ok (.iload_n 2, 1) := by decide +kernel
theorem dJ5_charAt_5068e_17 : decode cJ5_charAt_5068e 17 = .ok (.ishr, 1) := by decide +kernel
theorem dJ5_charAt_5068e_18 : decode cJ5_charAt_5068e 18 = .ok (.invokestatic 138, 3) := by decide +kernel
theorem dJ5_charAt_5068e_21 : decode cJ5_charAt_5068e 21 = .ok (.istore 4, 2) := by decide +kernel
theorem dJ5_charAt_5068e_23 : decode cJ5_charAt_5068e 23 = .ok (.iload_n 1, 1) := by decide +kernel
theorem dJ5_charAt_5068e_24 : decode cJ5_charAt_5068e 24 = .ok (.iload 4, 2) := by decide +kernel
theorem dJ5_charAt_5068e_26 : decode cJ5_charAt_5068e 26 = .ok (.invokestatic 144, 3) := by decide +kernel
theorem dJ5_charAt_5068e_29 : decode cJ5_charAt_5068e 29 = .ok (.iload_n 2, 1) := by decide +kernel
theorem dJ5_charAt_5068e_30 : decode cJ5_charAt_5068e 30 = .ok (.ifCond .ne 12, 3) := by decide +kernel
theorem dJ5_charAt_5068e_33 : decode cJ5_charAt_5068e 33 = .ok (.aload_n 3, 1) := by decide +kernel
theorem dJ5_charAt_5068e_34 : decode cJ5_charAt_5068e 34 = .ok (.iload_n 1, 1) := by decide +kernel
theorem dJ5_charAt_5068e_35 : decode cJ5_charAt_5068e 35 = .ok (.baload, 1) := by decide +kernel
theorem dJ5_charAt_5068e_36 : decode cJ5_charAt_5068e 36 = .ok (.sipush 255, 3) := by decide +kernel
theorem dJ5_charAt_5068e_39 : decode cJ5_charAt_5068e 39 = .ok (.iand, 1) := by decide +kernel
theorem dJ5_charAt_5068e_40 : decode cJ5_charAt_5068e 40 = .ok (.i2c, 1) := by decide +kernel
theorem dJ5_charAt_5068e_41 : decode cJ5_charAt_5068e 41 = .ok (.ireturn, 1) := by decide +kernel
theorem dJ5_charAt_5068e_42 : decode cJ5_charAt_5068e 42 = .ok (.aload_n 3, 1) := by decide +kernel
theorem dJ5_charAt_5068e_43 : decode cJ5_charAt_5068e 43 = .ok (.iload_n 1, 1) := by decide +kernel
theorem dJ5_charAt_5068e_44 : decode cJ5_charAt_5068e 44 = .ok (.invokestatic 148, 3) := by decide +kernel
theorem dJ5_charAt_5068e_47 : decode cJ5_charAt_5068e 47 = .ok (.ireturn, 1) := by decide +kernel
theorem dJ5_append_cf1ce_0 : decode cJ5_append_cf1ce 0 = .ok (.aload_n 1, 1) := by decide +kernel
theorem dJ5_append_cf1ce_1 : decode cJ5_append_cf1ce 1 = .ok (.ifnonnull 8, 3) := by decide +kernel
theorem dJ5_append_cf1ce_4 : decode cJ5_append_cf1ce 4 = .ok (.aload_n 0, 1) := by decide +kernel
theorem dJ5_append_cf1ce_5 : decode cJ5_append_cf1ce 5 = .ok (.invokevirtual 204, 3) := by decide +kernel
theorem dJ5_append_cf1ce_8 : decode cJ5_append_cf1ce 8 = .ok (.areturn, 1) := by decide +kernel
theorem dJ5_append_cf1ce_9 : decode cJ5_append_cf1ce 9 = .ok (.aload_n 1, 1) := by decide +kernel
theorem dJ5_append_cf1ce_10 : decode cJ5_append_cf1ce 10 = .ok (.invokevirtual 32, 3) := by decide +kernel
theorem dJ5_append_cf1ce_13 : decode cJ5_append_cf1ce 13 = .ok (.istore_n 2, 1) := by decide +kernel
theorem dJ5_append_cf1ce_14 : decode cJ5_append_cf1ce 14 = .ok (.aload_n 0, 1) := by decide +kernel
theorem dJ5_append_cf1ce_15 : decode cJ5_append_cf1ce 15 = .ok (.aload_n 0, 1) := by decide +kernel
theorem dJ5_append_cf1ce_16 : decode cJ5_append_cf1ce 16 = .ok (.getfield 79, 3) := by decide +kernel
theorem dJ5_append_cf1ce_19 : decode cJ5_append_cf1ce 19 = .ok (.iload_n 2, 1) := by decide +kernel
theorem dJ5_append_cf1ce_20 : decode cJ5_append_cf1ce 20 = .ok (.iadd, 1) := by decide +kernel
theorem dJ5_append_cf1ce_21 : decode cJ5_append_cf1ce 21 = .ok (.invokevirtual 100, 3) := by decide +kernel
theorem dJ5_append_cf1ce_24 : decode cJ5_append_cf1ce 24 = .ok (.aload_n 0, 1) := by decide +kernel
theorem dJ5_append_cf1ce_25 : decode cJ5_append_cf1ce 25 = .ok (.aload_n 0, 1) := by decide +kernel
theorem dJ5_append_cf1ce_26 : decode cJ5_append_cf1ce 26 = .ok (.getfield 79, 3) := by decide +kernel
theorem dJ5_append_cf1ce_29 : decode cJ5_append_cf1ce 29 = .ok (.aload_n 1, 1) := by decide +kernel
theorem dJ5_append_cf1ce_30 : decode cJ5_append_cf1ce 30 = .ok (.invokevirtual 208, 3) := by decide +kernel
theorem dJ5_append_cf1ce_33 : decode cJ5_append_cf1ce 33 = .ok (.aload_n 0, 1) := by decide +kernel
theorem dJ5_append_cf1ce_34 : decode cJ5_append_cf1ce 34 = .ok (.dup, 1) := by decide +kernel
theorem dJ5_append_cf1ce_35 : decode cJ5_append_cf1ce 35 = .ok (.getfield 79, 3) := by decide +kernel
theorem dJ5_append_cf1ce_38 : decode cJ5_append_cf1ce 38 = .ok (.iload_n 2, 1) := by decide +kernel
theorem dJ5_append_cf1ce_39 : decode cJ5_append_cf1ce 39 = .ok (.iadd, 1) := by decide +kernel
theorem dJ5_append_cf1ce_40 : decode cJ5_append_cf1ce 40 = .ok (.putfield 79, 3) := by decide +kernel
theorem dJ5_append_cf1ce_43 : decode cJ5_append_cf1ce 43 = .ok (.aload_n 0, 1) := by decide +kernel
theorem dJ5_append_cf1ce_44 : decode cJ5_append_cf1ce 44 = .ok (.areturn, 1) := by decide +kernel
theorem dJ5_appendNull_278bc_0 : decode cJ5_appendNull_278bc 0 = .ok (.aload_n 0, 1) := by decide +kernel
theorem dJ5_appendNull_278bc_1 : decode cJ5_appendNull_278bc 1 = .ok (.aload_n 0, 1) := by decide +kernel
theorem dJ5_appendNull_278bc_2 : decode cJ5_appendNull_278bc 2 = .ok (.getfield 79, 3) := by decide +kernel
theorem dJ5_appendNull_278bc_5 : decode cJ5_appendNull_278bc 5 = .ok (.iconst 4, 1) := by decide +kernel
theorem dJ5_appendNull_278bc_6 : decode cJ5_appendNull_278bc 6 = .ok (.iadd, 1) := by decide +kernel
theorem dJ5_appendNull_278bc_7 : decode cJ5_appendNull_278bc 7 = .ok (.invokevirtual 100, 3) := by decide +kernel
theorem dJ5_appendNull_278bc_10 : decode cJ5_appendNull_278bc 10 = .ok (.aload_n 0, 1) := by decide +kernel
theorem dJ5_appendNull_278bc_11 : decode cJ5_appendNull_278bc 11 = .ok (.getfield 79, 3) := by decide +kernel
theorem dJ5_appendNull_278bc_14 : decode cJ5_appendNull_278bc 14 = .ok (.istore_n 1, 1) := by decide +kernel
theorem dJ5_appendNull_278bc_15 : decode cJ5_appendNull_278bc 15 = .ok (.aload_n 0, 1) := by decide +kernel
theorem dJ5_appendNull_278bc_16 : decode cJ5_appendNull_278bc 16 = .ok (.getfield 15, 3) := by decide +kernel
theorem dJ5_appendNull_278bc_19 : decode cJ5_appendNull_278bc 19 = .ok (.astore_n 2, 1) := by decide +kernel
theorem dJ5_appendNull_278bc_20 : decode cJ5_appendNull_278bc 20 = .ok (.aload_n 0, 1) := by decide +kernel
theorem dJ5_appendNull_278bc_21 : decode cJ5_appendNull_278bc 21 = .ok (.invokevirtual 83, 3) := by decide +kernel
theorem dJ5_appendNull_278bc_24 : decode cJ5_appendNull_278bc 24 = .ok (.ifCond .eq 38, 3) := by decide +kernel
theorem dJ5_appendNull_278bc_27 : decode cJ5_appendNull_278bc 27 = .ok (.aload_n 2, 1) := by decide +kernel
theorem dJ5_appendNull_278bc_28 : decode cJ5_appendNull_278bc 28 = .ok (.iload_n 1, 1) := by decide +kernel
theorem dJ5_appendNull_278bc_29 : decode cJ5_appendNull_278bc 29 = .ok (.iinc 1 1, 3) := by decide +kernel
theorem dJ5_appendNull_278bc_32 : decode cJ5_appendNull_278bc 32 = .ok (.bipush 110, 2) := by decide +kernel
theorem dJ5_appendNull_278bc_34 : decode cJ5_appendNull_278bc 34 = .ok (.bastore, 1) := by decide +kernel
theorem dJ5_appendNull_278bc_35 : decode cJ5_appendNull_278bc 35 = .ok (.aload_n 2, 1) := by decide +kernel
theorem dJ5_appendNull_278bc_36 : decode cJ5_appendNull_278bc 36 = .ok (.iload_n 1, 1) := by decide +kernel
theorem dJ5_appendNull_278bc_37 : decode cJ5_appendNull_278bc 37 = .ok (.iinc 1 1, 3) := by decide +kernel
theorem dJ5_appendNull_278bc_40 : decode cJ5_appendNull_278bc 40 = .ok (.bipush 117, 2) := by decide +kernel
theorem dJ5_appendNull_278bc_42 : decode cJ5_appendNull_278bc 42 = .ok (.bastore, 1) := by decide +kernel
theorem dJ5_appendNull_278bc_43 : decode cJ5_appendNull_278bc 43 = .ok (.aload_n 2, 1) := by decide +kernel
theorem dJ5_appendNull_278bc_44 : decode cJ5_appendNull_278bc 44 = .ok (.iload_n 1, 1) := by decide +kernel
theorem dJ5_appendNull_278bc_45 : decode cJ5_appendNull_278bc 45 = .ok (.iinc 1 1, 3) := by decide +kernel
theorem dJ5_appendNull_278bc_48 : decode cJ5_appendNull_278bc 48 = .ok (.bipush 108, 2) := by decide +kernel
theorem dJ5_appendNull_278bc_50 : decode cJ5_appendNull_278bc 50 = .ok (.bastore, 1) := by decide +kernel
theorem dJ5_appendNull_278bc_51 : decode cJ5_appendNull_278bc 51 = .ok (.aload_n 2, 1) := by decide +kernel
theorem dJ5_appendNull_278bc_52 : decode cJ5_appendNull_278bc 52 = .ok (.iload_n 1, 1) := by decide +kernel
theorem dJ5_appendNull_278bc_53 : decode cJ5_appendNull_278bc 53 = .ok (.iinc 1 1, 3) := by decide +kernel
theorem dJ5_appendNull_278bc_56 : decode cJ5_appendNull_278bc 56 = .ok (.bipush 108, 2) := by decide +kernel
theorem dJ5_appendNull_278bc_58 : decode cJ5_appendNull_278bc 58 = .ok (.bastore, 1) := by decide +kernel
theorem dJ5_appendNull_278bc_59 : decode cJ5_appendNull_278bc 59 = .ok (.goto 17, 3) := by decide +kernel
theorem dJ5_appendNull_278bc_62 : decode cJ5_appendNull_278bc 62 = .ok (.aload_n 2, 1) := by decide +kernel
theorem dJ5_appendNull_278bc_63 : decode cJ5_appendNull_278bc 63 = .ok (.iload_n 1, 1) := by decide +kernel
theorem dJ5_appendNull_278bc_64 : decode cJ5_appendNull_278bc 64 = .ok (.bipush 110, 2) := by decide +kernel
theorem dJ5_appendNull_278bc_66 : decode cJ5_appendNull_278bc 66 = .ok (.bipush 117, 2) := by decide +kernel
theorem dJ5_appendNull_278bc_68 : decode cJ5_appendNull_278bc 68 = .ok (.bipush 108, 2) := by decide +kernel
theorem dJ5_appendNull_278bc_70 : decode cJ5_appendNull_278bc 70 = .ok (.bipush 108, 2) := by decide +kernel
theorem dJ5_appendNull_278bc_72 : decode cJ5_appendNull_278bc 72 = .ok (.invokestatic 226, 3) := by decide +kernel
theorem dJ5_appendNull_278bc_75 : decode cJ5_appendNull_278bc 75 = .ok (.istore_n 1, 1) := by decide +kernel
theorem dJ5_appendNull_278bc_76 : decode cJ5_appendNull_278bc 76 = .ok (.aload_n 0, 1) := by decide +kernel
theorem dJ5_appendNull_278bc_77 : decode cJ5_appendNull_278bc 77 = .ok (.iload_n 1, 1) := by decide +kernel
theorem dJ5_appendNull_278bc_78 : decode cJ5_appendNull_278bc 78 = .ok (.putfield 79, 3) := by decide +kernel
theorem dJ5_appendNull_278bc_81 : decode cJ5_appendNull_278bc 81 = .ok (.aload_n 0, 1) := by decide +kernel
theorem dJ5_appendNull_278bc_82 : decode cJ5_appendNull_278bc 82 = .ok (.areturn, 1) := by decide +kernel
theorem dJ5_append_3fe6f_0 : decode cJ5_append_3fe6f 0 = .ok (.aload_n 0, 1) := by decide +kernel
theorem dJ5_append_3fe6f_1 : decode cJ5_append_3fe6f 1 = .ok (.aload_n 0, 1) := by decide +kernel
theorem dJ5_append_3fe6f_2 : decode cJ5_append_3fe6f 2 = .ok (.getfield 79, 3) := by decide +kernel
theorem dJ5_append_3fe6f_5 : decode cJ5_append_3fe6f 5 = .ok (.iconst 1, 1) := by decide +kernel
theorem dJ5_append_3fe6f_6 : decode cJ5_append_3fe6f 6 = .ok (.iadd, 1) := by decide +kernel
theorem dJ5_append_3fe6f_7 : decode cJ5_append_3fe6f 7 = .ok (.invokevirtual 100, 3) := by decide +kernel
theorem dJ5_append_3fe6f_10 : decode cJ5_append_3fe6f 10 = .ok (.aload_n 0, 1) := by decide +kernel
theorem dJ5_append_3fe6f_11 : decode cJ5_append_3fe6f 11 = .ok (.invokevirtual 83, 3) := by decide +kernel
theorem dJ5_append_3fe6f_14 : decode cJ5_append_3fe6f 14 = .ok (.ifCond .eq 31, 3) := by decide +kernel
